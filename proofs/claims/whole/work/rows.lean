section
-- ===== PART A: goes FIRST, ahead of the names: the tables' words, and 'selects' of the private methods out of them =====
/-- a private method of a class that the tables say can be made, by its rows of tables_1 -/
def lw_okq (q : MethodName × Nat) : Prop := (q.1.cls ≠ "java/lang/invoke/MethodHandle" ∧ q.1.cls ≠ "java/lang/invoke/VarHandle") ∧ Cond.instantiable q.1.cls q.2 ∈ tables_1 ∧ Cond.privateMethod q.1 ∈ tables_1 ∧ Cond.instanceMethod q.1 ∈ tables_1
theorem lw_p0 : lw_okq (⟨"ScaffoldYard", "wouldBeWhole", "(I)Z"⟩, 4) := ⟨⟨by decide +kernel, by decide +kernel⟩, List.mem_of_getElem? (i := 18) (by decide +kernel), List.mem_of_getElem? (i := 225) (by decide +kernel), List.mem_of_getElem? (i := 226) (by decide +kernel)⟩
theorem lw_p1 : lw_okq (⟨"ScaffoldYard", "countValue", "(I)I"⟩, 4) := ⟨⟨by decide +kernel, by decide +kernel⟩, List.mem_of_getElem? (i := 18) (by decide +kernel), List.mem_of_getElem? (i := 256) (by decide +kernel), List.mem_of_getElem? (i := 257) (by decide +kernel)⟩
theorem lw_p2 : lw_okq (⟨"ScaffoldYard", "mixSet", "(JI)J"⟩, 4) := ⟨⟨by decide +kernel, by decide +kernel⟩, List.mem_of_getElem? (i := 18) (by decide +kernel), List.mem_of_getElem? (i := 289) (by decide +kernel), List.mem_of_getElem? (i := 290) (by decide +kernel)⟩
theorem lw_p3 : lw_okq (⟨"ScaffoldYard", "mixSite", "(JI)J"⟩, 4) := ⟨⟨by decide +kernel, by decide +kernel⟩, List.mem_of_getElem? (i := 18) (by decide +kernel), List.mem_of_getElem? (i := 328) (by decide +kernel), List.mem_of_getElem? (i := 329) (by decide +kernel)⟩
theorem lw_p4 : lw_okq (⟨"ScaffoldYard", "mixText", "(J)J"⟩, 4) := ⟨⟨by decide +kernel, by decide +kernel⟩, List.mem_of_getElem? (i := 18) (by decide +kernel), List.mem_of_getElem? (i := 384) (by decide +kernel), List.mem_of_getElem? (i := 385) (by decide +kernel)⟩
theorem lw_p5 : lw_okq (⟨"java/lang/Throwable", "fillInStackTrace", "(I)Ljava/lang/Throwable;"⟩, 6) := ⟨⟨by decide +kernel, by decide +kernel⟩, List.mem_of_getElem? (i := 435) (by decide +kernel), List.mem_of_getElem? (i := 433) (by decide +kernel), List.mem_of_getElem? (i := 434) (by decide +kernel)⟩
theorem lw_p6 : lw_okq (⟨"ScaffoldYard", "needSet", "(I)V"⟩, 4) := ⟨⟨by decide +kernel, by decide +kernel⟩, List.mem_of_getElem? (i := 18) (by decide +kernel), List.mem_of_getElem? (i := 542) (by decide +kernel), List.mem_of_getElem? (i := 543) (by decide +kernel)⟩
theorem lw_p7 : lw_okq (⟨"ScaffoldYard", "needInYard", "(I)V"⟩, 4) := ⟨⟨by decide +kernel, by decide +kernel⟩, List.mem_of_getElem? (i := 18) (by decide +kernel), List.mem_of_getElem? (i := 548) (by decide +kernel), List.mem_of_getElem? (i := 549) (by decide +kernel)⟩
theorem lw_p8 : lw_okq (⟨"ScaffoldYard", "needStock", "(III)V"⟩, 4) := ⟨⟨by decide +kernel, by decide +kernel⟩, List.mem_of_getElem? (i := 18) (by decide +kernel), List.mem_of_getElem? (i := 570) (by decide +kernel), List.mem_of_getElem? (i := 571) (by decide +kernel)⟩
theorem lw_p9 : lw_okq (⟨"ScaffoldYard", "needOnSite", "(I)V"⟩, 4) := ⟨⟨by decide +kernel, by decide +kernel⟩, List.mem_of_getElem? (i := 18) (by decide +kernel), List.mem_of_getElem? (i := 649) (by decide +kernel), List.mem_of_getElem? (i := 650) (by decide +kernel)⟩
theorem lw_p10 : lw_okq (⟨"ScaffoldYard", "carryOut", "()Z"⟩, 4) := ⟨⟨by decide +kernel, by decide +kernel⟩, List.mem_of_getElem? (i := 18) (by decide +kernel), List.mem_of_getElem? (i := 741) (by decide +kernel), List.mem_of_getElem? (i := 742) (by decide +kernel)⟩
theorem lw_p11 : lw_okq (⟨"ScaffoldYard", "hireByText", "(II)Z"⟩, 4) := ⟨⟨by decide +kernel, by decide +kernel⟩, List.mem_of_getElem? (i := 18) (by decide +kernel), List.mem_of_getElem? (i := 745) (by decide +kernel), List.mem_of_getElem? (i := 746) (by decide +kernel)⟩
theorem lw_p12 : lw_okq (⟨"ScaffoldYard", "moveByText", "(II)Z"⟩, 4) := ⟨⟨by decide +kernel, by decide +kernel⟩, List.mem_of_getElem? (i := 18) (by decide +kernel), List.mem_of_getElem? (i := 749) (by decide +kernel), List.mem_of_getElem? (i := 750) (by decide +kernel)⟩
theorem lw_p13 : lw_okq (⟨"ScaffoldYard", "bringByText", "(I)Z"⟩, 4) := ⟨⟨by decide +kernel, by decide +kernel⟩, List.mem_of_getElem? (i := 18) (by decide +kernel), List.mem_of_getElem? (i := 753) (by decide +kernel), List.mem_of_getElem? (i := 754) (by decide +kernel)⟩
theorem lw_p14 : lw_okq (⟨"ScaffoldYard", "passByText", "(I)Z"⟩, 4) := ⟨⟨by decide +kernel, by decide +kernel⟩, List.mem_of_getElem? (i := 18) (by decide +kernel), List.mem_of_getElem? (i := 757) (by decide +kernel), List.mem_of_getElem? (i := 758) (by decide +kernel)⟩
theorem lw_p15 : lw_okq (⟨"ScaffoldYardModel", "save", "()V"⟩, 12) := ⟨⟨by decide +kernel, by decide +kernel⟩, List.mem_of_getElem? (i := 835) (by decide +kernel), List.mem_of_getElem? (i := 892) (by decide +kernel), List.mem_of_getElem? (i := 893) (by decide +kernel)⟩
def lw_privs_1 : List (MethodName × Nat) := [(⟨"ScaffoldYard", "wouldBeWhole", "(I)Z"⟩, 4), (⟨"ScaffoldYard", "countValue", "(I)I"⟩, 4), (⟨"ScaffoldYard", "mixSet", "(JI)J"⟩, 4), (⟨"ScaffoldYard", "mixSite", "(JI)J"⟩, 4), (⟨"ScaffoldYard", "mixText", "(J)J"⟩, 4), (⟨"java/lang/Throwable", "fillInStackTrace", "(I)Ljava/lang/Throwable;"⟩, 6), (⟨"ScaffoldYard", "needSet", "(I)V"⟩, 4), (⟨"ScaffoldYard", "needInYard", "(I)V"⟩, 4), (⟨"ScaffoldYard", "needStock", "(III)V"⟩, 4), (⟨"ScaffoldYard", "needOnSite", "(I)V"⟩, 4), (⟨"ScaffoldYard", "carryOut", "()Z"⟩, 4), (⟨"ScaffoldYard", "hireByText", "(II)Z"⟩, 4), (⟨"ScaffoldYard", "moveByText", "(II)Z"⟩, 4), (⟨"ScaffoldYard", "bringByText", "(I)Z"⟩, 4), (⟨"ScaffoldYard", "passByText", "(I)Z"⟩, 4), (⟨"ScaffoldYardModel", "save", "()V"⟩, 12)]
theorem lw_r1 : ∀ q ∈ lw_privs_1, lw_okq q := List.forall_mem_cons.mpr ⟨lw_p0, List.forall_mem_cons.mpr ⟨lw_p1, List.forall_mem_cons.mpr ⟨lw_p2, List.forall_mem_cons.mpr ⟨lw_p3, List.forall_mem_cons.mpr ⟨lw_p4, List.forall_mem_cons.mpr ⟨lw_p5, List.forall_mem_cons.mpr ⟨lw_p6, List.forall_mem_cons.mpr ⟨lw_p7, List.forall_mem_cons.mpr ⟨lw_p8, List.forall_mem_cons.mpr ⟨lw_p9, List.forall_mem_cons.mpr ⟨lw_p10, List.forall_mem_cons.mpr ⟨lw_p11, List.forall_mem_cons.mpr ⟨lw_p12, List.forall_mem_cons.mpr ⟨lw_p13, List.forall_mem_cons.mpr ⟨lw_p14, List.forall_mem_cons.mpr ⟨lw_p15, fun _ h => absurd h List.not_mem_nil⟩⟩⟩⟩⟩⟩⟩⟩⟩⟩⟩⟩⟩⟩⟩⟩
theorem lw_p16 : lw_okq (⟨"ScaffoldYardModel", "put", "(III)V"⟩, 12) := ⟨⟨by decide +kernel, by decide +kernel⟩, List.mem_of_getElem? (i := 835) (by decide +kernel), List.mem_of_getElem? (i := 896) (by decide +kernel), List.mem_of_getElem? (i := 897) (by decide +kernel)⟩
theorem lw_p17 : lw_okq (⟨"ScaffoldYardModel", "isSet", "(I)Z"⟩, 12) := ⟨⟨by decide +kernel, by decide +kernel⟩, List.mem_of_getElem? (i := 835) (by decide +kernel), List.mem_of_getElem? (i := 917) (by decide +kernel), List.mem_of_getElem? (i := 918) (by decide +kernel)⟩
theorem lw_p18 : lw_okq (⟨"ScaffoldYardModel", "isInYard", "(I)Z"⟩, 12) := ⟨⟨by decide +kernel, by decide +kernel⟩, List.mem_of_getElem? (i := 835) (by decide +kernel), List.mem_of_getElem? (i := 921) (by decide +kernel), List.mem_of_getElem? (i := 922) (by decide +kernel)⟩
theorem lw_p19 : lw_okq (⟨"ScaffoldYardModel", "of", "(II)I"⟩, 12) := ⟨⟨by decide +kernel, by decide +kernel⟩, List.mem_of_getElem? (i := 835) (by decide +kernel), List.mem_of_getElem? (i := 925) (by decide +kernel), List.mem_of_getElem? (i := 926) (by decide +kernel)⟩
theorem lw_p20 : lw_okq (⟨"ScaffoldYardModel", "hasSo", "(III)Z"⟩, 12) := ⟨⟨by decide +kernel, by decide +kernel⟩, List.mem_of_getElem? (i := 835) (by decide +kernel), List.mem_of_getElem? (i := 933) (by decide +kernel), List.mem_of_getElem? (i := 934) (by decide +kernel)⟩
theorem lw_p21 : lw_okq (⟨"ScaffoldYardModel", "charge", "(III)V"⟩, 12) := ⟨⟨by decide +kernel, by decide +kernel⟩, List.mem_of_getElem? (i := 835) (by decide +kernel), List.mem_of_getElem? (i := 937) (by decide +kernel), List.mem_of_getElem? (i := 938) (by decide +kernel)⟩
theorem lw_p22 : lw_okq (⟨"ScaffoldYardModel", "usersOf", "(I)I"⟩, 12) := ⟨⟨by decide +kernel, by decide +kernel⟩, List.mem_of_getElem? (i := 835) (by decide +kernel), List.mem_of_getElem? (i := 941) (by decide +kernel), List.mem_of_getElem? (i := 942) (by decide +kernel)⟩
theorem lw_p23 : lw_okq (⟨"ScaffoldYardModel", "shareOf", "(III)I"⟩, 12) := ⟨⟨by decide +kernel, by decide +kernel⟩, List.mem_of_getElem? (i := 835) (by decide +kernel), List.mem_of_getElem? (i := 945) (by decide +kernel), List.mem_of_getElem? (i := 946) (by decide +kernel)⟩
theorem lw_p24 : lw_okq (⟨"ScaffoldYardModel", "bill", "(III)V"⟩, 12) := ⟨⟨by decide +kernel, by decide +kernel⟩, List.mem_of_getElem? (i := 835) (by decide +kernel), List.mem_of_getElem? (i := 949) (by decide +kernel), List.mem_of_getElem? (i := 950) (by decide +kernel)⟩
theorem lw_p25 : lw_okq (⟨"ScaffoldYardModel", "partsOf", "(I)I"⟩, 12) := ⟨⟨by decide +kernel, by decide +kernel⟩, List.mem_of_getElem? (i := 835) (by decide +kernel), List.mem_of_getElem? (i := 957) (by decide +kernel), List.mem_of_getElem? (i := 958) (by decide +kernel)⟩
theorem lw_p26 : lw_okq (⟨"ScaffoldYardModel", "canHire", "(I)Z"⟩, 12) := ⟨⟨by decide +kernel, by decide +kernel⟩, List.mem_of_getElem? (i := 835) (by decide +kernel), List.mem_of_getElem? (i := 968) (by decide +kernel), List.mem_of_getElem? (i := 969) (by decide +kernel)⟩
theorem lw_p27 : lw_okq (⟨"ScaffoldYardModel", "inYard", "(Z)I"⟩, 12) := ⟨⟨by decide +kernel, by decide +kernel⟩, List.mem_of_getElem? (i := 835) (by decide +kernel), List.mem_of_getElem? (i := 972) (by decide +kernel), List.mem_of_getElem? (i := 973) (by decide +kernel)⟩
theorem lw_p28 : lw_okq (⟨"ScaffoldYardModel", "isWhole", "(I)Z"⟩, 12) := ⟨⟨by decide +kernel, by decide +kernel⟩, List.mem_of_getElem? (i := 835) (by decide +kernel), List.mem_of_getElem? (i := 976) (by decide +kernel), List.mem_of_getElem? (i := 977) (by decide +kernel)⟩
theorem lw_p29 : lw_okq (⟨"ScaffoldYardModel", "hires", "(II)I"⟩, 12) := ⟨⟨by decide +kernel, by decide +kernel⟩, List.mem_of_getElem? (i := 835) (by decide +kernel), List.mem_of_getElem? (i := 980) (by decide +kernel), List.mem_of_getElem? (i := 981) (by decide +kernel)⟩
theorem lw_p30 : lw_okq (⟨"ScaffoldYardModel", "comes", "(II)V"⟩, 12) := ⟨⟨by decide +kernel, by decide +kernel⟩, List.mem_of_getElem? (i := 835) (by decide +kernel), List.mem_of_getElem? (i := 984) (by decide +kernel), List.mem_of_getElem? (i := 985) (by decide +kernel)⟩
theorem lw_p31 : lw_okq (⟨"ScaffoldYardModel", "canMove", "(II)Z"⟩, 12) := ⟨⟨by decide +kernel, by decide +kernel⟩, List.mem_of_getElem? (i := 835) (by decide +kernel), List.mem_of_getElem? (i := 992) (by decide +kernel), List.mem_of_getElem? (i := 993) (by decide +kernel)⟩
def lw_privs_2 : List (MethodName × Nat) := [(⟨"ScaffoldYardModel", "put", "(III)V"⟩, 12), (⟨"ScaffoldYardModel", "isSet", "(I)Z"⟩, 12), (⟨"ScaffoldYardModel", "isInYard", "(I)Z"⟩, 12), (⟨"ScaffoldYardModel", "of", "(II)I"⟩, 12), (⟨"ScaffoldYardModel", "hasSo", "(III)Z"⟩, 12), (⟨"ScaffoldYardModel", "charge", "(III)V"⟩, 12), (⟨"ScaffoldYardModel", "usersOf", "(I)I"⟩, 12), (⟨"ScaffoldYardModel", "shareOf", "(III)I"⟩, 12), (⟨"ScaffoldYardModel", "bill", "(III)V"⟩, 12), (⟨"ScaffoldYardModel", "partsOf", "(I)I"⟩, 12), (⟨"ScaffoldYardModel", "canHire", "(I)Z"⟩, 12), (⟨"ScaffoldYardModel", "inYard", "(Z)I"⟩, 12), (⟨"ScaffoldYardModel", "isWhole", "(I)Z"⟩, 12), (⟨"ScaffoldYardModel", "hires", "(II)I"⟩, 12), (⟨"ScaffoldYardModel", "comes", "(II)V"⟩, 12), (⟨"ScaffoldYardModel", "canMove", "(II)Z"⟩, 12)]
theorem lw_r2 : ∀ q ∈ lw_privs_2, lw_okq q := List.forall_mem_cons.mpr ⟨lw_p16, List.forall_mem_cons.mpr ⟨lw_p17, List.forall_mem_cons.mpr ⟨lw_p18, List.forall_mem_cons.mpr ⟨lw_p19, List.forall_mem_cons.mpr ⟨lw_p20, List.forall_mem_cons.mpr ⟨lw_p21, List.forall_mem_cons.mpr ⟨lw_p22, List.forall_mem_cons.mpr ⟨lw_p23, List.forall_mem_cons.mpr ⟨lw_p24, List.forall_mem_cons.mpr ⟨lw_p25, List.forall_mem_cons.mpr ⟨lw_p26, List.forall_mem_cons.mpr ⟨lw_p27, List.forall_mem_cons.mpr ⟨lw_p28, List.forall_mem_cons.mpr ⟨lw_p29, List.forall_mem_cons.mpr ⟨lw_p30, List.forall_mem_cons.mpr ⟨lw_p31, fun _ h => absurd h List.not_mem_nil⟩⟩⟩⟩⟩⟩⟩⟩⟩⟩⟩⟩⟩⟩⟩⟩
theorem lw_p32 : lw_okq (⟨"ScaffoldYardModel", "moves", "(II)I"⟩, 12) := ⟨⟨by decide +kernel, by decide +kernel⟩, List.mem_of_getElem? (i := 835) (by decide +kernel), List.mem_of_getElem? (i := 996) (by decide +kernel), List.mem_of_getElem? (i := 997) (by decide +kernel)⟩
theorem lw_p33 : lw_okq (⟨"ScaffoldYardModel", "leaves", "(I)I"⟩, 12) := ⟨⟨by decide +kernel, by decide +kernel⟩, List.mem_of_getElem? (i := 835) (by decide +kernel), List.mem_of_getElem? (i := 1000) (by decide +kernel), List.mem_of_getElem? (i := 1001) (by decide +kernel)⟩
theorem lw_p34 : lw_okq (⟨"ScaffoldYardModel", "dueIn", "(II)I"⟩, 12) := ⟨⟨by decide +kernel, by decide +kernel⟩, List.mem_of_getElem? (i := 835) (by decide +kernel), List.mem_of_getElem? (i := 1004) (by decide +kernel), List.mem_of_getElem? (i := 1005) (by decide +kernel)⟩
theorem lw_p35 : lw_okq (⟨"ScaffoldYardModel", "owedBy", "(I)I"⟩, 12) := ⟨⟨by decide +kernel, by decide +kernel⟩, List.mem_of_getElem? (i := 835) (by decide +kernel), List.mem_of_getElem? (i := 1020) (by decide +kernel), List.mem_of_getElem? (i := 1021) (by decide +kernel)⟩
theorem lw_p36 : lw_okq (⟨"ScaffoldYardModel", "billedTo", "(I)I"⟩, 12) := ⟨⟨by decide +kernel, by decide +kernel⟩, List.mem_of_getElem? (i := 835) (by decide +kernel), List.mem_of_getElem? (i := 1024) (by decide +kernel), List.mem_of_getElem? (i := 1025) (by decide +kernel)⟩
theorem lw_p37 : lw_okq (⟨"ScaffoldYardModel", "ofSite", "(II)I"⟩, 12) := ⟨⟨by decide +kernel, by decide +kernel⟩, List.mem_of_getElem? (i := 835) (by decide +kernel), List.mem_of_getElem? (i := 1028) (by decide +kernel), List.mem_of_getElem? (i := 1029) (by decide +kernel)⟩
theorem lw_p38 : lw_okq (⟨"ScaffoldYardModel", "canPass", "(I)Z"⟩, 12) := ⟨⟨by decide +kernel, by decide +kernel⟩, List.mem_of_getElem? (i := 835) (by decide +kernel), List.mem_of_getElem? (i := 1039) (by decide +kernel), List.mem_of_getElem? (i := 1040) (by decide +kernel)⟩
theorem lw_p39 : lw_okq (⟨"ScaffoldYardModel", "rightUpTo", "()I"⟩, 12) := ⟨⟨by decide +kernel, by decide +kernel⟩, List.mem_of_getElem? (i := 835) (by decide +kernel), List.mem_of_getElem? (i := 1062) (by decide +kernel), List.mem_of_getElem? (i := 1063) (by decide +kernel)⟩
theorem lw_p40 : lw_okq (⟨"ScaffoldYardModel", "takes", "(I)Z"⟩, 12) := ⟨⟨by decide +kernel, by decide +kernel⟩, List.mem_of_getElem? (i := 835) (by decide +kernel), List.mem_of_getElem? (i := 1066) (by decide +kernel), List.mem_of_getElem? (i := 1067) (by decide +kernel)⟩
theorem lw_p41 : lw_okq (⟨"ScaffoldYardModel", "isEnded", "()Z"⟩, 12) := ⟨⟨by decide +kernel, by decide +kernel⟩, List.mem_of_getElem? (i := 835) (by decide +kernel), List.mem_of_getElem? (i := 1070) (by decide +kernel), List.mem_of_getElem? (i := 1071) (by decide +kernel)⟩
theorem lw_p42 : lw_okq (⟨"ScaffoldYardModel", "begins", "(I)Z"⟩, 12) := ⟨⟨by decide +kernel, by decide +kernel⟩, List.mem_of_getElem? (i := 835) (by decide +kernel), List.mem_of_getElem? (i := 1074) (by decide +kernel), List.mem_of_getElem? (i := 1075) (by decide +kernel)⟩
theorem lw_p43 : lw_okq (⟨"ScaffoldYardModel", "takesSite", "(III)Z"⟩, 12) := ⟨⟨by decide +kernel, by decide +kernel⟩, List.mem_of_getElem? (i := 835) (by decide +kernel), List.mem_of_getElem? (i := 1078) (by decide +kernel), List.mem_of_getElem? (i := 1079) (by decide +kernel)⟩
theorem lw_p44 : lw_okq (⟨"ScaffoldYardModel", "takesDigit", "(I)Z"⟩, 12) := ⟨⟨by decide +kernel, by decide +kernel⟩, List.mem_of_getElem? (i := 835) (by decide +kernel), List.mem_of_getElem? (i := 1082) (by decide +kernel), List.mem_of_getElem? (i := 1083) (by decide +kernel)⟩
theorem lw_p45 : lw_okq (⟨"ScaffoldYardModel", "carries", "(I)Z"⟩, 12) := ⟨⟨by decide +kernel, by decide +kernel⟩, List.mem_of_getElem? (i := 835) (by decide +kernel), List.mem_of_getElem? (i := 1090) (by decide +kernel), List.mem_of_getElem? (i := 1091) (by decide +kernel)⟩
theorem lw_p46 : lw_okq (⟨"ScaffoldYardModel", "canCarry", "(III)Z"⟩, 12) := ⟨⟨by decide +kernel, by decide +kernel⟩, List.mem_of_getElem? (i := 835) (by decide +kernel), List.mem_of_getElem? (i := 1094) (by decide +kernel), List.mem_of_getElem? (i := 1095) (by decide +kernel)⟩
theorem lw_p47 : lw_okq (⟨"ScaffoldYardModel", "bundleNow", "(II)I"⟩, 12) := ⟨⟨by decide +kernel, by decide +kernel⟩, List.mem_of_getElem? (i := 835) (by decide +kernel), List.mem_of_getElem? (i := 1106) (by decide +kernel), List.mem_of_getElem? (i := 1107) (by decide +kernel)⟩
def lw_privs_3 : List (MethodName × Nat) := [(⟨"ScaffoldYardModel", "moves", "(II)I"⟩, 12), (⟨"ScaffoldYardModel", "leaves", "(I)I"⟩, 12), (⟨"ScaffoldYardModel", "dueIn", "(II)I"⟩, 12), (⟨"ScaffoldYardModel", "owedBy", "(I)I"⟩, 12), (⟨"ScaffoldYardModel", "billedTo", "(I)I"⟩, 12), (⟨"ScaffoldYardModel", "ofSite", "(II)I"⟩, 12), (⟨"ScaffoldYardModel", "canPass", "(I)Z"⟩, 12), (⟨"ScaffoldYardModel", "rightUpTo", "()I"⟩, 12), (⟨"ScaffoldYardModel", "takes", "(I)Z"⟩, 12), (⟨"ScaffoldYardModel", "isEnded", "()Z"⟩, 12), (⟨"ScaffoldYardModel", "begins", "(I)Z"⟩, 12), (⟨"ScaffoldYardModel", "takesSite", "(III)Z"⟩, 12), (⟨"ScaffoldYardModel", "takesDigit", "(I)Z"⟩, 12), (⟨"ScaffoldYardModel", "carries", "(I)Z"⟩, 12), (⟨"ScaffoldYardModel", "canCarry", "(III)Z"⟩, 12), (⟨"ScaffoldYardModel", "bundleNow", "(II)I"⟩, 12)]
theorem lw_r3 : ∀ q ∈ lw_privs_3, lw_okq q := List.forall_mem_cons.mpr ⟨lw_p32, List.forall_mem_cons.mpr ⟨lw_p33, List.forall_mem_cons.mpr ⟨lw_p34, List.forall_mem_cons.mpr ⟨lw_p35, List.forall_mem_cons.mpr ⟨lw_p36, List.forall_mem_cons.mpr ⟨lw_p37, List.forall_mem_cons.mpr ⟨lw_p38, List.forall_mem_cons.mpr ⟨lw_p39, List.forall_mem_cons.mpr ⟨lw_p40, List.forall_mem_cons.mpr ⟨lw_p41, List.forall_mem_cons.mpr ⟨lw_p42, List.forall_mem_cons.mpr ⟨lw_p43, List.forall_mem_cons.mpr ⟨lw_p44, List.forall_mem_cons.mpr ⟨lw_p45, List.forall_mem_cons.mpr ⟨lw_p46, List.forall_mem_cons.mpr ⟨lw_p47, fun _ h => absurd h List.not_mem_nil⟩⟩⟩⟩⟩⟩⟩⟩⟩⟩⟩⟩⟩⟩⟩⟩
theorem lw_p48 : lw_okq (⟨"ScaffoldYardModel", "siteNow", "(II)I"⟩, 12) := ⟨⟨by decide +kernel, by decide +kernel⟩, List.mem_of_getElem? (i := 835) (by decide +kernel), List.mem_of_getElem? (i := 1114) (by decide +kernel), List.mem_of_getElem? (i := 1115) (by decide +kernel)⟩
theorem lw_p49 : lw_okq (⟨"ScaffoldYardModel", "sumOnSite", "(II)I"⟩, 12) := ⟨⟨by decide +kernel, by decide +kernel⟩, List.mem_of_getElem? (i := 835) (by decide +kernel), List.mem_of_getElem? (i := 1118) (by decide +kernel), List.mem_of_getElem? (i := 1119) (by decide +kernel)⟩
theorem lw_p50 : lw_okq (⟨"ScaffoldYardModel", "partNow", "(II)I"⟩, 12) := ⟨⟨by decide +kernel, by decide +kernel⟩, List.mem_of_getElem? (i := 835) (by decide +kernel), List.mem_of_getElem? (i := 1126) (by decide +kernel), List.mem_of_getElem? (i := 1127) (by decide +kernel)⟩
theorem lw_p51 : lw_okq (⟨"ScaffoldYardModel", "inSets", "(I)I"⟩, 12) := ⟨⟨by decide +kernel, by decide +kernel⟩, List.mem_of_getElem? (i := 835) (by decide +kernel), List.mem_of_getElem? (i := 1130) (by decide +kernel), List.mem_of_getElem? (i := 1131) (by decide +kernel)⟩
theorem lw_p52 : lw_okq (⟨"ScaffoldYardModel", "counted", "(I)I"⟩, 12) := ⟨⟨by decide +kernel, by decide +kernel⟩, List.mem_of_getElem? (i := 835) (by decide +kernel), List.mem_of_getElem? (i := 1138) (by decide +kernel), List.mem_of_getElem? (i := 1139) (by decide +kernel)⟩
theorem lw_p53 : lw_okq (⟨"ScaffoldYardModel", "billedToAll", "()I"⟩, 12) := ⟨⟨by decide +kernel, by decide +kernel⟩, List.mem_of_getElem? (i := 835) (by decide +kernel), List.mem_of_getElem? (i := 1142) (by decide +kernel), List.mem_of_getElem? (i := 1143) (by decide +kernel)⟩
theorem lw_p54 : lw_okq (⟨"ScaffoldYardModel", "paidByAll", "()I"⟩, 12) := ⟨⟨by decide +kernel, by decide +kernel⟩, List.mem_of_getElem? (i := 835) (by decide +kernel), List.mem_of_getElem? (i := 1146) (by decide +kernel), List.mem_of_getElem? (i := 1147) (by decide +kernel)⟩
theorem lw_p55 : lw_okq (⟨"ScaffoldYardModel", "splitNow", "(III)I"⟩, 12) := ⟨⟨by decide +kernel, by decide +kernel⟩, List.mem_of_getElem? (i := 835) (by decide +kernel), List.mem_of_getElem? (i := 1162) (by decide +kernel), List.mem_of_getElem? (i := 1163) (by decide +kernel)⟩
theorem lw_p56 : lw_okq (⟨"ScaffoldYardModel", "oldestOn", "(I)I"⟩, 12) := ⟨⟨by decide +kernel, by decide +kernel⟩, List.mem_of_getElem? (i := 835) (by decide +kernel), List.mem_of_getElem? (i := 1170) (by decide +kernel), List.mem_of_getElem? (i := 1171) (by decide +kernel)⟩
theorem lw_p57 : lw_okq (⟨"ScaffoldYardModel", "repairedThen", "()I"⟩, 12) := ⟨⟨by decide +kernel, by decide +kernel⟩, List.mem_of_getElem? (i := 835) (by decide +kernel), List.mem_of_getElem? (i := 1178) (by decide +kernel), List.mem_of_getElem? (i := 1179) (by decide +kernel)⟩
theorem lw_p58 : lw_okq (⟨"ScaffoldYardModel", "repairsThen", "(I)Z"⟩, 12) := ⟨⟨by decide +kernel, by decide +kernel⟩, List.mem_of_getElem? (i := 835) (by decide +kernel), List.mem_of_getElem? (i := 1182) (by decide +kernel), List.mem_of_getElem? (i := 1183) (by decide +kernel)⟩
theorem lw_p59 : lw_okq (⟨"ScaffoldYardModel", "share", "()D"⟩, 12) := ⟨⟨by decide +kernel, by decide +kernel⟩, List.mem_of_getElem? (i := 835) (by decide +kernel), List.mem_of_getElem? (i := 1190) (by decide +kernel), List.mem_of_getElem? (i := 1191) (by decide +kernel)⟩
theorem lw_p60 : lw_okq (⟨"ScaffoldYardModel", "mix", "(J)V"⟩, 12) := ⟨⟨by decide +kernel, by decide +kernel⟩, List.mem_of_getElem? (i := 835) (by decide +kernel), List.mem_of_getElem? (i := 1199) (by decide +kernel), List.mem_of_getElem? (i := 1200) (by decide +kernel)⟩
theorem lw_p61 : lw_okq (⟨"ScaffoldYardModel", "mixSet", "(I)V"⟩, 12) := ⟨⟨by decide +kernel, by decide +kernel⟩, List.mem_of_getElem? (i := 835) (by decide +kernel), List.mem_of_getElem? (i := 1204) (by decide +kernel), List.mem_of_getElem? (i := 1205) (by decide +kernel)⟩
def lw_privs_4 : List (MethodName × Nat) := [(⟨"ScaffoldYardModel", "siteNow", "(II)I"⟩, 12), (⟨"ScaffoldYardModel", "sumOnSite", "(II)I"⟩, 12), (⟨"ScaffoldYardModel", "partNow", "(II)I"⟩, 12), (⟨"ScaffoldYardModel", "inSets", "(I)I"⟩, 12), (⟨"ScaffoldYardModel", "counted", "(I)I"⟩, 12), (⟨"ScaffoldYardModel", "billedToAll", "()I"⟩, 12), (⟨"ScaffoldYardModel", "paidByAll", "()I"⟩, 12), (⟨"ScaffoldYardModel", "splitNow", "(III)I"⟩, 12), (⟨"ScaffoldYardModel", "oldestOn", "(I)I"⟩, 12), (⟨"ScaffoldYardModel", "repairedThen", "()I"⟩, 12), (⟨"ScaffoldYardModel", "repairsThen", "(I)Z"⟩, 12), (⟨"ScaffoldYardModel", "share", "()D"⟩, 12), (⟨"ScaffoldYardModel", "mix", "(J)V"⟩, 12), (⟨"ScaffoldYardModel", "mixSet", "(I)V"⟩, 12)]
theorem lw_r4 : ∀ q ∈ lw_privs_4, lw_okq q := List.forall_mem_cons.mpr ⟨lw_p48, List.forall_mem_cons.mpr ⟨lw_p49, List.forall_mem_cons.mpr ⟨lw_p50, List.forall_mem_cons.mpr ⟨lw_p51, List.forall_mem_cons.mpr ⟨lw_p52, List.forall_mem_cons.mpr ⟨lw_p53, List.forall_mem_cons.mpr ⟨lw_p54, List.forall_mem_cons.mpr ⟨lw_p55, List.forall_mem_cons.mpr ⟨lw_p56, List.forall_mem_cons.mpr ⟨lw_p57, List.forall_mem_cons.mpr ⟨lw_p58, List.forall_mem_cons.mpr ⟨lw_p59, List.forall_mem_cons.mpr ⟨lw_p60, List.forall_mem_cons.mpr ⟨lw_p61, fun _ h => absurd h List.not_mem_nil⟩⟩⟩⟩⟩⟩⟩⟩⟩⟩⟩⟩⟩⟩
def lw_privs : List (MethodName × Nat) := lw_privs_1 ++ (lw_privs_2 ++ (lw_privs_3 ++ (lw_privs_4)))
def lw_tbl : List Cond := k2_sels lw_privs ++ tables_1
theorem lw_privs_ok : ∀ q ∈ lw_privs, lw_okq q := by
  show ∀ q ∈ lw_privs_1 ++ (lw_privs_2 ++ (lw_privs_3 ++ (lw_privs_4))), lw_okq q
  exact List.forall_mem_append.mpr ⟨lw_r1, List.forall_mem_append.mpr ⟨lw_r2, List.forall_mem_append.mpr ⟨lw_r3, lw_r4⟩⟩⟩
/-- the streams that the claim lets the run draw from -/
abbrev lw_cs : List Choice := [Jvm.Choice.named "NaN.bits"]
theorem lw_bits : nanBits ∈ lw_cs := by first | decide | exact List.mem_cons_self | simp [lw_cs, nanBits]
-- ===== end of PART A; then your names; then what follows =====
end
section
/-! ===== BEGIN words of one list among another's, by their places ===== -/
theorem goodIn_r {big : List Cond} (ws : List Cond) (ps : List Nat) (hp : ws = ps.filterMap (fun i => big[i]?)) (h : ws.all goodWord = true) : GoodIn big ws := by
  intro w hw
  have h1 := List.all_eq_true.mp h w hw
  rw [hp] at hw
  obtain ⟨i, -, hi⟩ := List.mem_filterMap.mp hw
  have hm : w ∈ big := by first | exact List.mem_of_getElem? hi | exact List.getElem?_mem hi
  exact ⟨hm, good_of_word h1⟩
theorem goodIn_app {big a b : List Cond} (ha : GoodIn big a) (hb : GoodIn big b) : GoodIn big (a ++ b) := fun w h => (List.mem_append.mp h).elim (ha w) (hb w)
theorem goodIn_ca {big a b : List Cond} {c : Cond} (ha : GoodIn big (c :: a)) (hb : GoodIn big b) : GoodIn big (c :: (a ++ b)) := fun w h => (List.mem_cons.mp h).elim (fun e => ha w (List.mem_cons.mpr (Or.inl e))) (fun h => (List.mem_append.mp h).elim (fun h => ha w (List.mem_cons.mpr (Or.inr h))) (hb w))
theorem goodIn_sub {big ws : List Cond} (hm : ∀ w ∈ ws, w ∈ big) (h : ws.all goodWord = true) : GoodIn big ws := fun w hw => ⟨hm w hw, good_of_word (List.all_eq_true.mp h w hw)⟩
/-! ===== END ===== -/

/-! ===== BEGIN exceptions that leave a method, and their catching by the caller (launches without stack traces) ===== -/
section VXA
/-! The laws vx_back, vx_callV, vx_callS, vx_callSW, vx_throw0, vx_throwS follow proofs of the library, with one case more: JvmDerived/Free/Laws.lean (Back.of_free), Shelf42/LK1.lean (callV, callS), Shelf/KitTraced.lean (throwNew0V, throwNewS). -/
/-- where a method has thrown q: the class by its name, the cell, what was written, the world -/
def vx_T (XC : String → State → State → Prop) (st : State) (q : Addr) (t : State) (mc ms : Nat) (free : Addr → Prop) : Prop :=
  ∃ (E : String) (ce : Cell) (L : List Loc), XC E st t ∧ t.heap[q]? = some ce ∧ ce.vm = .none ∧ st.vm.findClass E = some ce.cls ∧ st.WarmedH t.vm ∧ st.sameButNew ({ t with vm := st.vm } : State) L mc ms ∧ ∀ z ∈ L, free z.base
def vx_Q (Qc : Array Value → State → Outcome → State → Prop) (XC : String → State → State → Prop) (mc ms : Nat) (free : Addr → Prop) : Array Value → State → Outcome → State → Prop := fun a st o t =>
  (Qc a st o t ∧ ∃ L, FrameEnd st o t L mc ms ∧ ∀ q ∈ L, free q.base) ∨ ∃ q, o = .threw q ∧ vx_T XC st q t mc ms free
/-- a callee that returns or throws -/
def vx_Met (l : Launch) (y : MethodName) (ws : List Cond) (rm : Room) (Pc : Array Value → State → Prop) (Qc : Array Value → State → Outcome → State → Prop) (XC : String → State → State → Prop) (mc ms : Nat) (free : Addr → Prop) : Prop :=
  MetFree l y (headSpec ws rm) Pc (fun _ _ _ _ _ => True) (vx_Q Qc XC mc ms free)
def vx_Post (XC : String → State → State → Prop) (mc ms : Nat) (free : Addr → Prop) : Pt → Array Value → Addr → Pt → Prop := fun A a q B =>
  ∃ (g : JFrame) (mk : MethodId) (t : State) (L : List Loc) (E : String) (ce : Cell), B.U.heap = t.heap ∧ B.U.vm = t.vm ∧ XC E (A.U.calling g mk a) t ∧ t.heap[q]? = some ce ∧ ce.vm = .none ∧ A.U.vm.findClass E = some ce.cls ∧ B.locs = A.locs ++ L ∧ (∀ z ∈ L, free z.base) ∧ B.cells = A.cells + mc ∧ B.slots = A.slots + ms
def vx_Back (l : Launch) (R : Room) (p : Program) (e : Env) (below : List Frame) (s : State) (sargs : Array Value) (y : MethodName) (len W9 : Nat)
    (Pre : Pt → Array Value → Prop) (Post : Pt → Array Value → Option Value → Pt → Prop) (PostX : Pt → Array Value → Addr → Pt → Prop) : Prop :=
  ∀ (m : MethodId) (meth : Method) (c : Code) (A : Pt) (g : JFrame) (ig : Instr) (mk : MethodId) (a : Array Value),
    Stand p l e R s m sargs below meth c A.U A.locs A.cells A.slots → g.method = m → g.locals.size = c.maxLocals → decode c.code g.pc = .ok (ig, len) →
    2 * g.monitorRoom + (g.stack.map fun v => v.category).sum ≤ W9 → A.U.methodNamed? y = some mk → Pre A a →
    (∃ (v : Option Value) (B : Pt), Stand p l e R s m sargs below meth c B.U B.locs B.cells B.slots ∧ Post A a v B ∧
      Steps p.tables e below (doInvoke e (A.U.setTop g) [] mk a).1 (B.U.setTop { g with pc := g.pc + len, stack := v.toList ++ g.stack })) ∨
    (∃ (q : Addr) (B : Pt), Stand p l e R s m sargs below meth c B.U B.locs B.cells B.slots ∧ PostX A a q B ∧
      Steps p.tables e below (doInvoke e (A.U.setTop g) [] mk a).1 ((B.U.setTop g).pushFrame (.throwing q)))
section Payer
variable {l : Launch} {R : Room} {p : Program} {e : Env} {below : List Frame} {s : State} {sargs : Array Value} {y : MethodName} {len W9 : Nat}
theorem vx_back {ws : List Cond} {rm : Room} {Pc : Array Value → State → Prop} {Qc : Array Value → State → Outcome → State → Prop} {XC : String → State → State → Prop} {mc ms : Nat} {free : Addr → Prop} {bytes : ByteArray} {maxL : Nat} {ret : Option FieldType}
    (hM : vx_Met l y ws rm Pc Qc XC mc ms free) (hblind : FrameBlind Pc) (hrc : rm.cells = mc) (hrs : rm.slots = ms)
    (hframes : rm.frames + 1 ≤ R.frames) (hlocals : W9 + (maxL + 11) + rm.locals ≤ R.locals)
    (hws : ∀ w ∈ ws, ∀ a' U, s.WarmedH U.vm → w.before a' U = true) (hcode : Cond.code y bytes maxL ret ∈ ws) (hinit : ∀ a' U, s.WarmedH U.vm → (Cond.initialized y.cls).before a' U = true) :
    vx_Back l R p e below s sargs y len W9 (PreOf R mc ms Pc) (PostOf Qc mc ms free) (vx_Post XC mc ms free) := by
  intro m meth c A g ig mk a X hg hsize hdg hW hn hp
  have h1 : (headSpec ws rm).pre.before a A.U = true := atoms_intro fun w hw => hws w hw _ _ X.warmed
  have h2 : (Cond.code y bytes maxL ret).before a A.U = true := hws _ hcode _ _ X.warmed
  have h3 : (Cond.initialized y.cls).before a A.U = true := hinit _ _ X.warmed
  have h4 : A.cells + (headSpec ws rm).room.cells ≤ R.cells := by rw [show (headSpec ws rm).room.cells = mc from hrc]; exact hp.1
  have h5 : A.slots + (headSpec ws rm).room.slots ≤ R.slots := by rw [show (headSpec ws rm).room.slots = ms from hrs]; exact hp.2.1
  have hPc : Pc a (A.U.calling g mk a) := hblind _ _ _ _ hp.2.2
  obtain ⟨U, Ls, c0, s0⟩ := A
  dsimp only [Pt.U, Pt.locs, Pt.cells, Pt.slots] at h1 h2 h3 h4 h5 X hn hPc ⊢
  obtain ⟨methY, cY, hmY, hcY, -, hlY, -, -, -, -⟩ := Cond.code_spec hn h2
  obtain ⟨kY, hkY, -⟩ := className_of_methodNamed hn
  have hinitY : kY.init = .initialized := Cond.initialized_spec (findClass_of_methodNamed hn) hkY h3
  have h : At U g.method c below := by rw [hg]; exact X.here
  have hlocals9 : W9 + (maxL + 11) + (headSpec ws rm).room.locals ≤ R.locals := hlocals
  have happ : (headSpec ws rm).appliesLoose y e.platform (U.calling g mk a) = true :=
    Spec.appliesLoose_calling (g := g) h hdg hn hkY hinitY
      (X.room_calling (g := g) (R' := (headSpec ws rm).room) hsize hmY hcY hframes (by rw [hlY]; omega) h4 h5) h1
  obtain ⟨mid, hmid⟩ := h.above
  have hfr : (U.setTop g).frames = (.java g :: mid) ++ below := by rw [State.frames_setTop' g h.top, hmid]; rfl
  obtain ⟨o, s₂, hsteps, -, hend, hq⟩ := Steps.callFree hM p X.admits X.cas X.clock (acts := []) hfr happ hPc trivial
  have hq' : vx_Q Qc XC mc ms free a (U.calling g mk a) o s₂ := hq
  rw [State.frames_setTop' g h.top] at hend
  obtain ⟨g₀, hg0⟩ := Option.isSome_iff_exists.mp h.top
  obtain ⟨r, hr⟩ := State.topJava?_eq_some.mp hg0
  have hr' : (({ U with heap := s₂.heap, slotsUsed := s₂.slotsUsed } : State).setVm s₂.vm).frames = .java g₀ :: r := hr
  rcases hq' with ⟨hqc, L, hfe, hL⟩ | ⟨q, rfl, E, ce, L, hx, hce, hcv, hcl, hW₂, hsm, hL⟩
  · obtain ⟨⟨v, rfl⟩, hW₂, e2, q2, q3, q4, q5, q6⟩ := id hfe
    have e3 : s₂ = ({ (U.calling g mk a).setFrames s₂.frames with heap := s₂.heap, slotsUsed := s₂.slotsUsed } : State).setVm s₂.vm := by
      have : s₂ = ({ s₂ with vm := (U.calling g mk a).vm } : State).setVm s₂.vm := rfl
      rw [e2] at this
      exact this
    obtain ⟨c₂, i₂, len₂, hc₂, hd₂, hf₂⟩ := hend
    have hW' : U.WarmedH s₂.vm := hW₂
    have hcc : c₂ = c := by
      have h1 : s₂.code? g.method = U.code? g.method := by
        rw [State.code?_eq, State.code?_eq, hW'.alike.method?]
      exact Option.some.inj (hc₂.symm.trans (h1.trans h.code))
    subst hcc
    have hlen : len₂ = len := by rw [hdg] at hd₂; cases hd₂; rfl
    subst hlen
    have hs₂ : s₂ = (({ U with heap := s₂.heap, slotsUsed := s₂.slotsUsed } : State).setVm s₂.vm).setTop { g with pc := g.pc + len₂, stack := v.toList ++ g.stack } := by
      refine e3.trans ?_
      rw [hf₂, State.calling_eq h.top, State.setFrames_setFrames, State.setTop_of_frames _ hr', hr]
      rfl
    have hsame : U.sameButNew ({ U with heap := s₂.heap, slotsUsed := s₂.slotsUsed } : State) L mc ms := by
      refine ⟨?_, q2, q3, q4, q5, q6⟩
      obtain ⟨t, ht, -⟩ := State.frames_cons hr
      show ({ U with heap := s₂.heap, slotsUsed := s₂.slotsUsed } : State) = { U.setFrames U.frames with heap := s₂.heap, slotsUsed := s₂.slotsUsed }
      rw [State.setFrames_self ht]
    subst hg
    refine Or.inl ⟨v, ⟨(({ U with heap := s₂.heap, slotsUsed := s₂.slotsUsed } : State).setVm s₂.vm), Ls ++ L, c0 + mc, s0 + ms⟩,
      ⟨X.admits, X.cas, X.clock, X.frames, X.room, X.hears, X.method, X.code, (X.here.setHeapUsed s₂.heap s₂.slotsUsed).setVm hW'.alike, X.tail, State.WarmedH.trans X.warmed hW', X.limits, X.bytes, X.same.trans (hsame.setVm s.vm)⟩,
      ⟨g, mk, s₂, L, rfl, rfl, hqc, rfl, hL, rfl, rfl⟩, ?_⟩
    show Steps p.tables e below _ ((({ U with heap := s₂.heap, slotsUsed := s₂.slotsUsed } : State).setVm s₂.vm).setTop { g with pc := g.pc + len₂, stack := v.toList ++ g.stack })
    rw [← hs₂]
    exact hsteps
  · obtain ⟨e2, q2, q3, q4, q5, q6⟩ := id hsm
    have e3 : s₂ = ({ (U.calling g mk a).setFrames s₂.frames with heap := s₂.heap, slotsUsed := s₂.slotsUsed } : State).setVm s₂.vm := by
      have : s₂ = ({ s₂ with vm := (U.calling g mk a).vm } : State).setVm s₂.vm := rfl
      rw [e2] at this
      exact this
    have hf₂ : s₂.frames = .throwing q :: .java g :: U.frames.tail := hend
    have hW' : U.WarmedH s₂.vm := hW₂
    have hs₂ : s₂ = ((({ U with heap := s₂.heap, slotsUsed := s₂.slotsUsed } : State).setVm s₂.vm).setTop g).pushFrame (.throwing q) := by
      refine e3.trans ?_
      rw [hf₂, State.calling_eq h.top, State.setFrames_setFrames, State.pushFrame, State.frames_setTop _ hr', State.setTop_of_frames _ hr', State.setFrames_setFrames, hr]
      rfl
    have hsame : U.sameButNew ({ U with heap := s₂.heap, slotsUsed := s₂.slotsUsed } : State) L mc ms := by
      refine ⟨?_, q2, q3, q4, q5, q6⟩
      obtain ⟨t, ht, -⟩ := State.frames_cons hr
      show ({ U with heap := s₂.heap, slotsUsed := s₂.slotsUsed } : State) = { U.setFrames U.frames with heap := s₂.heap, slotsUsed := s₂.slotsUsed }
      rw [State.setFrames_self ht]
    subst hg
    refine Or.inr ⟨q, ⟨(({ U with heap := s₂.heap, slotsUsed := s₂.slotsUsed } : State).setVm s₂.vm), Ls ++ L, c0 + mc, s0 + ms⟩,
      ⟨X.admits, X.cas, X.clock, X.frames, X.room, X.hears, X.method, X.code, (X.here.setHeapUsed s₂.heap s₂.slotsUsed).setVm hW'.alike, X.tail, State.WarmedH.trans X.warmed hW', X.limits, X.bytes, X.same.trans (hsame.setVm s.vm)⟩,
      ⟨g, mk, s₂, L, E, ce, rfl, rfl, hx, hce, hcv, hcl, rfl, hL, rfl, rfl⟩, ?_⟩
    show Steps p.tables e below _ (((({ U with heap := s₂.heap, slotsUsed := s₂.slotsUsed } : State).setVm s₂.vm).setTop g).pushFrame (.throwing q))
    rw [← hs₂]
    exact hsteps
end Payer
section Calls
variable {p : Program} {l : Launch} {e : Env} {R : Room} {s : State} {m : MethodId} {args : Array Value} {below : List Frame} {meth : Method} {c : Code} {T : State} {locs : List Loc} {cells slots : Nat}
theorem vx_callV (X : Stand p l e R s m args below meth c T locs cells slots) (hexec : p.tables.exec = Jvm.exec) {own C : String} {index : Nat} {y : MethodName} {bytes : ByteArray} {maxL : Nat} {ret : Option FieldType}
    (hown : s.vm.findClass own = some m.cls) (hlink : (Cond.methodLink own index y).before args s = true) (hinst : (Cond.instanceMethod y).before args s = true) (hsel : (Cond.selects C y y).before args s = true)
    (hcode : (Cond.code y bytes maxL ret).before args s = true) (hy : y.cls ≠ "java/lang/invoke/MethodHandle" ∧ y.cls ≠ "java/lang/invoke/VarHandle")
    {W9 : Nat} {Pre : Pt → Array Value → Prop} {Post : Pt → Array Value → Option Value → Pt → Prop} {PostX : Pt → Array Value → Addr → Pt → Prop} (hK : vx_Back l R p e below s args y 3 W9 Pre Post PostX)
    {b : Addr} {cellB : Cell} (hcell : T.heap[b]? = some cellB) (hobj : cellB.vm.isStatics = false) (hcls : s.vm.findClass C = some cellB.cls)
    {g : JFrame} (hg : g.method = m) (hsize : g.locals.size = c.maxLocals) {argsL rest : List Value} (hlen : ∀ sig, parseMethodDescriptor y.desc = some sig → argsL.length = sig.parameters.length)
    (hstack : g.stack = argsL.reverse ++ .ref b :: rest) (hW : 2 * g.monitorRoom + (rest.map fun v => v.category).sum ≤ W9) (hdg : decode c.code g.pc = .ok (.invokevirtual index, 3))
    (hpre : ∀ vm₁, s.WarmedH vm₁ → Pre ⟨T.setVm vm₁, locs, cells, slots⟩ (Value.ref b :: argsL).toArray) :
    (∃ (v : Option Value) (vm₁ : Vm) (B : Pt), s.WarmedH vm₁ ∧ Stand p l e R s m args below meth c B.U B.locs B.cells B.slots ∧ Post ⟨T.setVm vm₁, locs, cells, slots⟩ (Value.ref b :: argsL).toArray v B ∧
      ∀ target, Steps p.tables e below (B.U.setTop { g with pc := g.pc + 3, stack := v.toList ++ rest }) target → Steps p.tables e below (T.setTop g) target) ∨
    (∃ (q : Addr) (vm₁ : Vm) (B : Pt), s.WarmedH vm₁ ∧ Stand p l e R s m args below meth c B.U B.locs B.cells B.slots ∧ PostX ⟨T.setVm vm₁, locs, cells, slots⟩ (Value.ref b :: argsL).toArray q B ∧
      Steps p.tables e below (T.setTop g) ((B.U.setTop { g with stack := rest }).pushFrame (.throwing q))) := by
  obtain ⟨mk, methM, hnamed, hmethM, hstM, habM⟩ := Cond.instanceMethod_spec hinst
  obtain ⟨methM', cM, hmethM', -, -, -, -, -, -, hsigM⟩ := Cond.code_spec hnamed hcode
  cases hmethM.symm.trans hmethM'
  obtain ⟨c2, r2, m2, q1, q2, q3, q4, kP, hkP, hkPi⟩ := Cond.selects_spec hsel
  cases hcls.symm.trans q1
  cases (State.methodFound?_of_named hnamed hy).symm.trans q2
  cases hnamed.symm.trans q3
  have hselP : selectMethod e.platform s.vm cellB.cls mk = .method mk := by rw [Launch.admits_selectMethod X.admits]; exact q4
  obtain ⟨vm₁, X₁, hstep₁⟩ := X.invokevirtual hexec hown hlink hnamed hmethM hstM hkP hkPi hy (a := b) (cell := cellB) hcell
    (fun z h => by rw [h] at hobj; cases hobj) hselP hmethM habM hkP hkPi (g := g) hg (argsL := argsL) (rest := rest) (hlen _ hsigM) hstack hdg
  rcases hK m meth c ⟨T.setVm vm₁, locs, cells, slots⟩ { g with stack := rest } (.invokevirtual index) mk (Value.ref b :: argsL).toArray X₁ hg hsize hdg hW (X₁.named hnamed) (hpre vm₁ X₁.warmed) with ⟨v, B, X', hpost, hsteps⟩ | ⟨q, B, X', hpost, hsteps⟩
  · exact Or.inl ⟨v, vm₁, B, X₁.warmed, X', hpost, fun target h => hstep₁ _ fun acts => by rw [doInvoke_state]; exact hsteps.trans h⟩
  · exact Or.inr ⟨q, vm₁, B, X₁.warmed, X', hpost, hstep₁ _ fun acts => by rw [doInvoke_state]; exact hsteps⟩
theorem vx_callS (X : Stand p l e R s m args below meth c T locs cells slots) (hexec : p.tables.exec = Jvm.exec) {own : String} {index : Nat} {y : MethodName} {bytes : ByteArray} {maxL : Nat} {ret : Option FieldType}
    (hown : s.vm.findClass own = some m.cls) (hlink : (Cond.methodLink own index y).before args s = true) (hstat : (Cond.static y).before args s = true) (hinit : (Cond.initialized y.cls).before args s = true)
    (hcode : (Cond.code y bytes maxL ret).before args s = true) (hy : y.cls ≠ "java/lang/invoke/MethodHandle" ∧ y.cls ≠ "java/lang/invoke/VarHandle")
    {W9 : Nat} {Pre : Pt → Array Value → Prop} {Post : Pt → Array Value → Option Value → Pt → Prop} {PostX : Pt → Array Value → Addr → Pt → Prop} (hK : vx_Back l R p e below s args y 3 W9 Pre Post PostX)
    {g : JFrame} (hg : g.method = m) (hsize : g.locals.size = c.maxLocals) {argsL rest : List Value} (hlen : ∀ sig, parseMethodDescriptor y.desc = some sig → argsL.length = sig.parameters.length)
    (hstack : g.stack = argsL.reverse ++ rest) (hW : 2 * g.monitorRoom + (rest.map fun v => v.category).sum ≤ W9) (hdg : decode c.code g.pc = .ok (.invokestatic index, 3))
    (hpre : ∀ vm₁, s.WarmedH vm₁ → Pre ⟨T.setVm vm₁, locs, cells, slots⟩ argsL.toArray) :
    (∃ (v : Option Value) (vm₁ : Vm) (B : Pt), s.WarmedH vm₁ ∧ Stand p l e R s m args below meth c B.U B.locs B.cells B.slots ∧ Post ⟨T.setVm vm₁, locs, cells, slots⟩ argsL.toArray v B ∧
      ∀ target, Steps p.tables e below (B.U.setTop { g with pc := g.pc + 3, stack := v.toList ++ rest }) target → Steps p.tables e below (T.setTop g) target) ∨
    (∃ (q : Addr) (vm₁ : Vm) (B : Pt), s.WarmedH vm₁ ∧ Stand p l e R s m args below meth c B.U B.locs B.cells B.slots ∧ PostX ⟨T.setVm vm₁, locs, cells, slots⟩ argsL.toArray q B ∧
      Steps p.tables e below (T.setTop g) ((B.U.setTop { g with stack := rest }).pushFrame (.throwing q))) := by
  obtain ⟨mk, hnamed⟩ := Cond.code_named hcode
  obtain ⟨methM, cM, hmethM, -, -, -, -, -, -, hsigM⟩ := Cond.code_spec hnamed hcode
  have hstatic : methM.isStatic = true := Cond.static_spec hnamed hmethM hstat
  obtain ⟨kP, hkP, -⟩ := className_of_methodNamed hnamed
  have hinitP : kP.init = .initialized := Cond.initialized_spec (findClass_of_methodNamed hnamed) hkP hinit
  obtain ⟨vm₁, X₁, hstep₁⟩ := X.invokestatic hexec hown hlink hnamed hmethM hstatic hkP hinitP hy (g := g) hg (argsL := argsL) (rest := rest) (hlen _ hsigM) hstack hdg
  rcases hK m meth c ⟨T.setVm vm₁, locs, cells, slots⟩ { g with stack := rest } (.invokestatic index) mk argsL.toArray X₁ hg hsize hdg hW (X₁.named hnamed) (hpre vm₁ X₁.warmed) with ⟨v, B, X', hpost, hsteps⟩ | ⟨q, B, X', hpost, hsteps⟩
  · exact Or.inl ⟨v, vm₁, B, X₁.warmed, X', hpost, fun target h => hstep₁ _ fun acts => by rw [doInvoke_state]; exact hsteps.trans h⟩
  · exact Or.inr ⟨q, vm₁, B, X₁.warmed, X', hpost, hstep₁ _ fun acts => by rw [doInvoke_state]; exact hsteps⟩
end Calls
theorem vx_cls {s : State} {T : State} {vm₁ : Vm} {E : String} {k : ClassId} (hW : s.WarmedH vm₁) (h : (T.setVm vm₁).vm.findClass E = some k) : s.vm.findClass E = some k := by
  have h1 : vm₁.findClass E = some k := h
  rw [hW.alike.findClass] at h1
  exact h1
/-- the method's frame g, with q thrown over it -/
def vx_W (p : Program) (l : Launch) (e : Env) (R : Room) (s : State) (m : MethodId) (args : Array Value) (below : List Frame) (meth : Method) (c : Code) (H : Heap) (locs : List Loc) (cells slots : Nat) (Q : State → Prop) (g : JFrame) (q : Addr) : Prop :=
  ∀ T : State, T.heap = H → Stand p l e R s m args below meth c T locs cells slots → ∃ t, Steps p.tables e below ((T.setTop g).pushFrame (.throwing q)) t ∧ Q t
def vx_Run (p : Program) (l : Launch) (e : Env) (R : Room) (s : State) (m : MethodId) (args : Array Value) (below : List Frame) (meth : Method) (c : Code) (H : Heap) (locs : List Loc) (cells slots mc ms : Nat) (g : JFrame) (rest : List Value) (Qa : State → Outcome → State → Prop) (XC : String → State → State → Prop) (free : Addr → Prop) : Prop :=
  ∀ T : State, T.heap = H → Stand p l e R s m args below meth c T locs cells slots →
    (∃ (v : Option Value) (st₀ t T' : State) (L : List Loc), st₀.heap = H ∧ Stand p l e R s m args below meth c T' (locs ++ L) (cells + mc) (slots + ms) ∧ (∀ q ∈ L, free q.base) ∧ T'.heap = t.heap ∧ T'.vm = t.vm ∧ Qa st₀ (.returned v) t ∧
      Goes p e below T g T' { g with pc := g.pc + 3, stack := v.toList ++ rest }) ∨
    (∃ (q : Addr) (st₀ t T' : State) (L : List Loc) (E : String) (ce : Cell), st₀.heap = H ∧ Stand p l e R s m args below meth c T' (locs ++ L) (cells + mc) (slots + ms) ∧ (∀ z ∈ L, free z.base) ∧ T'.heap = t.heap ∧ T'.vm = t.vm ∧ XC E st₀ t ∧ t.heap[q]? = some ce ∧ ce.vm = .none ∧ s.vm.findClass E = some ce.cls ∧
      Steps p.tables e below (T.setTop g) ((T'.setTop { g with stack := rest }).pushFrame (.throwing q)))
def vx_X {S : Type} (px : S → Prop) (B : String → S → State → Prop) (A : Nat → Prop) : String → State → State → Prop := fun E st t => ∃ u : S, px u ∧ B E u t ∧ va_F A st t
section Runs
variable {p : Program} {l : Launch} {e : Env} {R : Room} {s : State} {m : MethodId} {args : Array Value} {below : List Frame} {meth : Method} {c : Code} {H : Heap} {locs : List Loc} {cells slots : Nat}
variable {y : MethodName} {bytes cc : ByteArray} {maxL nL mc ms n index : Nat} {ret : Option FieldType} {ws : List Cond} {rm : Room} {Pc : Array Value → State → Prop} {Qc : Array Value → State → Outcome → State → Prop} {XC : String → State → State → Prop} {free : Addr → Prop} {Ts : List Cond} {own C : String} {b : Addr} {As rest : List Value} {g : JFrame}
theorem vx_callBack (cb : CallB R s args own index y bytes maxL ret ws rm mc ms n) (hM : vx_Met l y ws rm Pc Qc XC mc ms free) (hbl : FrameBlind Pc) : vx_Back l R p e below s args y 3 8 (PreOf R mc ms Pc) (PostOf Qc mc ms free) (vx_Post XC mc ms free) := by
  obtain ⟨hrc, hrs, hfr, hlo, hws, hcw, -, hini, -⟩ := cb
  exact vx_back (bytes := bytes) (maxL := maxL) (ret := ret) hM hbl hrc hrs hfr hlo hws hcw (fun a' U hW => word_at hW (Or.inl (by first | rfl | simp [Cond.onTables, Cond.keeps, Cond.steady])) hini)
theorem vx_runV (S : CallFix p m c cc nL s args Ts own) (hM : vx_Met l y ws rm Pc Qc XC mc ms free) (cw : CallW R s args own C index y bytes maxL ret ws rm mc ms n) (hp : PreV s H C b Pc As)
    (hg : g.method = m) (hn : As.length = n) (hsize : g.locals.size = nL) (hstack : g.stack = As.reverse ++ .ref b :: rest) (hW : 2 * g.monitorRoom + (rest.map fun v => v.category).sum ≤ 8) (hdg : decode cc g.pc = .ok (.invokevirtual index, 3)) (hf : cells + mc ≤ R.cells ∧ slots + ms ≤ R.slots) :
    vx_Run p l e R s m args below meth c H locs cells slots mc ms g rest (Qc (Value.ref b :: As).toArray) XC free := by
  have hK : vx_Back l R p e below s args y 3 8 (PreOf R mc ms Pc) (PostOf Qc mc ms free) (vx_Post XC mc ms free) := vx_callBack cw.1 hM hp.1
  obtain ⟨⟨-, -, -, -, -, -, hcode, -, hy, hlen, hl⟩, hin, hse⟩ := cw
  obtain ⟨hx, hb, hml, ho, -⟩ := S
  obtain ⟨-, ⟨cellB, hcB, hoB, hclB⟩, hPc⟩ := hp
  intro T hT X
  rcases vx_callV X hx (C := C) (bytes := bytes) (maxL := maxL) (ret := ret) ho hl hin hse hcode hy hK (by rw [hT]; exact hcB) hoB hclB hg (hsize.trans hml.symm) (argsL := As) (rest := rest) (fun sig h => hn.trans (hlen sig h)) hstack hW (by rw [hb]; exact hdg)
    (fun vm₁ hW₁ => ⟨hf.1, hf.2, hPc (T.setVm vm₁) hT hW₁⟩) with ⟨v, vm₁, ⟨U', l2, c2, s2⟩, hW₁, X', ⟨g', mk, t, L, e1, e2, hq, h1, hL, h2, h3⟩, st⟩ | ⟨q, vm₁, ⟨U', l2, c2, s2⟩, hW₁, X', ⟨g', mk, t, L, E, ce, e1, e2, hq, hce, hcv, hcl, h1, hL, h2, h3⟩, st⟩
  · dsimp only [Pt.U, Pt.locs, Pt.cells, Pt.slots] at X' e1 e2 h1 h2 h3 st
    subst h1; subst h2; subst h3
    exact Or.inl ⟨v, (T.setVm vm₁).calling g' mk (Value.ref b :: As).toArray, t, U', L, hT, X', hL, e1, e2, hq, st⟩
  · dsimp only [Pt.U, Pt.locs, Pt.cells, Pt.slots] at X' e1 e2 h1 h2 h3 st hcl
    subst h1; subst h2; subst h3
    exact Or.inr ⟨q, (T.setVm vm₁).calling g' mk (Value.ref b :: As).toArray, t, U', L, E, ce, hT, X', hL, e1, e2, hq, hce, hcv, vx_cls hW₁ hcl, st⟩
theorem vx_runS (S : CallFix p m c cc nL s args Ts own) (hM : vx_Met l y ws rm Pc Qc XC mc ms free) (cw : CallB R s args own index y bytes maxL ret ws rm mc ms n ∧ (Cond.static y).before args s = true) (hp : PreS s H Pc As)
    (hg : g.method = m) (hn : As.length = n) (hsize : g.locals.size = nL) (hstack : g.stack = As.reverse ++ rest) (hW : 2 * g.monitorRoom + (rest.map fun v => v.category).sum ≤ 8) (hdg : decode cc g.pc = .ok (.invokestatic index, 3)) (hf : cells + mc ≤ R.cells ∧ slots + ms ≤ R.slots) :
    vx_Run p l e R s m args below meth c H locs cells slots mc ms g rest (Qc As.toArray) XC free := by
  have hK : vx_Back l R p e below s args y 3 8 (PreOf R mc ms Pc) (PostOf Qc mc ms free) (vx_Post XC mc ms free) := vx_callBack cw.1 hM hp.1
  obtain ⟨⟨-, -, -, -, -, -, hcode, hini, hy, hlen, hl⟩, hstt⟩ := cw
  obtain ⟨hx, hb, hml, ho, -⟩ := S
  intro T hT X
  rcases vx_callS X hx (bytes := bytes) (maxL := maxL) (ret := ret) ho hl hstt hini hcode hy hK hg (hsize.trans hml.symm) (argsL := As) (rest := rest) (fun sig h => hn.trans (hlen sig h)) hstack hW (by rw [hb]; exact hdg)
    (fun vm₁ hW₁ => ⟨hf.1, hf.2, hp.2 (T.setVm vm₁) hT hW₁⟩) with ⟨v, vm₁, ⟨U', l2, c2, s2⟩, hW₁, X', ⟨g', mk, t, L, e1, e2, hq, h1, hL, h2, h3⟩, st⟩ | ⟨q, vm₁, ⟨U', l2, c2, s2⟩, hW₁, X', ⟨g', mk, t, L, E, ce, e1, e2, hq, hce, hcv, hcl, h1, hL, h2, h3⟩, st⟩
  · dsimp only [Pt.U, Pt.locs, Pt.cells, Pt.slots] at X' e1 e2 h1 h2 h3 st
    subst h1; subst h2; subst h3
    exact Or.inl ⟨v, (T.setVm vm₁).calling g' mk As.toArray, t, U', L, hT, X', hL, e1, e2, hq, st⟩
  · dsimp only [Pt.U, Pt.locs, Pt.cells, Pt.slots] at X' e1 e2 h1 h2 h3 st hcl
    subst h1; subst h2; subst h3
    exact Or.inr ⟨q, (T.setVm vm₁).calling g' mk As.toArray, t, U', L, E, ce, hT, X', hL, e1, e2, hq, hce, hcv, vx_cls hW₁ hcl, st⟩
end Runs
section Rows
variable {p : Program} {l : Launch} {e : Env} {R : Room} {s : State} {m : MethodId} {args : Array Value} {below : List Frame} {meth : Method} {c : Code} {H : Heap} {locs : List Loc} {cells slots : Nat} {Q : State → Prop}
variable {mc ms : Nat} {free : Addr → Prop} {A0 A1 : Nat → Prop} {H0 : Heap} {a : Array Value} {pc : Nat} {ls : Array Slot} {st0 rest : List Value}
theorem vx_keep {st₀ t T' : State} {L : List Loc} (h0 : st₀.heap = H) (e1 : T'.heap = t.heap) (hS : va_S A0 H0 H locs) (hA : ∀ q, q < H.size → A1 q → A0 q) (hf : ∀ q, free q → A0 q) (hL : ∀ q ∈ L, free q.base) (hF : va_F A1 st₀ t) :
    H.size ≤ T'.heap.size ∧ (∀ q : Nat, q < H.size → ¬ A1 q → T'.heap[q]? = H[q]?) ∧ va_S A0 H0 T'.heap (locs ++ L) := by
  obtain ⟨hz, hk⟩ := hF
  rw [h0] at hz hk
  exact ⟨by rw [e1]; exact hz, fun q h1 h2 => by rw [e1]; exact hk q h1 h2,
    ⟨Nat.le_trans hS.1 (by rw [e1]; exact hz), fun q h1 h2 => by rw [e1, hk q (Nat.lt_of_lt_of_le h1 hS.1) (fun z => h2 (hA q (Nat.lt_of_lt_of_le h1 hS.1) z))]; exact hS.2.1 q h1 h2, fun q hq => by
      rcases List.mem_append.mp hq with h | h
      · exact hS.2.2 q h
      · exact hf _ (hL q h)⟩⟩
theorem vx_calli {S SX : Type} {post : Int32 → S → Prop} {px : SX → Prop} {B : S → State → Prop} {BX : String → SX → State → Prop} {AX : Nat → Prop} (hr : vx_Run p l e R s m args below meth c H locs cells slots mc ms (F0 m pc ls st0) rest (va_Qi post B A1 a) (vx_X px BX AX) free) (hS : va_S A0 H0 H locs) (hA : ∀ q, q < H.size → A1 q → A0 q) (hf : ∀ q, free q → A0 q) (hAX : ∀ q, q < H.size → AX q → A0 q)
    (kx : ∀ (E : String) (ce : Cell) (q9 : Addr) (u : SX) (t : State) (H1 : Heap) (locs1 : List Loc), t.heap = H1 → s.vm.Alike t.vm → px u → BX E u t → H.size ≤ H1.size → (∀ q : Nat, q < H.size → ¬ AX q → H1[q]? = H[q]?) → va_S A0 H0 H1 locs1 → H1[q9]? = some ce → ce.vm = .none → s.vm.findClass E = some ce.cls → vx_W p l e R s m args below meth c H1 locs1 (cells + mc) (slots + ms) Q (F0 m pc ls rest) q9)
    (kk : ∀ (r : Int32) (u : S) (t : State) (H1 : Heap) (locs1 : List Loc), t.heap = H1 → s.vm.Alike t.vm → post r u → B u t → H.size ≤ H1.size → (∀ q : Nat, q < H.size → ¬ A1 q → H1[q]? = H[q]?) → va_S A0 H0 H1 locs1 → W p l e R s m args below meth c H1 locs1 (cells + mc) (slots + ms) Q (F0 m (pc + 3) ls (.int r :: rest))) : W p l e R s m args below meth c H locs cells slots Q (F0 m pc ls st0) := by
  intro T hT X
  rcases hr T hT X with ⟨v, st₀, t, T', L, h0, X', hL, e1, e2, ⟨⟨r, u, hv, hp, hb⟩, hF⟩, st⟩ | ⟨q, st₀, t, T', L, E, ce, h0, X', hL, e1, e2, ⟨u, hp, hb, hF⟩, hce, hcv, hcl, st⟩
  · cases hv
    obtain ⟨k1, k2, k3⟩ := vx_keep h0 e1 hS hA hf hL hF
    obtain ⟨t2, a1, b1⟩ := kk r u t T'.heap (locs ++ L) e1.symm (by rw [← e2]; exact X'.warmed.alike) hp hb k1 k2 k3 T' rfl X'
    exact ⟨t2, st t2 a1, b1⟩
  · obtain ⟨k1, k2, k3⟩ := vx_keep h0 e1 hS hAX hf hL hF
    obtain ⟨t2, a1, b1⟩ := kx E ce q u t T'.heap (locs ++ L) e1.symm (by rw [← e2]; exact X'.warmed.alike) hp hb k1 k2 k3 (by rw [e1]; exact hce) hcv hcl T' rfl X'
    exact ⟨t2, st.trans a1, b1⟩
theorem vx_calll {S SX : Type} {post : Int64 → S → Prop} {px : SX → Prop} {B : S → State → Prop} {BX : String → SX → State → Prop} {AX : Nat → Prop} (hr : vx_Run p l e R s m args below meth c H locs cells slots mc ms (F0 m pc ls st0) rest (va_Ql post B A1 a) (vx_X px BX AX) free) (hS : va_S A0 H0 H locs) (hA : ∀ q, q < H.size → A1 q → A0 q) (hf : ∀ q, free q → A0 q) (hAX : ∀ q, q < H.size → AX q → A0 q)
    (kx : ∀ (E : String) (ce : Cell) (q9 : Addr) (u : SX) (t : State) (H1 : Heap) (locs1 : List Loc), t.heap = H1 → s.vm.Alike t.vm → px u → BX E u t → H.size ≤ H1.size → (∀ q : Nat, q < H.size → ¬ AX q → H1[q]? = H[q]?) → va_S A0 H0 H1 locs1 → H1[q9]? = some ce → ce.vm = .none → s.vm.findClass E = some ce.cls → vx_W p l e R s m args below meth c H1 locs1 (cells + mc) (slots + ms) Q (F0 m pc ls rest) q9)
    (kk : ∀ (r : Int64) (u : S) (t : State) (H1 : Heap) (locs1 : List Loc), t.heap = H1 → s.vm.Alike t.vm → post r u → B u t → H.size ≤ H1.size → (∀ q : Nat, q < H.size → ¬ A1 q → H1[q]? = H[q]?) → va_S A0 H0 H1 locs1 → W p l e R s m args below meth c H1 locs1 (cells + mc) (slots + ms) Q (F0 m (pc + 3) ls (.long r :: rest))) : W p l e R s m args below meth c H locs cells slots Q (F0 m pc ls st0) := by
  intro T hT X
  rcases hr T hT X with ⟨v, st₀, t, T', L, h0, X', hL, e1, e2, ⟨⟨r, u, hv, hp, hb⟩, hF⟩, st⟩ | ⟨q, st₀, t, T', L, E, ce, h0, X', hL, e1, e2, ⟨u, hp, hb, hF⟩, hce, hcv, hcl, st⟩
  · cases hv
    obtain ⟨k1, k2, k3⟩ := vx_keep h0 e1 hS hA hf hL hF
    obtain ⟨t2, a1, b1⟩ := kk r u t T'.heap (locs ++ L) e1.symm (by rw [← e2]; exact X'.warmed.alike) hp hb k1 k2 k3 T' rfl X'
    exact ⟨t2, st t2 a1, b1⟩
  · obtain ⟨k1, k2, k3⟩ := vx_keep h0 e1 hS hAX hf hL hF
    obtain ⟨t2, a1, b1⟩ := kx E ce q u t T'.heap (locs ++ L) e1.symm (by rw [← e2]; exact X'.warmed.alike) hp hb k1 k2 k3 (by rw [e1]; exact hce) hcv hcl T' rfl X'
    exact ⟨t2, st.trans a1, b1⟩
theorem vx_callf {S SX : Type} {post : UInt32 → S → Prop} {px : SX → Prop} {B : S → State → Prop} {BX : String → SX → State → Prop} {AX : Nat → Prop} (hr : vx_Run p l e R s m args below meth c H locs cells slots mc ms (F0 m pc ls st0) rest (va_Qf post B A1 a) (vx_X px BX AX) free) (hS : va_S A0 H0 H locs) (hA : ∀ q, q < H.size → A1 q → A0 q) (hf : ∀ q, free q → A0 q) (hAX : ∀ q, q < H.size → AX q → A0 q)
    (kx : ∀ (E : String) (ce : Cell) (q9 : Addr) (u : SX) (t : State) (H1 : Heap) (locs1 : List Loc), t.heap = H1 → s.vm.Alike t.vm → px u → BX E u t → H.size ≤ H1.size → (∀ q : Nat, q < H.size → ¬ AX q → H1[q]? = H[q]?) → va_S A0 H0 H1 locs1 → H1[q9]? = some ce → ce.vm = .none → s.vm.findClass E = some ce.cls → vx_W p l e R s m args below meth c H1 locs1 (cells + mc) (slots + ms) Q (F0 m pc ls rest) q9)
    (kk : ∀ (r : UInt32) (u : S) (t : State) (H1 : Heap) (locs1 : List Loc), t.heap = H1 → s.vm.Alike t.vm → post r u → B u t → H.size ≤ H1.size → (∀ q : Nat, q < H.size → ¬ A1 q → H1[q]? = H[q]?) → va_S A0 H0 H1 locs1 → W p l e R s m args below meth c H1 locs1 (cells + mc) (slots + ms) Q (F0 m (pc + 3) ls (.float r :: rest))) : W p l e R s m args below meth c H locs cells slots Q (F0 m pc ls st0) := by
  intro T hT X
  rcases hr T hT X with ⟨v, st₀, t, T', L, h0, X', hL, e1, e2, ⟨⟨r, u, hv, hp, hb⟩, hF⟩, st⟩ | ⟨q, st₀, t, T', L, E, ce, h0, X', hL, e1, e2, ⟨u, hp, hb, hF⟩, hce, hcv, hcl, st⟩
  · cases hv
    obtain ⟨k1, k2, k3⟩ := vx_keep h0 e1 hS hA hf hL hF
    obtain ⟨t2, a1, b1⟩ := kk r u t T'.heap (locs ++ L) e1.symm (by rw [← e2]; exact X'.warmed.alike) hp hb k1 k2 k3 T' rfl X'
    exact ⟨t2, st t2 a1, b1⟩
  · obtain ⟨k1, k2, k3⟩ := vx_keep h0 e1 hS hAX hf hL hF
    obtain ⟨t2, a1, b1⟩ := kx E ce q u t T'.heap (locs ++ L) e1.symm (by rw [← e2]; exact X'.warmed.alike) hp hb k1 k2 k3 (by rw [e1]; exact hce) hcv hcl T' rfl X'
    exact ⟨t2, st.trans a1, b1⟩
theorem vx_calld {S SX : Type} {post : UInt64 → S → Prop} {px : SX → Prop} {B : S → State → Prop} {BX : String → SX → State → Prop} {AX : Nat → Prop} (hr : vx_Run p l e R s m args below meth c H locs cells slots mc ms (F0 m pc ls st0) rest (va_Qd post B A1 a) (vx_X px BX AX) free) (hS : va_S A0 H0 H locs) (hA : ∀ q, q < H.size → A1 q → A0 q) (hf : ∀ q, free q → A0 q) (hAX : ∀ q, q < H.size → AX q → A0 q)
    (kx : ∀ (E : String) (ce : Cell) (q9 : Addr) (u : SX) (t : State) (H1 : Heap) (locs1 : List Loc), t.heap = H1 → s.vm.Alike t.vm → px u → BX E u t → H.size ≤ H1.size → (∀ q : Nat, q < H.size → ¬ AX q → H1[q]? = H[q]?) → va_S A0 H0 H1 locs1 → H1[q9]? = some ce → ce.vm = .none → s.vm.findClass E = some ce.cls → vx_W p l e R s m args below meth c H1 locs1 (cells + mc) (slots + ms) Q (F0 m pc ls rest) q9)
    (kk : ∀ (r : UInt64) (u : S) (t : State) (H1 : Heap) (locs1 : List Loc), t.heap = H1 → s.vm.Alike t.vm → post r u → B u t → H.size ≤ H1.size → (∀ q : Nat, q < H.size → ¬ A1 q → H1[q]? = H[q]?) → va_S A0 H0 H1 locs1 → W p l e R s m args below meth c H1 locs1 (cells + mc) (slots + ms) Q (F0 m (pc + 3) ls (.double r :: rest))) : W p l e R s m args below meth c H locs cells slots Q (F0 m pc ls st0) := by
  intro T hT X
  rcases hr T hT X with ⟨v, st₀, t, T', L, h0, X', hL, e1, e2, ⟨⟨r, u, hv, hp, hb⟩, hF⟩, st⟩ | ⟨q, st₀, t, T', L, E, ce, h0, X', hL, e1, e2, ⟨u, hp, hb, hF⟩, hce, hcv, hcl, st⟩
  · cases hv
    obtain ⟨k1, k2, k3⟩ := vx_keep h0 e1 hS hA hf hL hF
    obtain ⟨t2, a1, b1⟩ := kk r u t T'.heap (locs ++ L) e1.symm (by rw [← e2]; exact X'.warmed.alike) hp hb k1 k2 k3 T' rfl X'
    exact ⟨t2, st t2 a1, b1⟩
  · obtain ⟨k1, k2, k3⟩ := vx_keep h0 e1 hS hAX hf hL hF
    obtain ⟨t2, a1, b1⟩ := kx E ce q u t T'.heap (locs ++ L) e1.symm (by rw [← e2]; exact X'.warmed.alike) hp hb k1 k2 k3 (by rw [e1]; exact hce) hcv hcl T' rfl X'
    exact ⟨t2, st.trans a1, b1⟩
theorem vx_callv {S SX : Type} {post : S → Prop} {px : SX → Prop} {B : S → State → Prop} {BX : String → SX → State → Prop} {AX : Nat → Prop} (hr : vx_Run p l e R s m args below meth c H locs cells slots mc ms (F0 m pc ls st0) rest (va_Qv post B A1 a) (vx_X px BX AX) free) (hS : va_S A0 H0 H locs) (hA : ∀ q, q < H.size → A1 q → A0 q) (hf : ∀ q, free q → A0 q) (hAX : ∀ q, q < H.size → AX q → A0 q)
    (kx : ∀ (E : String) (ce : Cell) (q9 : Addr) (u : SX) (t : State) (H1 : Heap) (locs1 : List Loc), t.heap = H1 → s.vm.Alike t.vm → px u → BX E u t → H.size ≤ H1.size → (∀ q : Nat, q < H.size → ¬ AX q → H1[q]? = H[q]?) → va_S A0 H0 H1 locs1 → H1[q9]? = some ce → ce.vm = .none → s.vm.findClass E = some ce.cls → vx_W p l e R s m args below meth c H1 locs1 (cells + mc) (slots + ms) Q (F0 m pc ls rest) q9)
    (kk : ∀ (u : S) (t : State) (H1 : Heap) (locs1 : List Loc), t.heap = H1 → s.vm.Alike t.vm → post u → B u t → H.size ≤ H1.size → (∀ q : Nat, q < H.size → ¬ A1 q → H1[q]? = H[q]?) → va_S A0 H0 H1 locs1 → W p l e R s m args below meth c H1 locs1 (cells + mc) (slots + ms) Q (F0 m (pc + 3) ls (rest))) : W p l e R s m args below meth c H locs cells slots Q (F0 m pc ls st0) := by
  intro T hT X
  rcases hr T hT X with ⟨v, st₀, t, T', L, h0, X', hL, e1, e2, ⟨⟨u, hv, hp, hb⟩, hF⟩, st⟩ | ⟨q, st₀, t, T', L, E, ce, h0, X', hL, e1, e2, ⟨u, hp, hb, hF⟩, hce, hcv, hcl, st⟩
  · cases hv
    obtain ⟨k1, k2, k3⟩ := vx_keep h0 e1 hS hA hf hL hF
    obtain ⟨t2, a1, b1⟩ := kk u t T'.heap (locs ++ L) e1.symm (by rw [← e2]; exact X'.warmed.alike) hp hb k1 k2 k3 T' rfl X'
    exact ⟨t2, st t2 a1, b1⟩
  · obtain ⟨k1, k2, k3⟩ := vx_keep h0 e1 hS hAX hf hL hF
    obtain ⟨t2, a1, b1⟩ := kx E ce q u t T'.heap (locs ++ L) e1.symm (by rw [← e2]; exact X'.warmed.alike) hp hb k1 k2 k3 (by rw [e1]; exact hce) hcv hcl T' rfl X'
    exact ⟨t2, st.trans a1, b1⟩
/-- caught by the row x of this method's table; the rows ahead don't take it -/
theorem vx_catch {own name : String} {E : String} {ce : Cell} {q : Addr} (hown : s.vm.findClass own = some m.cls) (pre : List ExceptionTableEntry) (x : ExceptionTableEntry) (suf : List ExceptionTableEntry) (hsplit : c.exceptionTable.toList = pre ++ x :: suf)
    (hpass : ∀ z ∈ pre, covers z pc = false ∨ (z.catchType ≠ 0 ∧ ∃ nm : String, (Cond.classLink own z.catchType nm).before args s = true ∧ va_Nc E nm s)) (hx : covers x pc = true) (h0 : x.catchType ≠ 0)
    (hlink : (Cond.classLink own x.catchType name).before args s = true) (hcast : (Cond.castable E name).before args s = true) (hcell : H[q]? = some ce) (hv : ce.vm = .none) (hcl : s.vm.findClass E = some ce.cls)
    (kk : W p l e R s m args below meth c H locs cells slots Q (F0 m x.handlerPc ls [.ref q])) : vx_W p l e R s m args below meth c H locs cells slots Q (F0 m pc ls rest) q := by
  intro T hT X
  have hpl : e.platform.magicAccessors = ({} : Platform).magicAccessors := by rw [X.admits.platform]
  obtain ⟨c3, c4, hc3, hc4, hasg⟩ := Cond.castable_spec hcast
  cases Option.some.inj (hc3.symm.trans hcl)
  obtain ⟨c5, hc5, hcl5⟩ := Cond.classLink_spec hown hlink e.platform hpl
  cases Option.some.inj (hc4.symm.trans hc5)
  obtain ⟨vm', X', st⟩ := X.thenCaughtThrough q (g := F0 m pc ls rest) rfl (Steps.refl _) (by rw [hT]; exact hcell) (by rw [hv]; rfl) (by obtain ⟨k9, h9, -⟩ := Vm.findClass_spec hcl; exact ⟨k9, h9⟩) pre x suf hsplit
    (fun z hz => by
      rcases hpass z hz with h | ⟨hz0, nm, hl1, hn1⟩
      · exact Or.inl h
      · obtain ⟨c6, hc6, hcl6⟩ := Cond.classLink_spec hown hl1 e.platform hpl
        obtain ⟨a8, b8, h1, h2, h3⟩ := hn1
        cases Option.some.inj (h1.symm.trans hcl)
        cases Option.some.inj (h2.symm.trans hc6)
        exact Or.inr ⟨hz0, _, hcl6, h3⟩) hx (Or.inr ⟨h0, c4, hcl5, hasg⟩)
  obtain ⟨t, a1, b1⟩ := kk (T.setVm vm') hT X'
  exact ⟨t, st.trans a1, b1⟩
end Rows
section Ends
variable {p : Program} {l : Launch} {e : Env} {R : Room} {s : State} {m : MethodId} {args : Array Value} {below : List Frame} {meth : Method} {c : Code} {H : Heap} {locs : List Loc} {cells slots : Nat} {Q : State → Prop}
variable {mc ms : Nat} {free : Addr → Prop} {A0 A1 : Nat → Prop} {H0 : Heap} {a : Array Value} {ls : Array Slot} {st0 rest : List Value}
variable {Qc : Array Value → State → Outcome → State → Prop} {XC : String → State → State → Prop}
/-- what a body that may throw owes at its end -/
def vx_MQ (below : List Frame) (Qc : Array Value → State → Outcome → State → Prop) (XC : String → State → State → Prop) (a : Array Value) (s : State) (mc ms : Nat) (free : Addr → Prop) : State → Prop := fun t =>
  ∃ o, t.status = .running ∧ Ended t below o ∧ vx_Q Qc XC mc ms free a s o t
theorem vx_ret {g : JFrame} {mc ms : Nat} (k : W p l e R s m args below meth c H locs cells slots (MQ below Qc args s mc ms free) g) : W p l e R s m args below meth c H locs cells slots (vx_MQ below Qc XC args s mc ms free) g := by
  intro T hT X
  obtain ⟨t, a1, o, b1, b2, b3, b4⟩ := k T hT X
  exact ⟨t, a1, o, b1, b2, Or.inl ⟨b3, b4⟩⟩
/-- not caught here: it goes on to the caller -/
theorem vx_widen {g : JFrame} {q : Addr} {k n : Nat} (h1 : cells ≤ k) (h2 : slots ≤ n) (kk : vx_W p l e R s m args below meth c H locs k n Q g q) : vx_W p l e R s m args below meth c H locs cells slots Q g q := fun T hT X => kk T hT (stand_widen X h1 h2)
theorem vx_out {pc : Nat} {E : String} {ce : Cell} {q : Addr} {mc ms : Nat} (hout : ∀ x ∈ c.exceptionTable.toList, covers x pc = false) (hlocks : meth.locks = false) (hcell : H[q]? = some ce) (hv : ce.vm = .none) (hcl : s.vm.findClass E = some ce.cls)
    (hx : ∀ t : State, t.heap = H → s.vm.Alike t.vm → XC E s t) (hf : ∀ z ∈ locs, free z.base) (hc : cells ≤ mc) (hs : slots ≤ ms) :
    vx_W p l e R s m args below meth c H locs cells slots (vx_MQ below Qc XC args s mc ms free) (F0 m pc ls rest) q := by
  intro T hT X
  obtain ⟨st1, hrun, hend, hW, hsm⟩ := X.leaveThrown q (g := F0 m pc ls rest) rfl rfl rfl hout hlocks
  have hcell9 : (T.setFrames (.throwing q :: below)).heap[q]? = some ce := by
    show T.heap[q]? = some ce
    rw [hT]; exact hcell
  exact ⟨_, st1, .threw q, hrun, hend, Or.inr ⟨q, rfl, E, ce, locs, hx _ hT hW.alike, hcell9, hv, hcl, hW, hsm.mono hc hs, hf⟩⟩
theorem vx_frame {U : State} {k n : Nat} (h : s.sameButNew ({ U with vm := s.vm } : State) locs k n) : s.heap.size ≤ U.heap.size ∧ ∀ q : Nat, q < s.heap.size → (∀ z ∈ locs, z.base ≠ q) → U.heap[q]? = s.heap[q]? := by
  obtain ⟨-, h2, -, -, -, h6⟩ := h
  refine ⟨h2, fun q hq hz => ?_⟩
  obtain ⟨c9, e1, e2, e3, e4⟩ := h6 q _ (Array.getElem?_eq_getElem hq)
  have hs : c9.slots = (s.heap[q]).slots := Array.ext_getElem? fun i => e4 i fun hm => hz _ hm rfl
  have h9 : c9 = s.heap[q] := by
    rw [hs] at e2
    exact e2
  have e5 : U.heap[q]? = some c9 := e1
  rw [e5, h9, Array.getElem?_eq_getElem hq]
/-- the words of a throw but the four that speak of the heap -/
def vx_no (w : Cond) : Bool := decide (w ≠ .isRef (.static Bundle.tN "UNASSIGNED_STACK" Bundle.steD)) && decide (w ≠ .isRef (.static Bundle.tN "SUPPRESSED_SENTINEL" Bundle.listD)) && decide (w ≠ .laysStatic Bundle.tN "UNASSIGNED_STACK" Bundle.steD) && decide (w ≠ .laysStatic Bundle.tN "SUPPRESSED_SENTINEL" Bundle.listD)
def vx_at0 (own : String) (ic : Nat) (X : String) (names : List String) : List Cond := (Bundle.ownAtoms0 own ic X names).filter vx_no
def vx_atS (own : String) (ic : Nat) (X : String) (names : List String) : List Cond := (Bundle.ownAtoms own ic X names).filter vx_no
/-- a word that the tables alone decide, or a good one -/
def vx_ot (w : Cond) : Bool := w.onTables || goodWord w
theorem vx_ot_at {args a' : Array Value} {s U : State} {w : Cond} (hW : s.WarmedH U.vm) (hvm : s.vm = U.vm) (hg : vx_ot w = true) (h : w.before args s = true) : w.before a' U = true := by
  simp only [vx_ot, Bool.or_eq_true] at hg
  rcases hg with hg | hg
  · exact va_tabs hg hvm h
  · exact word_at hW (good_of_word hg) h
/-- a list's words: the good ones out of the method's own list, the others by premises of their own -/
theorem vx_hat {args : Array Value} {s : State} {L B : List Cond} (h1 : ∀ w ∈ L.filter goodWord, w.before args s = true) (h2 : ∀ w ∈ L.filter (fun w => !goodWord w), w ∈ B) (h3 : ∀ w ∈ B, w.before args s = true) : ∀ w ∈ L, w.before args s = true := by
  intro w hw
  by_cases g : goodWord w = true
  · exact h1 w (List.mem_filter.mpr ⟨hw, g⟩)
  · refine h3 w (h2 w (List.mem_filter.mpr ⟨hw, ?_⟩))
    show (!goodWord w) = true
    cases hgw : goodWord w
    · rfl
    · exact absurd hgw g
theorem vx_c {args : Array Value} {s : State} {w : Cond} {B : List Cond} (h : w.before args s = true) (t : ∀ w ∈ B, w.before args s = true) : ∀ w' ∈ w :: B, w'.before args s = true := fun w' h' => (List.mem_cons.mp h').elim (fun e => by rw [e]; exact h) (t w')
theorem vx_n {args : Array Value} {s : State} : ∀ w ∈ ([] : List Cond), w.before args s = true := fun _ h => nomatch h
theorem vx_own {args : Array Value} {s : State} {L : List Cond} (h1 : ∀ w ∈ L.filter vx_no, w.before args s = true)
    (hU : (Cond.isRef (.static Bundle.tN "UNASSIGNED_STACK" Bundle.steD)).before args s = true) (hN : (Cond.isRef (.static Bundle.tN "SUPPRESSED_SENTINEL" Bundle.listD)).before args s = true)
    (lU : (Cond.laysStatic Bundle.tN "UNASSIGNED_STACK" Bundle.steD).before args s = true) (lN : (Cond.laysStatic Bundle.tN "SUPPRESSED_SENTINEL" Bundle.listD).before args s = true) : ∀ w ∈ L, w.before args s = true := by
  intro w hw
  by_cases e1 : w = .isRef (.static Bundle.tN "UNASSIGNED_STACK" Bundle.steD)
  · rw [e1]; exact hU
  · by_cases e2 : w = .isRef (.static Bundle.tN "SUPPRESSED_SENTINEL" Bundle.listD)
    · rw [e2]; exact hN
    · by_cases e3 : w = .laysStatic Bundle.tN "UNASSIGNED_STACK" Bundle.steD
      · rw [e3]; exact lU
      · by_cases e4 : w = .laysStatic Bundle.tN "SUPPRESSED_SENTINEL" Bundle.listD
        · rw [e4]; exact lN
        · exact h1 w (List.mem_filter.mpr ⟨hw, by unfold vx_no; rw [decide_eq_true e1, decide_eq_true e2, decide_eq_true e3, decide_eq_true e4]; rfl⟩)
/-- where a static field lies, its class's statics cell in H -/
def vx_L (C n d : String) (A : Nat → Prop) (U : State) (H : Heap) : Prop := ∃ (c : ClassId) (k : Class) (i : Nat) (f : Field) (a : Nat) (cell : Cell), U.vm.findClass C = some c ∧ U.fieldFound? C n d = some (c, k, i, f) ∧ f.isStatic = true ∧ k.statics = some a ∧ H[a]? = some cell ∧ cell.vm.isStatics = true ∧ cell.cls = c ∧ f.slot < cell.slots.size ∧ k.staticTypes[f.slot]? = some f.type ∧ ¬ A a
theorem vx_L.moved {C n d : String} {A : Nat → Prop} {u U : State} {H : Heap} (hvm : u.vm.Alike U.vm) (h : vx_L C n d A u H) : vx_L C n d A U H := by
  obtain ⟨c, k, i, f, a, cell, h1, h2, h3, h4, h5, h6, h7, h8, h9, h10⟩ := h
  obtain ⟨k', hi', he⟩ := State.fieldFound?_setVm hvm h2
  exact ⟨c, k', i, f, a, cell, by rw [hvm.findClass]; exact h1, hi', h3, by rw [he]; exact h4, h5, h6, h7, h8, by rw [he]; exact h9, h10⟩
theorem vx_L.kept {C n d : String} {A : Nat → Prop} {U : State} {H H1 : Heap} (h : vx_L C n d A U H) (hq : ∀ a : Nat, a < H.size → ¬ A a → H1[a]? = H[a]?) : vx_L C n d A U H1 := by
  obtain ⟨c, k, i, f, a, cell, h1, h2, h3, h4, h5, h6, h7, h8, h9, h10⟩ := h
  exact ⟨c, k, i, f, a, cell, h1, h2, h3, h4, by rw [hq a (Array.getElem?_eq_some_iff.mp h5).1 h10]; exact h5, h6, h7, h8, h9, h10⟩
theorem vx_L.narrow {C n d : String} {A B : Nat → Prop} {U : State} {H : Heap} (h : vx_L C n d A U H) (hAB : ∀ q, B q → A q) : vx_L C n d B U H := by
  obtain ⟨c, k, i, f, a, cell, h1, h2, h3, h4, h5, h6, h7, h8, h9, h10⟩ := h
  exact ⟨c, k, i, f, a, cell, h1, h2, h3, h4, h5, h6, h7, h8, h9, fun z => h10 (hAB _ z)⟩
theorem vx_L.word {C n d : String} {A : Nat → Prop} {s : State} {args : Array Value} (h : vx_L C n d A s s.heap) : (Cond.laysStatic C n d).before args s = true := by
  obtain ⟨c, k, i, f, a, cell, h1, h2, h3, h4, h5, h6, h7, h8, h9, -⟩ := h
  show (Cond.laysStatic C n d).holds args s none s [] = true
  exact Cond.laysStatic_of h1 h2 h3 h4 h5 h6 h7 h8 h9
/-- .. and what it holds: null or some reference -/
def vx_Zq (C n d : String) (A : Nat → Prop) (U : State) (H : Heap) : Prop := va_Zq C n d A U H ∧ vx_L C n d A U H
theorem vx_Zq.moved {C n d : String} {A : Nat → Prop} {u U : State} {H : Heap} (hvm : u.vm.Alike U.vm) (h : vx_Zq C n d A u H) : vx_Zq C n d A U H := ⟨va_Zq.moved hvm h.1, vx_L.moved hvm h.2⟩
theorem vx_Zq.kept {C n d : String} {A : Nat → Prop} {U : State} {H H1 : Heap} (h : vx_Zq C n d A U H) (hq : ∀ a : Nat, a < H.size → ¬ A a → H1[a]? = H[a]?) : vx_Zq C n d A U H1 := ⟨va_Zq.kept h.1 hq, vx_L.kept h.2 hq⟩
theorem vx_Zq.narrow {C n d : String} {A B : Nat → Prop} {U : State} {H : Heap} (h : vx_Zq C n d A U H) (hAB : ∀ q, B q → A q) : vx_Zq C n d B U H := ⟨va_Zq.narrow h.1 hAB, vx_L.narrow h.2 hAB⟩
theorem vx_Zqof {args : Array Value} {s : State} {C n d : String} {A : Nat → Prop} (hl : (Cond.laysStatic C n d).before args s = true) (hini : (Cond.initialized C).before args s = true) (h : (Cond.isRef (.static C n d)).before args s = true) (hA : ∀ a : Nat, a < s.heap.size → ¬ A a) : vx_Zq C n d A s s.heap := by
  refine ⟨va_Zqof hl hini h hA, ?_⟩
  obtain ⟨c, k, i, f, a, cell, h1, h2, h3, h4, h5, h6, h7, h8, h9⟩ := Cond.laysStatic_spec hl
  exact ⟨c, k, i, f, a, cell, h1, h2, h3, h4, h5, h6, h7, h8, h9, hA a (Array.getElem?_eq_some_iff.mp h5).1⟩
theorem vx_isRef {C n d : String} {v : Value} {A : Nat → Prop} {s : State} {args : Array Value} (h : va_Z C n d v A s s.heap) (hv : v.isRef = true) : (Cond.isRef (.static C n d)).before args s = true := by
  obtain ⟨cf, kf, fi, f, a, cell, h1, h2, h3, h4, h5, h6, h7, -⟩ := h
  have he : (Term.static C n d).eval args s none [] s = some v := by
    simp [Term.eval, State.fieldNamed?, h1, h2, h4, h5, h6, h7]
  simp only [Cond.before, Cond.holds, Cond.value, he]
  cases v <;> simp_all [Value.isRef]
theorem vx_isRefq {C n d : String} {A : Nat → Prop} {s : State} {args : Array Value} (h : va_Zq C n d A s s.heap) : (Cond.isRef (.static C n d)).before args s = true := by
  rcases h with h | ⟨t, h⟩
  · exact vx_isRef h rfl
  · exact vx_isRef h rfl
/-- the same frame, seen from here: as if the method were called anew in this heap -/
theorem vx_rebase {T : State} (X : Stand p l e R s m args below meth c T locs cells slots) {R' : Room} (hf : R'.frames ≤ R.frames) (hl : R'.locals ≤ R.locals) (hc : cells + R'.cells ≤ R.cells) (hs : slots + R'.slots ≤ R.slots) :
    Stand p l e R' ((T.setVm s.vm).setFrames (.invoking m args :: below)) m args below meth c T [] 0 0 := by
  have htop : (T.setVm s.vm).topJava?.isSome := X.here.top
  have hF : ((T.setVm s.vm).setFrames (.invoking m args :: below)).frames = .invoking m args :: below := State.frames_setFrames _ (State.cur_lt_of_top htop)
  obtain ⟨g₀, hg0⟩ := Option.isSome_iff_exists.mp htop
  obtain ⟨r, hr⟩ := State.topJava?_eq_some.mp hg0
  have hl9 : e.platform.stackLimits (T.setVm s.vm).me = e.platform.stackLimits s.me := X.limits
  have hb9 : (T.setVm s.vm).me.stackBytes = s.me.stackBytes := X.bytes
  refine ⟨X.admits, X.cas, X.clock, hF, ?_, X.hears, X.method, X.code, X.here, X.tail, X.warmed, ?_, ?_, ?_⟩
  · have h := X.room
    have hU : ((T.setVm s.vm).setFrames (.invoking m args :: below)).localsInUse = s.localsInUse := by
      rw [State.localsInUse_invoking hF (meth := meth) (c := c) X.method X.code, State.localsInUse_invoking X.frames X.method X.code]
    simp only [State.hasRoom, Bool.and_eq_true, decide_eq_true_eq] at h ⊢
    obtain ⟨⟨⟨⟨h1, h2, h3, h4, h5, h6⟩, h7⟩, h8⟩, h9⟩ := h
    rw [X.frames, List.length_cons] at h2 h3
    have q1 := X.heapSize
    have q2 := X.used
    simp only [hF, hU, List.length_cons, State.stackLimits_setFrames, State.stackBytes_setFrames, hl9, hb9]
    refine ⟨⟨⟨⟨by omega, by omega, by omega, by omega, by omega, h6⟩, ?_⟩, ?_⟩, X.book⟩
    · show T.heap.size + R'.cells ≤ e.platform.maxCells
      omega
    · show T.slotsUsed + R'.slots ≤ e.platform.maxSlots
      omega
  · rw [State.stackLimits_setFrames]; rfl
  · rw [State.stackBytes_setFrames]; rfl
  · refine ⟨?_, Nat.le_refl _, Nat.le_refl _, ?_, ?_, fun a c9 h9 => ⟨c9, h9, rfl, rfl, fun _ _ => rfl⟩⟩
    · obtain ⟨t, ht, -⟩ := State.frames_cons hr
      show T.setVm s.vm = { ((T.setVm s.vm).setFrames (.invoking m args :: below)).setFrames (T.setVm s.vm).frames with heap := T.heap, slotsUsed := T.slotsUsed }
      rw [State.setFrames_setFrames, State.setFrames_self ht]
      rfl
    · show T.slotsUsed = T.slotsUsed + ((T.heap.toList.drop T.heap.size).map (·.slots.size)).sum
      rw [List.drop_eq_nil_of_le (Nat.le_of_eq Array.length_toList)]
      rfl
    · show ((T.heap.toList.drop T.heap.size).map (·.slots.size)).sum ≤ 0
      rw [List.drop_eq_nil_of_le (Nat.le_of_eq Array.length_toList)]
      exact Nat.le_refl _
/-- 'throw new E()': new; dup; invokespecial; athrow -/
theorem vx_throw0 {cc : ByteArray} {pc : Nat} (hexec : p.tables.exec = Jvm.exec) (hb : c.code = cc) (hl : l.stackTraces = false) {own cls : String} {names : List String} {ik ic mc ms : Nat} {A : Nat → Prop}
    (hown : s.vm.findClass own = some m.cls) (hcls : Bundle.fit cls = true) (hnames : ∀ n ∈ names, Bundle.fit n = true)
    (hk : (Cond.classLink own ik cls).before args s = true) (hini : (Cond.initialized cls).before args s = true) (hat : ∀ w ∈ vx_at0 own ic cls names, w.before args s = true)
    (hgood : ∀ w ∈ Cond.classLink own ik cls :: Cond.initialized cls :: vx_at0 own ic cls names, vx_ot w = true)
    (hU : vx_Zq Bundle.tN "UNASSIGNED_STACK" Bundle.steD A s s.heap) (hN : vx_Zq Bundle.tN "SUPPRESSED_SENTINEL" Bundle.listD A s s.heap) (hS : va_S A s.heap H locs) (hsize : ls.size = c.maxLocals)
    (d0 : decode cc pc = .ok (.new ik, 3)) (d3 : decode cc (pc + 3) = .ok (.dup, 1)) (d4 : decode cc (pc + 4) = .ok (.invokespecial ic, 3)) (d7 : decode cc (pc + 7) = .ok (.athrow, 1))
    (hout : ∀ x ∈ c.exceptionTable.toList, covers x (pc + 7) = false)
    (hRframes : names.length + 3 < R.frames) (hRlocals : (rest.map fun v => v.category).sum + (13 * (names.length + 1) + 42) ≤ R.locals) (hRcells : cells + 1 ≤ R.cells) (hRslots : slots + 6 ≤ R.slots) (hlocks : meth.locks = false)
    (hx : ∀ t : State, s.vm.Alike t.vm → H.size ≤ t.heap.size → (∀ q : Nat, q < H.size → t.heap[q]? = H[q]?) → XC cls s t)
    (hf : ∀ z ∈ locs, free z.base) (hc : cells + 1 ≤ mc) (hs : slots + 6 ≤ ms) :
    W p l e R s m args below meth c H locs cells slots (vx_MQ below Qc XC args s mc ms free) (F0 m pc ls rest) := by
  intro T hT X
  have htr : e.platform.stackTraces = false := (show e.platform.stackTraces = l.stackTraces by rw [X.admits.platform]).trans hl
  have Y := vx_rebase X (R' := { frames := R.frames, locals := R.locals, cells := 1, slots := 6 }) (Nat.le_refl _) (Nat.le_refl _) hRcells hRslots
  obtain ⟨s', hA⟩ : ∃ z, z = (T.setVm s.vm).setFrames (.invoking m args :: below) := ⟨_, rfl⟩
  rw [← hA] at Y
  have hvm : s'.vm = s.vm := by rw [hA]; rfl
  have hhp : s'.heap = H := by rw [hA]; exact hT
  have hW0 : s.WarmedH s'.vm := by rw [hvm]; exact State.WarmedH.refl s
  have hat' : ∀ w ∈ vx_at0 own ic cls names, w.before args s' = true := fun w hw => vx_ot_at hW0 hvm.symm (hgood w (List.mem_cons_of_mem _ (List.mem_cons_of_mem _ hw))) (hat w hw)
  have hk' : (Cond.classLink own ik cls).before args s' = true := vx_ot_at hW0 hvm.symm (hgood _ List.mem_cons_self) hk
  have hini' : (Cond.initialized cls).before args s' = true := vx_ot_at hW0 hvm.symm (hgood _ (List.mem_cons_of_mem _ List.mem_cons_self)) hini
  have hU' : vx_Zq Bundle.tN "UNASSIGNED_STACK" Bundle.steD A s' s'.heap := by rw [hhp]; exact vx_Zq.moved hW0.alike (hU.kept hS.2.1)
  have hN' : vx_Zq Bundle.tN "SUPPRESSED_SENTINEL" Bundle.listD A s' s'.heap := by rw [hhp]; exact vx_Zq.moved hW0.alike (hN.kept hS.2.1)
  have h : ∀ w ∈ Bundle.ownAtoms0 own ic cls names, w.before args s' = true := vx_own hat' (vx_isRefq hU'.1) (vx_isRefq hN'.1) hU'.2.word hN'.2.word
  have hown' : s'.vm.findClass own = some m.cls := by rw [hvm]; exact hown
  have hins : (Cond.instantiable cls 6).before args s' = true := h _ (by simp [Bundle.ownAtoms0])
  obtain ⟨vm₁, cX, kX, hfX, hkX, -, -, X₁, st1⟩ := Y.newCold hexec (own := own) (C := cls) (index := ik) (n := 6) hown' hk' hins hini'
    (g := F0 m pc ls rest) rfl (by rw [hb]; exact d0) (Nat.le_refl _) (Nat.le_refl _)
  generalize hT1 : (T.setVm vm₁).pushCell { cls := cX, slots := kX.instanceTypes.map defaultValue, vm := .none } = T1 at X₁ st1
  have hcat : (Value.ref T.heap.size).category = 1 := rfl
  have hcellA : T1.heap[T.heap.size]? = some (freshCell cX kX) := by rw [← hT1]; exact State.heap_pushCell_size _ _
  have d3' : decode c.code (pc + 3) = .ok (.dup, 1) := by rw [hb]; exact d3
  obtain ⟨U, hsteps, hrun, hend, hW, hsame, ce, hce, hO⟩ := X₁.ctorThrow0 hexec htr (own := own) (cls := cls) (names := names) (ic := ic) hown' hcls hnames h (fun x hx => nomatch hx) hfX hkX hcellA (by rw [hhp, hT]; exact Nat.le_refl _)
    (g := { method := m, pc := pc + 4, locals := ls, stack := .ref T.heap.size :: .ref T.heap.size :: rest, locked := none }) rfl hsize rfl rfl (rest := rest) rfl
    (by rw [hb]; exact d4) (by rw [hb]; exact d7) hout hRframes (by simp only [List.map_cons, List.sum_cons, hcat]; omega) hlocks
  obtain ⟨f1, f2⟩ := vx_frame hsame
  rw [hhp] at f1 f2
  have hWs : s.WarmedH U.vm := State.WarmedH.trans hW0 hW
  have hcl : s.vm.findClass cls = some ce.cls := by
    have h9 := hO.cls
    rw [hvm] at h9
    exact h9
  have hall : s.sameButNew ({ U with vm := s.vm } : State) locs mc ms := by
    subst hA
    obtain ⟨e1, e2⟩ := hsame
    rw [State.setFrames_setFrames] at e1
    have h2 : (T.setVm s.vm).sameButNew ({ U with vm := s.vm } : State) [] (0 + 1) (0 + 6) := ⟨e1, e2⟩
    have h3 := X.same.trans h2
    rw [List.append_nil] at h3
    exact h3.mono hc hs
  refine ⟨U, ?_, .threw T.heap.size, hrun, hend, Or.inr ⟨T.heap.size, rfl, cls, ce, locs, hx U hWs.alike f1 (fun q hq => f2 q hq (fun z hz => nomatch hz)), hce, hO.vm, hcl, hWs, hall, hf⟩⟩
  refine st1 _ ?_
  show Steps p.tables e below (T1.setTop { method := m, pc := pc + 3, locals := ls, stack := .ref T.heap.size :: rest, locked := none }) _
  jvm_step X₁.here [X₁.here.top, hexec, d3', Value.category]
  exact hsteps
/-- 'throw new E("text")': new; dup; ldc; invokespecial; athrow -/
theorem vx_throwS {cc : ByteArray} {pc : Nat} (hexec : p.tables.exec = Jvm.exec) (hb : c.code = cc) (hl : l.stackTraces = false) {own cls text : String} {names : List String} {ik is ic mc ms sa : Nat} {A : Nat → Prop}
    (hown : s.vm.findClass own = some m.cls) (hcls : Bundle.fit cls = true) (hnames : ∀ n ∈ names, Bundle.fit n = true)
    (hk : (Cond.classLink own ik cls).before args s = true) (hini : (Cond.initialized cls).before args s = true) (hstr : vk_R own is text sa s) (hat : ∀ w ∈ vx_atS own ic cls names, w.before args s = true)
    (hgood : ∀ w ∈ Cond.classLink own ik cls :: Cond.initialized cls :: vx_atS own ic cls names, vx_ot w = true)
    (hU : vx_Zq Bundle.tN "UNASSIGNED_STACK" Bundle.steD A s s.heap) (hN : vx_Zq Bundle.tN "SUPPRESSED_SENTINEL" Bundle.listD A s s.heap) (hS : va_S A s.heap H locs) (hsize : ls.size = c.maxLocals)
    (d0 : decode cc pc = .ok (.new ik, 3)) (d3 : decode cc (pc + 3) = .ok (.dup, 1)) (d4 : decode cc (pc + 4) = .ok (.ldc is, 2)) (d6 : decode cc (pc + 6) = .ok (.invokespecial ic, 3)) (d9 : decode cc (pc + 9) = .ok (.athrow, 1))
    (hout : ∀ x ∈ c.exceptionTable.toList, covers x (pc + 9) = false)
    (hRframes : names.length + 3 < R.frames) (hRlocals : (rest.map fun v => v.category).sum + (13 * (names.length + 1) + 43) ≤ R.locals) (hRcells : cells + 1 ≤ R.cells) (hRslots : slots + 6 ≤ R.slots) (hlocks : meth.locks = false)
    (hx : ∀ t : State, s.vm.Alike t.vm → H.size ≤ t.heap.size → (∀ q : Nat, q < H.size → t.heap[q]? = H[q]?) → XC cls s t)
    (hf : ∀ z ∈ locs, free z.base) (hc : cells + 1 ≤ mc) (hs : slots + 6 ≤ ms) :
    W p l e R s m args below meth c H locs cells slots (vx_MQ below Qc XC args s mc ms free) (F0 m pc ls rest) := by
  intro T hT X
  have htr : e.platform.stackTraces = false := (show e.platform.stackTraces = l.stackTraces by rw [X.admits.platform]).trans hl
  have Y := vx_rebase X (R' := { frames := R.frames, locals := R.locals, cells := 1, slots := 6 }) (Nat.le_refl _) (Nat.le_refl _) hRcells hRslots
  obtain ⟨s', hA⟩ : ∃ z, z = (T.setVm s.vm).setFrames (.invoking m args :: below) := ⟨_, rfl⟩
  rw [← hA] at Y
  have hvm : s'.vm = s.vm := by rw [hA]; rfl
  have hhp : s'.heap = H := by rw [hA]; exact hT
  have hW0 : s.WarmedH s'.vm := by rw [hvm]; exact State.WarmedH.refl s
  have hat' : ∀ w ∈ vx_atS own ic cls names, w.before args s' = true := fun w hw => vx_ot_at hW0 hvm.symm (hgood w (List.mem_cons_of_mem _ (List.mem_cons_of_mem _ hw))) (hat w hw)
  have hk' : (Cond.classLink own ik cls).before args s' = true := vx_ot_at hW0 hvm.symm (hgood _ List.mem_cons_self) hk
  have hini' : (Cond.initialized cls).before args s' = true := vx_ot_at hW0 hvm.symm (hgood _ (List.mem_cons_of_mem _ List.mem_cons_self)) hini
  have hU' : vx_Zq Bundle.tN "UNASSIGNED_STACK" Bundle.steD A s' s'.heap := by rw [hhp]; exact vx_Zq.moved hW0.alike (hU.kept hS.2.1)
  have hN' : vx_Zq Bundle.tN "SUPPRESSED_SENTINEL" Bundle.listD A s' s'.heap := by rw [hhp]; exact vx_Zq.moved hW0.alike (hN.kept hS.2.1)
  have h : ∀ w ∈ Bundle.ownAtoms own ic cls names, w.before args s' = true := vx_own hat' (vx_isRefq hU'.1) (vx_isRefq hN'.1) hU'.2.word hN'.2.word
  have hown' : s'.vm.findClass own = some m.cls := by rw [hvm]; exact hown
  have hins : (Cond.instantiable cls 6).before args s' = true := h _ (by simp [Bundle.ownAtoms])
  obtain ⟨vm₁, cX, kX, hfX, hkX, -, -, X₁, st1⟩ := Y.newCold hexec (own := own) (C := cls) (index := ik) (n := 6) hown' hk' hins hini'
    (g := F0 m pc ls rest) rfl (by rw [hb]; exact d0) (Nat.le_refl _) (Nat.le_refl _)
  generalize hT1 : (T.setVm vm₁).pushCell { cls := cX, slots := kX.instanceTypes.map defaultValue, vm := .none } = T1 at X₁ st1
  have hcat : (Value.ref T.heap.size).category = 1 := rfl
  have hcellA : T1.heap[T.heap.size]? = some (freshCell cX kX) := by rw [← hT1]; exact State.heap_pushCell_size _ _
  have d3' : decode c.code (pc + 3) = .ok (.dup, 1) := by rw [hb]; exact d3
  have d4' : decode c.code (pc + 4) = .ok (.ldc is, 2) := by rw [hb]; exact d4
  have hstr' : vk_R own is text sa s' := vk_R.warm hW0 hstr
  obtain ⟨U, hsteps, hrun, hend, hW, hsame, ce, hce, hO⟩ := X₁.ctorThrowS hexec htr (own := own) (cls := cls) (names := names) (ic := ic) hown' hcls hnames h (fun x hx => nomatch hx) hfX hkX hcellA (by rw [hhp, hT]; exact Nat.le_refl _) (msg := .ref sa) rfl
    (g := { method := m, pc := pc + 6, locals := ls, stack := .ref sa :: .ref T.heap.size :: .ref T.heap.size :: rest, locked := none }) rfl hsize rfl rfl (rest := rest) rfl
    (by rw [hb]; exact d6) (by rw [hb]; exact d9) hout hRframes (by simp only [List.map_cons, List.sum_cons, hcat]; omega) hlocks
  obtain ⟨f1, f2⟩ := vx_frame hsame
  rw [hhp] at f1 f2
  have hWs : s.WarmedH U.vm := State.WarmedH.trans hW0 hW
  have hcl : s.vm.findClass cls = some ce.cls := by
    have h9 := hO.cls
    rw [hvm] at h9
    exact h9
  have hall : s.sameButNew ({ U with vm := s.vm } : State) locs mc ms := by
    subst hA
    obtain ⟨e1, e2⟩ := hsame
    rw [State.setFrames_setFrames] at e1
    have h2 : (T.setVm s.vm).sameButNew ({ U with vm := s.vm } : State) [] (0 + 1) (0 + 6) := ⟨e1, e2⟩
    have h3 := X.same.trans h2
    rw [List.append_nil] at h3
    exact h3.mono hc hs
  refine ⟨U, ?_, .threw T.heap.size, hrun, hend, Or.inr ⟨T.heap.size, rfl, cls, ce, locs, hx U hWs.alike f1 (fun q hq => f2 q hq (fun z hz => nomatch hz)), hce, hO.vm, hcl, hWs, hall, hf⟩⟩
  refine st1 _ ?_
  show Steps p.tables e below (T1.setTop { method := m, pc := pc + 3, locals := ls, stack := .ref T.heap.size :: rest, locked := none }) _
  jvm_step X₁.here [X₁.here.top, hexec, d3', Value.category]
  exact X₁.ldcString hexec (own := own) (text := text) (index := is) (a := sa) hown' hstr'.1 hstr'.2
    (g := { method := m, pc := pc + 4, locals := ls, stack := .ref T.heap.size :: .ref T.heap.size :: rest, locked := none }) rfl d4' _ hsteps
/-- 'throw new E("text")', the text by a wide index -/
theorem vx_throwSW {cc : ByteArray} {pc : Nat} (hexec : p.tables.exec = Jvm.exec) (hb : c.code = cc) (hl : l.stackTraces = false) {own cls text : String} {names : List String} {ik is ic mc ms sa : Nat} {A : Nat → Prop}
    (hown : s.vm.findClass own = some m.cls) (hcls : Bundle.fit cls = true) (hnames : ∀ n ∈ names, Bundle.fit n = true)
    (hk : (Cond.classLink own ik cls).before args s = true) (hini : (Cond.initialized cls).before args s = true) (hstr : vk_R own is text sa s) (hat : ∀ w ∈ vx_atS own ic cls names, w.before args s = true)
    (hgood : ∀ w ∈ Cond.classLink own ik cls :: Cond.initialized cls :: vx_atS own ic cls names, vx_ot w = true)
    (hU : vx_Zq Bundle.tN "UNASSIGNED_STACK" Bundle.steD A s s.heap) (hN : vx_Zq Bundle.tN "SUPPRESSED_SENTINEL" Bundle.listD A s s.heap) (hS : va_S A s.heap H locs) (hsize : ls.size = c.maxLocals)
    (d0 : decode cc pc = .ok (.new ik, 3)) (d3 : decode cc (pc + 3) = .ok (.dup, 1)) (d4 : decode cc (pc + 4) = .ok (.ldc_w is, 3)) (d7 : decode cc (pc + 7) = .ok (.invokespecial ic, 3)) (d10 : decode cc (pc + 10) = .ok (.athrow, 1))
    (hout : ∀ x ∈ c.exceptionTable.toList, covers x (pc + 10) = false)
    (hRframes : names.length + 3 < R.frames) (hRlocals : (rest.map fun v => v.category).sum + (13 * (names.length + 1) + 43) ≤ R.locals) (hRcells : cells + 1 ≤ R.cells) (hRslots : slots + 6 ≤ R.slots) (hlocks : meth.locks = false)
    (hx : ∀ t : State, s.vm.Alike t.vm → H.size ≤ t.heap.size → (∀ q : Nat, q < H.size → t.heap[q]? = H[q]?) → XC cls s t)
    (hf : ∀ z ∈ locs, free z.base) (hc : cells + 1 ≤ mc) (hs : slots + 6 ≤ ms) :
    W p l e R s m args below meth c H locs cells slots (vx_MQ below Qc XC args s mc ms free) (F0 m pc ls rest) := by
  intro T hT X
  have htr : e.platform.stackTraces = false := (show e.platform.stackTraces = l.stackTraces by rw [X.admits.platform]).trans hl
  have Y := vx_rebase X (R' := { frames := R.frames, locals := R.locals, cells := 1, slots := 6 }) (Nat.le_refl _) (Nat.le_refl _) hRcells hRslots
  obtain ⟨s', hA⟩ : ∃ z, z = (T.setVm s.vm).setFrames (.invoking m args :: below) := ⟨_, rfl⟩
  rw [← hA] at Y
  have hvm : s'.vm = s.vm := by rw [hA]; rfl
  have hhp : s'.heap = H := by rw [hA]; exact hT
  have hW0 : s.WarmedH s'.vm := by rw [hvm]; exact State.WarmedH.refl s
  have hat' : ∀ w ∈ vx_atS own ic cls names, w.before args s' = true := fun w hw => vx_ot_at hW0 hvm.symm (hgood w (List.mem_cons_of_mem _ (List.mem_cons_of_mem _ hw))) (hat w hw)
  have hk' : (Cond.classLink own ik cls).before args s' = true := vx_ot_at hW0 hvm.symm (hgood _ List.mem_cons_self) hk
  have hini' : (Cond.initialized cls).before args s' = true := vx_ot_at hW0 hvm.symm (hgood _ (List.mem_cons_of_mem _ List.mem_cons_self)) hini
  have hU' : vx_Zq Bundle.tN "UNASSIGNED_STACK" Bundle.steD A s' s'.heap := by rw [hhp]; exact vx_Zq.moved hW0.alike (hU.kept hS.2.1)
  have hN' : vx_Zq Bundle.tN "SUPPRESSED_SENTINEL" Bundle.listD A s' s'.heap := by rw [hhp]; exact vx_Zq.moved hW0.alike (hN.kept hS.2.1)
  have h : ∀ w ∈ Bundle.ownAtoms own ic cls names, w.before args s' = true := vx_own hat' (vx_isRefq hU'.1) (vx_isRefq hN'.1) hU'.2.word hN'.2.word
  have hown' : s'.vm.findClass own = some m.cls := by rw [hvm]; exact hown
  have hins : (Cond.instantiable cls 6).before args s' = true := h _ (by simp [Bundle.ownAtoms])
  obtain ⟨vm₁, cX, kX, hfX, hkX, -, -, X₁, st1⟩ := Y.newCold hexec (own := own) (C := cls) (index := ik) (n := 6) hown' hk' hins hini'
    (g := F0 m pc ls rest) rfl (by rw [hb]; exact d0) (Nat.le_refl _) (Nat.le_refl _)
  generalize hT1 : (T.setVm vm₁).pushCell { cls := cX, slots := kX.instanceTypes.map defaultValue, vm := .none } = T1 at X₁ st1
  have hcat : (Value.ref T.heap.size).category = 1 := rfl
  have hcellA : T1.heap[T.heap.size]? = some (freshCell cX kX) := by rw [← hT1]; exact State.heap_pushCell_size _ _
  have d3' : decode c.code (pc + 3) = .ok (.dup, 1) := by rw [hb]; exact d3
  have d4' : decode c.code (pc + 4) = .ok (.ldc_w is, 3) := by rw [hb]; exact d4
  have hstr' : vk_R own is text sa s' := vk_R.warm hW0 hstr
  obtain ⟨U, hsteps, hrun, hend, hW, hsame, ce, hce, hO⟩ := X₁.ctorThrowS hexec htr (own := own) (cls := cls) (names := names) (ic := ic) hown' hcls hnames h (fun x hx => nomatch hx) hfX hkX hcellA (by rw [hhp, hT]; exact Nat.le_refl _) (msg := .ref sa) rfl
    (g := { method := m, pc := pc + 7, locals := ls, stack := .ref sa :: .ref T.heap.size :: .ref T.heap.size :: rest, locked := none }) rfl hsize rfl rfl (rest := rest) rfl
    (by rw [hb]; exact d7) (by rw [hb]; exact d10) hout hRframes (by simp only [List.map_cons, List.sum_cons, hcat]; omega) hlocks
  obtain ⟨f1, f2⟩ := vx_frame hsame
  rw [hhp] at f1 f2
  have hWs : s.WarmedH U.vm := State.WarmedH.trans hW0 hW
  have hcl : s.vm.findClass cls = some ce.cls := by
    have h9 := hO.cls
    rw [hvm] at h9
    exact h9
  have hall : s.sameButNew ({ U with vm := s.vm } : State) locs mc ms := by
    subst hA
    obtain ⟨e1, e2⟩ := hsame
    rw [State.setFrames_setFrames] at e1
    have h2 : (T.setVm s.vm).sameButNew ({ U with vm := s.vm } : State) [] (0 + 1) (0 + 6) := ⟨e1, e2⟩
    have h3 := X.same.trans h2
    rw [List.append_nil] at h3
    exact h3.mono hc hs
  refine ⟨U, ?_, .threw T.heap.size, hrun, hend, Or.inr ⟨T.heap.size, rfl, cls, ce, locs, hx U hWs.alike f1 (fun q hq => f2 q hq (fun z hz => nomatch hz)), hce, hO.vm, hcl, hWs, hall, hf⟩⟩
  refine st1 _ ?_
  show Steps p.tables e below (T1.setTop { method := m, pc := pc + 3, locals := ls, stack := .ref T.heap.size :: rest, locked := none }) _
  jvm_step X₁.here [X₁.here.top, hexec, d3', Value.category]
  exact X₁.ldcStringW hexec (own := own) (text := text) (index := is) (a := sa) hown' hstr'.1 hstr'.2
    (g := { method := m, pc := pc + 4, locals := ls, stack := .ref T.heap.size :: .ref T.heap.size :: rest, locked := none }) rfl d4' _ hsteps
end Ends
section Bodies
variable {l : Launch}
theorem vx_ofW {y : MethodName} {ws ws' : List Cond} {rm : Room} {Pc : Array Value → State → Prop} {Qc : Array Value → State → Outcome → State → Prop} {XC : String → State → State → Prop} {mc ms : Nat} {free : Addr → Prop} {cc : ByteArray} {maxL : Nat} {ret : Option FieldType}
    (hy : plainName y.cls = true) (hw : ws = Cond.code y cc maxL ret :: ws')
    (body : ∀ p e s m args below meth c s₁, BodyLoose p l y (headSpec ws rm) cc maxL ret e s m args below meth c s₁ → c.maxLocals = maxL → (∀ x ∈ c.exceptionTable.toList, False) → Pc args s →
      W p l e (headSpec ws rm).room s m args below meth c s.heap [] 0 0 (vx_MQ below Qc XC args s mc ms free) (entryFrame m args maxL)) : vx_Met l y ws rm Pc Qc XC mc ms free := by
  refine MetFree.of_bodyS (code := cc) (maxLocals := maxL) (ret := ret) hy ?_ ?_
  · intro args s m h hn
    obtain ⟨meth, c, h1, h2, h3, h4, h5, h6, -, -⟩ := Cond.code_spec hn (atoms_spec (ws := ws) h _ (by rw [hw]; exact List.mem_cons_self))
    exact ⟨meth, c, h1, h2, h3, h4, h5, h6⟩
  · intro p e s m args below meth c s₁ B hml hP _
    have hh0 : s₁.heap = s.heap := by rw [B.state]; rfl
    have ht : ∀ x ∈ c.exceptionTable.toList, False := by
      obtain ⟨meth9, c9, h1, h2, -, -, -, -, h7, -⟩ := Cond.code_spec B.named (atoms_spec (ws := ws) B.pre _ (by rw [hw]; exact List.mem_cons_self))
      cases Option.some.inj (h1.symm.trans B.method)
      cases Option.some.inj (h2.symm.trans (Stand.of_body B).code)
      intro x hx
      rw [Array.isEmpty_iff.mp h7] at hx
      cases hx
    obtain ⟨t, a1, o, b1, b2, b3⟩ := body p e s m args below meth c s₁ B hml ht hP s₁ hh0 (Stand.of_body B)
    exact ⟨t, o, a1, b1, b2, b3⟩
/-- the table of a body with handlers -/
theorem vx_table {p : Program} {x y : MethodName} {S : Spec} {cc bytes : ByteArray} {maxL maxL' : Nat} {ret ret' : Option FieldType} {e : Env} {s s₁ : State} {m : MethodId} {args : Array Value} {below : List Frame} {meth : Method} {c : Code} {hh : List (Nat × Nat × Nat × Nat)}
    (B : BodyLoose p l y S cc maxL ret e s m args below meth c s₁) (h : (Cond.codeWith y bytes maxL' ret' hh).before args s = true) : c.exceptionTable.toList = tableOf hh := by
  obtain ⟨m9, meth9, c9, hn9, h1, h2, -, -, h6, -⟩ := Cond.codeWith_spec h
  cases Option.some.inj (hn9.symm.trans B.named)
  cases Option.some.inj (h1.symm.trans B.method)
  cases Option.some.inj (h2.symm.trans (Stand.of_body B).code)
  rw [← h6, table_eq]
end Bodies
end VXA
/-! ===== END ===== -/
/-! ===== BEGIN a static call of a method with an exception table ===== -/
section VXS
variable {p : Program} {l : Launch} {e : Env} {R : Room} {s : State} {m : MethodId} {args : Array Value} {below : List Frame} {meth : Method} {c : Code} {T : State} {H : Heap} {locs : List Loc} {cells slots : Nat}
abbrev vx_CSW (R : Room) (s : State) (args : Array Value) (own : String) (index : Nat) (y : MethodName) (bytes : ByteArray) (maxL : Nat) (ret : Option FieldType) (hh : List (Nat × Nat × Nat × Nat)) (ws : List Cond) (rm : Room) (mc ms n : Nat) : Prop :=
  (rm.cells = mc ∧ rm.slots = ms ∧ rm.frames + 1 ≤ R.frames ∧ 8 + (maxL + 11) + rm.locals ≤ R.locals ∧ (∀ w ∈ ws, ∀ (a' : Array Value) (U : State), s.WarmedH U.vm → w.before a' U = true) ∧ Cond.codeWith y bytes maxL ret hh ∈ ws) ∧
  (Cond.codeWith y bytes maxL ret hh).before args s = true ∧ (Cond.initialized y.cls).before args s = true ∧ (y.cls ≠ "java/lang/invoke/MethodHandle" ∧ y.cls ≠ "java/lang/invoke/VarHandle") ∧
  (∀ sig, parseMethodDescriptor y.desc = some sig → n = sig.parameters.length) ∧ (Cond.methodLink own index y).before args s = true ∧ (Cond.static y).before args s = true
theorem vx_cwSW {own : String} {index maxL mc ms : Nat} {y : MethodName} {bytes : ByteArray} {ret : Option FieldType} {hh : List (Nat × Nat × Nat × Nat)} {Ts ws ws' : List Cond} {rm : Room} (n : Nat) (ht : ∀ w ∈ Ts, w.before args s = true) (hT : GoodIn Ts (va_wsS own index y ws)) (hw : ws = Cond.codeWith y bytes maxL ret hh :: ws') (hrc : rm.cells = mc) (hrs : rm.slots = ms)
    (hd : y.cls ≠ "java/lang/invoke/MethodHandle" ∧ y.cls ≠ "java/lang/invoke/VarHandle" ∧ (parseMethodDescriptor y.desc).map (fun d => d.parameters.length) = some n) (hR : rm.frames + 1 ≤ R.frames ∧ 8 + (maxL + 11) + rm.locals ≤ R.locals) :
    vx_CSW R s args own index y bytes maxL ret hh ws rm mc ms n := by
  have ok : ∀ w ∈ va_wsS own index y ws, w.before args s = true := fun w h => ht w (hT w h).1
  have hG : GoodIn Ts ws := fun w h => hT w (by unfold va_wsS; exact List.mem_append_right _ h)
  have hc : Cond.codeWith y bytes maxL ret hh ∈ ws := by rw [hw]; exact List.mem_cons_self
  refine ⟨⟨hrc, hrs, hR.1, hR.2, pay_in ht hG, hc⟩, ht _ (hG _ hc).1, ok _ (by simp [va_wsS]), ⟨hd.1, hd.2.1⟩, fun sig h => ?_, ok _ (by simp [va_wsS]), ok _ (by simp [va_wsS])⟩
  have h2 := hd.2.2
  rw [h] at h2
  exact (Option.some.inj h2).symm
theorem vx_callSW (X : Stand p l e R s m args below meth c T locs cells slots) (hexec : p.tables.exec = Jvm.exec) {own : String} {index : Nat} {y : MethodName} {bytes : ByteArray} {maxL : Nat} {ret : Option FieldType} {hh : List (Nat × Nat × Nat × Nat)}
    (hown : s.vm.findClass own = some m.cls) (hlink : (Cond.methodLink own index y).before args s = true) (hstat : (Cond.static y).before args s = true) (hinit : (Cond.initialized y.cls).before args s = true)
    (hcode : (Cond.codeWith y bytes maxL ret hh).before args s = true) (hy : y.cls ≠ "java/lang/invoke/MethodHandle" ∧ y.cls ≠ "java/lang/invoke/VarHandle")
    {W9 : Nat} {Pre : Pt → Array Value → Prop} {Post : Pt → Array Value → Option Value → Pt → Prop} (hK : Back l R p e below s args y 3 W9 Pre Post)
    {g : JFrame} (hg : g.method = m) (hsize : g.locals.size = c.maxLocals) {argsL rest : List Value} (hlen : ∀ sig, parseMethodDescriptor y.desc = some sig → argsL.length = sig.parameters.length)
    (hstack : g.stack = argsL.reverse ++ rest) (hW : 2 * g.monitorRoom + (rest.map fun v => v.category).sum ≤ W9) (hdg : decode c.code g.pc = .ok (.invokestatic index, 3))
    (hpre : ∀ vm₁, s.WarmedH vm₁ → Pre ⟨T.setVm vm₁, locs, cells, slots⟩ argsL.toArray) :
    ∃ (v : Option Value) (vm₁ : Vm) (B : Pt), s.WarmedH vm₁ ∧ Stand p l e R s m args below meth c B.U B.locs B.cells B.slots ∧ Post ⟨T.setVm vm₁, locs, cells, slots⟩ argsL.toArray v B ∧
      ∀ target, Steps p.tables e below (B.U.setTop { g with pc := g.pc + 3, stack := v.toList ++ rest }) target → Steps p.tables e below (T.setTop g) target := by
  obtain ⟨mk, methM, cM, hnamed, hmethM, -, -, -, -, -, -, hsigM⟩ := Cond.codeWith_spec hcode
  have hstatic : methM.isStatic = true := Cond.static_spec hnamed hmethM hstat
  obtain ⟨kP, hkP, -⟩ := className_of_methodNamed hnamed
  have hinitP : kP.init = .initialized := Cond.initialized_spec (findClass_of_methodNamed hnamed) hkP hinit
  obtain ⟨vm₁, X₁, hstep₁⟩ := X.invokestatic hexec hown hlink hnamed hmethM hstatic hkP hinitP hy (g := g) hg (argsL := argsL) (rest := rest) (hlen _ hsigM) hstack hdg
  obtain ⟨v, B, X', hpost, hsteps⟩ := hK m meth c ⟨T.setVm vm₁, locs, cells, slots⟩ { g with stack := rest } (.invokestatic index) mk argsL.toArray X₁ hg hsize hdg hW (X₁.named hnamed) (hpre vm₁ X₁.warmed)
  exact ⟨v, vm₁, B, X₁.warmed, X', hpost, fun target h => hstep₁ _ fun acts => by rw [doInvoke_state]; exact hsteps.trans h⟩
theorem vx_runSW {y : MethodName} {bytes cc : ByteArray} {maxL nL mc ms n index : Nat} {ret : Option FieldType} {hh : List (Nat × Nat × Nat × Nat)} {ws : List Cond} {rm : Room} {Pc : Array Value → State → Prop} {Qc : Array Value → State → Outcome → State → Prop} {free : Addr → Prop} {Ts : List Cond} {own : String} {As rest : List Value} {g : JFrame}
    (S : CallFix p m c cc nL s args Ts own) (hM : Met l y ws rm Pc Qc mc ms free) (cw : vx_CSW R s args own index y bytes maxL ret hh ws rm mc ms n) (hp : PreS s H Pc As)
    (hg : g.method = m) (hn : As.length = n) (hsize : g.locals.size = nL) (hstack : g.stack = As.reverse ++ rest) (hW : 2 * g.monitorRoom + (rest.map fun v => v.category).sum ≤ 8) (hdg : decode cc g.pc = .ok (.invokestatic index, 3)) (hf : cells + mc ≤ R.cells ∧ slots + ms ≤ R.slots) :
    va_Run p l e R s m args below meth c H locs cells slots mc ms g rest (Qc As.toArray) (free) := by
  obtain ⟨⟨hrc, hrs, hfr, hlo, hws, hcw⟩, hcode, hini, hy, hlen, hl, hstt⟩ := cw
  have hK : Back l R p e below s args y 3 8 (PreOf R mc ms Pc) (PostOf Qc mc ms free) := va_backW (hh := hh) (bytes := bytes) (maxL := maxL) (ret := ret) hM hp.1 hrc hrs hfr hlo hws hcw (fun a' U hW => word_at hW (Or.inl (by first | rfl | simp [Cond.onTables, Cond.keeps, Cond.steady])) hini)
  obtain ⟨hx, hb, hml, ho, -⟩ := S
  intro T hT X
  obtain ⟨v, vm₁, ⟨U', l2, c2, s2⟩, hW₁, X', ⟨g', mk, t, L, e1, e2, hq, h1, hL, h2, h3⟩, st⟩ := vx_callSW X hx (hh := hh) (bytes := bytes) (maxL := maxL) (ret := ret) ho hl hstt hini hcode hy hK hg (hsize.trans hml.symm) (argsL := As) (rest := rest) (fun sig h => hn.trans (hlen sig h)) hstack hW (by rw [hb]; exact hdg)
    (fun vm₁ hW₁ => ⟨hf.1, hf.2, hp.2 (T.setVm vm₁) hT hW₁⟩)
  dsimp only [Pt.U, Pt.locs, Pt.cells, Pt.slots] at X' e1 e2 h1 h2 h3 st
  subst h1; subst h2; subst h3
  exact ⟨v, (T.setVm vm₁).calling g' mk As.toArray, t, U', L, hT, X', hL, e1, e2, hq, st⟩
/-- not caught here, past rows that name other classes: it goes on to the caller -/
theorem vx_outP {p : Program} {l : Launch} {e : Env} {R : Room} {s : State} {m : MethodId} {args : Array Value} {below : List Frame} {meth : Method} {c : Code} {H : Heap} {locs : List Loc} {cells slots : Nat} {free : Addr → Prop} {ls : Array Slot} {rest : List Value} {Qc : Array Value → State → Outcome → State → Prop} {XC : String → State → State → Prop}
    {pc : Nat} {own E : String} {ce : Cell} {q : Addr} {mc ms : Nat} (hown : s.vm.findClass own = some m.cls) (hlocks : meth.locks = false)
    (hpass : ∀ z ∈ c.exceptionTable.toList, covers z pc = false ∨ (z.catchType ≠ 0 ∧ ∃ nm : String, (Cond.classLink own z.catchType nm).before args s = true ∧ va_Nc E nm s)) (hcell : H[q]? = some ce) (hv : ce.vm = .none) (hcl : s.vm.findClass E = some ce.cls)
    (hx : ∀ t : State, t.heap = H → s.vm.Alike t.vm → XC E s t) (hf : ∀ z ∈ locs, free z.base) (hc : cells ≤ mc) (hs : slots ≤ ms) :
    vx_W p l e R s m args below meth c H locs cells slots (vx_MQ below Qc XC args s mc ms free) (F0 m pc ls rest) q := by
  intro T hT X
  have hpl : e.platform.magicAccessors = ({} : Platform).magicAccessors := by rw [X.admits.platform]
  obtain ⟨vm', hW', X', st⟩ := X.outThrough hlocks q (g := F0 m pc ls rest) rfl rfl rfl (cell := ce) (by rw [hT]; exact hcell) (by rw [hv]; rfl)
    (by obtain ⟨k9, h9, -⟩ := Vm.findClass_spec hcl; exact ⟨k9, h9⟩) (fun z hz => by
      rcases hpass z hz with h | ⟨hz0, nm, hl1, hn1⟩
      · exact Or.inl h
      · obtain ⟨c6, hc6, hcl6⟩ := Cond.classLink_spec hown hl1 e.platform hpl
        obtain ⟨a8, b8, h1, h2, h3⟩ := hn1
        cases Option.some.inj (h1.symm.trans hcl)
        cases Option.some.inj (h2.symm.trans hc6)
        exact Or.inr ⟨hz0, _, hcl6, h3⟩)
  obtain ⟨g₀, hfr⟩ := X'.frames_eq
  have hcell9 : ((T.setVm vm').setFrames (.throwing q :: below)).heap[q]? = some ce := by
    show T.heap[q]? = some ce
    rw [hT]; exact hcell
  have hend : Ended ((T.setVm vm').setFrames (.throwing q :: below)) below (.threw q) := State.frames_setFrames _ (State.cur_lt_of_frames hfr)
  refine ⟨(T.setVm vm').setFrames (.throwing q :: below), ?_, .threw q, X'.here.running, hend, Or.inr ⟨q, rfl, E, ce, locs, hx _ hT (X'.ends _).1.alike, hcell9, hv, hcl, (X'.ends _).1, (X'.ends _).2.mono hc hs, hf⟩⟩
  rw [X.pushThrowing_eq]
  exact st
/-- a thing of a world lies in the heap -/
theorem vx_lt {D : va_G} {cl : List vw_C} {ws : va_W} {H1 : Heap} (h : va_P D cl ws H1) {k : Nat} {q : Nat × va_E} (hk : ws[k]? = some q) : q.1 < H1.size := (h k q hk).lt
end VXS
/-! ===== END ===== -/
/-! ===== BEGIN methods with a table of their own: called by a name, returning or throwing ===== -/
section VXH
/-! vx_backW, vx_callVX, vx_callSX, vx_callVW, vx_runVW, vx_runVX, vx_runSX, vx_ofWH follow the same proofs as their sisters above (Free/Laws.lean, Shelf42/LK1.lean); vx_outP calls Shelf42/NT130.lean (outThrough). -/
section
variable {l : Launch} {R : Room} {p : Program} {e : Env} {below : List Frame} {s : State} {sargs : Array Value} {y : MethodName} {len W9 : Nat}
theorem vx_backW {ws : List Cond} {rm : Room} {Pc : Array Value → State → Prop} {Qc : Array Value → State → Outcome → State → Prop} {XC : String → State → State → Prop} {mc ms : Nat} {free : Addr → Prop} {bytes : ByteArray} {maxL : Nat} {ret : Option FieldType} {hh : List (Nat × Nat × Nat × Nat)}
    (hM : vx_Met l y ws rm Pc Qc XC mc ms free) (hblind : FrameBlind Pc) (hrc : rm.cells = mc) (hrs : rm.slots = ms)
    (hframes : rm.frames + 1 ≤ R.frames) (hlocals : W9 + (maxL + 11) + rm.locals ≤ R.locals)
    (hws : ∀ w ∈ ws, ∀ a' U, s.WarmedH U.vm → w.before a' U = true) (hcode : Cond.codeWith y bytes maxL ret hh ∈ ws) (hinit : ∀ a' U, s.WarmedH U.vm → (Cond.initialized y.cls).before a' U = true) :
    vx_Back l R p e below s sargs y len W9 (PreOf R mc ms Pc) (PostOf Qc mc ms free) (vx_Post XC mc ms free) := by
  intro m meth c A g ig mk a X hg hsize hdg hW hn hp
  have h1 : (headSpec ws rm).pre.before a A.U = true := atoms_intro fun w hw => hws w hw _ _ X.warmed
  have h2 : (Cond.codeWith y bytes maxL ret hh).before a A.U = true := hws _ hcode _ _ X.warmed
  have h3 : (Cond.initialized y.cls).before a A.U = true := hinit _ _ X.warmed
  have h4 : A.cells + (headSpec ws rm).room.cells ≤ R.cells := by rw [show (headSpec ws rm).room.cells = mc from hrc]; exact hp.1
  have h5 : A.slots + (headSpec ws rm).room.slots ≤ R.slots := by rw [show (headSpec ws rm).room.slots = ms from hrs]; exact hp.2.1
  have hPc : Pc a (A.U.calling g mk a) := hblind _ _ _ _ hp.2.2
  obtain ⟨U, Ls, c0, s0⟩ := A
  dsimp only [Pt.U, Pt.locs, Pt.cells, Pt.slots] at h1 h2 h3 h4 h5 X hn hPc ⊢
  obtain ⟨m9, methY, cY, hn9, hmY, hcY, -, hlY, -⟩ := Cond.codeWith_spec h2
  cases Option.some.inj (hn9.symm.trans hn)
  obtain ⟨kY, hkY, -⟩ := className_of_methodNamed hn
  have hinitY : kY.init = .initialized := Cond.initialized_spec (findClass_of_methodNamed hn) hkY h3
  have h : At U g.method c below := by rw [hg]; exact X.here
  have hlocals9 : W9 + (maxL + 11) + (headSpec ws rm).room.locals ≤ R.locals := hlocals
  have happ : (headSpec ws rm).appliesLoose y e.platform (U.calling g mk a) = true :=
    Spec.appliesLoose_calling (g := g) h hdg hn hkY hinitY
      (X.room_calling (g := g) (R' := (headSpec ws rm).room) hsize hmY hcY hframes (by rw [hlY]; omega) h4 h5) h1
  obtain ⟨mid, hmid⟩ := h.above
  have hfr : (U.setTop g).frames = (.java g :: mid) ++ below := by rw [State.frames_setTop' g h.top, hmid]; rfl
  obtain ⟨o, s₂, hsteps, -, hend, hq⟩ := Steps.callFree hM p X.admits X.cas X.clock (acts := []) hfr happ hPc trivial
  have hq' : vx_Q Qc XC mc ms free a (U.calling g mk a) o s₂ := hq
  rw [State.frames_setTop' g h.top] at hend
  obtain ⟨g₀, hg0⟩ := Option.isSome_iff_exists.mp h.top
  obtain ⟨r, hr⟩ := State.topJava?_eq_some.mp hg0
  have hr' : (({ U with heap := s₂.heap, slotsUsed := s₂.slotsUsed } : State).setVm s₂.vm).frames = .java g₀ :: r := hr
  rcases hq' with ⟨hqc, L, hfe, hL⟩ | ⟨q, rfl, E, ce, L, hx, hce, hcv, hcl, hW₂, hsm, hL⟩
  · obtain ⟨⟨v, rfl⟩, hW₂, e2, q2, q3, q4, q5, q6⟩ := id hfe
    have e3 : s₂ = ({ (U.calling g mk a).setFrames s₂.frames with heap := s₂.heap, slotsUsed := s₂.slotsUsed } : State).setVm s₂.vm := by
      have : s₂ = ({ s₂ with vm := (U.calling g mk a).vm } : State).setVm s₂.vm := rfl
      rw [e2] at this
      exact this
    obtain ⟨c₂, i₂, len₂, hc₂, hd₂, hf₂⟩ := hend
    have hW' : U.WarmedH s₂.vm := hW₂
    have hcc : c₂ = c := by
      have h1 : s₂.code? g.method = U.code? g.method := by
        rw [State.code?_eq, State.code?_eq, hW'.alike.method?]
      exact Option.some.inj (hc₂.symm.trans (h1.trans h.code))
    subst hcc
    have hlen : len₂ = len := by rw [hdg] at hd₂; cases hd₂; rfl
    subst hlen
    have hs₂ : s₂ = (({ U with heap := s₂.heap, slotsUsed := s₂.slotsUsed } : State).setVm s₂.vm).setTop { g with pc := g.pc + len₂, stack := v.toList ++ g.stack } := by
      refine e3.trans ?_
      rw [hf₂, State.calling_eq h.top, State.setFrames_setFrames, State.setTop_of_frames _ hr', hr]
      rfl
    have hsame : U.sameButNew ({ U with heap := s₂.heap, slotsUsed := s₂.slotsUsed } : State) L mc ms := by
      refine ⟨?_, q2, q3, q4, q5, q6⟩
      obtain ⟨t, ht, -⟩ := State.frames_cons hr
      show ({ U with heap := s₂.heap, slotsUsed := s₂.slotsUsed } : State) = { U.setFrames U.frames with heap := s₂.heap, slotsUsed := s₂.slotsUsed }
      rw [State.setFrames_self ht]
    subst hg
    refine Or.inl ⟨v, ⟨(({ U with heap := s₂.heap, slotsUsed := s₂.slotsUsed } : State).setVm s₂.vm), Ls ++ L, c0 + mc, s0 + ms⟩,
      ⟨X.admits, X.cas, X.clock, X.frames, X.room, X.hears, X.method, X.code, (X.here.setHeapUsed s₂.heap s₂.slotsUsed).setVm hW'.alike, X.tail, State.WarmedH.trans X.warmed hW', X.limits, X.bytes, X.same.trans (hsame.setVm s.vm)⟩,
      ⟨g, mk, s₂, L, rfl, rfl, hqc, rfl, hL, rfl, rfl⟩, ?_⟩
    show Steps p.tables e below _ ((({ U with heap := s₂.heap, slotsUsed := s₂.slotsUsed } : State).setVm s₂.vm).setTop { g with pc := g.pc + len₂, stack := v.toList ++ g.stack })
    rw [← hs₂]
    exact hsteps
  · obtain ⟨e2, q2, q3, q4, q5, q6⟩ := id hsm
    have e3 : s₂ = ({ (U.calling g mk a).setFrames s₂.frames with heap := s₂.heap, slotsUsed := s₂.slotsUsed } : State).setVm s₂.vm := by
      have : s₂ = ({ s₂ with vm := (U.calling g mk a).vm } : State).setVm s₂.vm := rfl
      rw [e2] at this
      exact this
    have hf₂ : s₂.frames = .throwing q :: .java g :: U.frames.tail := hend
    have hW' : U.WarmedH s₂.vm := hW₂
    have hs₂ : s₂ = ((({ U with heap := s₂.heap, slotsUsed := s₂.slotsUsed } : State).setVm s₂.vm).setTop g).pushFrame (.throwing q) := by
      refine e3.trans ?_
      rw [hf₂, State.calling_eq h.top, State.setFrames_setFrames, State.pushFrame, State.frames_setTop _ hr', State.setTop_of_frames _ hr', State.setFrames_setFrames, hr]
      rfl
    have hsame : U.sameButNew ({ U with heap := s₂.heap, slotsUsed := s₂.slotsUsed } : State) L mc ms := by
      refine ⟨?_, q2, q3, q4, q5, q6⟩
      obtain ⟨t, ht, -⟩ := State.frames_cons hr
      show ({ U with heap := s₂.heap, slotsUsed := s₂.slotsUsed } : State) = { U.setFrames U.frames with heap := s₂.heap, slotsUsed := s₂.slotsUsed }
      rw [State.setFrames_self ht]
    subst hg
    refine Or.inr ⟨q, ⟨(({ U with heap := s₂.heap, slotsUsed := s₂.slotsUsed } : State).setVm s₂.vm), Ls ++ L, c0 + mc, s0 + ms⟩,
      ⟨X.admits, X.cas, X.clock, X.frames, X.room, X.hears, X.method, X.code, (X.here.setHeapUsed s₂.heap s₂.slotsUsed).setVm hW'.alike, X.tail, State.WarmedH.trans X.warmed hW', X.limits, X.bytes, X.same.trans (hsame.setVm s.vm)⟩,
      ⟨g, mk, s₂, L, E, ce, rfl, rfl, hx, hce, hcv, hcl, rfl, hL, rfl, rfl⟩, ?_⟩
    show Steps p.tables e below _ (((({ U with heap := s₂.heap, slotsUsed := s₂.slotsUsed } : State).setVm s₂.vm).setTop g).pushFrame (.throwing q))
    rw [← hs₂]
    exact hsteps
end
variable {p : Program} {l : Launch} {e : Env} {R : Room} {s : State} {m : MethodId} {args : Array Value} {below : List Frame} {meth : Method} {c : Code} {T : State} {H : Heap} {locs : List Loc} {cells slots : Nat}
theorem vx_callVX (X : Stand p l e R s m args below meth c T locs cells slots) (hexec : p.tables.exec = Jvm.exec) {own C : String} {index : Nat} {y : MethodName} {bytes : ByteArray} {maxL : Nat} {ret : Option FieldType} {hh : List (Nat × Nat × Nat × Nat)}
    (hown : s.vm.findClass own = some m.cls) (hlink : (Cond.methodLink own index y).before args s = true) (hinst : (Cond.instanceMethod y).before args s = true) (hsel : (Cond.selects C y y).before args s = true)
    (hcode : (Cond.codeWith y bytes maxL ret hh).before args s = true) (hy : y.cls ≠ "java/lang/invoke/MethodHandle" ∧ y.cls ≠ "java/lang/invoke/VarHandle")
    {W9 : Nat} {Pre : Pt → Array Value → Prop} {Post : Pt → Array Value → Option Value → Pt → Prop} {PostX : Pt → Array Value → Addr → Pt → Prop} (hK : vx_Back l R p e below s args y 3 W9 Pre Post PostX)
    {b : Addr} {cellB : Cell} (hcell : T.heap[b]? = some cellB) (hobj : cellB.vm.isStatics = false) (hcls : s.vm.findClass C = some cellB.cls)
    {g : JFrame} (hg : g.method = m) (hsize : g.locals.size = c.maxLocals) {argsL rest : List Value} (hlen : ∀ sig, parseMethodDescriptor y.desc = some sig → argsL.length = sig.parameters.length)
    (hstack : g.stack = argsL.reverse ++ .ref b :: rest) (hW : 2 * g.monitorRoom + (rest.map fun v => v.category).sum ≤ W9) (hdg : decode c.code g.pc = .ok (.invokevirtual index, 3))
    (hpre : ∀ vm₁, s.WarmedH vm₁ → Pre ⟨T.setVm vm₁, locs, cells, slots⟩ (Value.ref b :: argsL).toArray) :
    (∃ (v : Option Value) (vm₁ : Vm) (B : Pt), s.WarmedH vm₁ ∧ Stand p l e R s m args below meth c B.U B.locs B.cells B.slots ∧ Post ⟨T.setVm vm₁, locs, cells, slots⟩ (Value.ref b :: argsL).toArray v B ∧
      ∀ target, Steps p.tables e below (B.U.setTop { g with pc := g.pc + 3, stack := v.toList ++ rest }) target → Steps p.tables e below (T.setTop g) target) ∨
    (∃ (q : Addr) (vm₁ : Vm) (B : Pt), s.WarmedH vm₁ ∧ Stand p l e R s m args below meth c B.U B.locs B.cells B.slots ∧ PostX ⟨T.setVm vm₁, locs, cells, slots⟩ (Value.ref b :: argsL).toArray q B ∧
      Steps p.tables e below (T.setTop g) ((B.U.setTop { g with stack := rest }).pushFrame (.throwing q))) := by
  obtain ⟨mk, methM, hnamed, hmethM, hstM, habM⟩ := Cond.instanceMethod_spec hinst
  obtain ⟨m8, methM', cM, hn8, hmethM', -, -, -, -, -, -, hsigM⟩ := Cond.codeWith_spec hcode
  cases Option.some.inj (hn8.symm.trans hnamed)
  cases hmethM.symm.trans hmethM'
  obtain ⟨c2, r2, m2, q1, q2, q3, q4, kP, hkP, hkPi⟩ := Cond.selects_spec hsel
  cases hcls.symm.trans q1
  cases (State.methodFound?_of_named hnamed hy).symm.trans q2
  cases hnamed.symm.trans q3
  have hselP : selectMethod e.platform s.vm cellB.cls mk = .method mk := by rw [Launch.admits_selectMethod X.admits]; exact q4
  obtain ⟨vm₁, X₁, hstep₁⟩ := X.invokevirtual hexec hown hlink hnamed hmethM hstM hkP hkPi hy (a := b) (cell := cellB) hcell
    (fun z h => by rw [h] at hobj; cases hobj) hselP hmethM habM hkP hkPi (g := g) hg (argsL := argsL) (rest := rest) (hlen _ hsigM) hstack hdg
  rcases hK m meth c ⟨T.setVm vm₁, locs, cells, slots⟩ { g with stack := rest } (.invokevirtual index) mk (Value.ref b :: argsL).toArray X₁ hg hsize hdg hW (X₁.named hnamed) (hpre vm₁ X₁.warmed) with ⟨v, B, X', hpost, hsteps⟩ | ⟨q, B, X', hpost, hsteps⟩
  · exact Or.inl ⟨v, vm₁, B, X₁.warmed, X', hpost, fun target h => hstep₁ _ fun acts => by rw [doInvoke_state]; exact hsteps.trans h⟩
  · exact Or.inr ⟨q, vm₁, B, X₁.warmed, X', hpost, hstep₁ _ fun acts => by rw [doInvoke_state]; exact hsteps⟩
theorem vx_callSX (X : Stand p l e R s m args below meth c T locs cells slots) (hexec : p.tables.exec = Jvm.exec) {own : String} {index : Nat} {y : MethodName} {bytes : ByteArray} {maxL : Nat} {ret : Option FieldType} {hh : List (Nat × Nat × Nat × Nat)}
    (hown : s.vm.findClass own = some m.cls) (hlink : (Cond.methodLink own index y).before args s = true) (hstat : (Cond.static y).before args s = true) (hinit : (Cond.initialized y.cls).before args s = true)
    (hcode : (Cond.codeWith y bytes maxL ret hh).before args s = true) (hy : y.cls ≠ "java/lang/invoke/MethodHandle" ∧ y.cls ≠ "java/lang/invoke/VarHandle")
    {W9 : Nat} {Pre : Pt → Array Value → Prop} {Post : Pt → Array Value → Option Value → Pt → Prop} {PostX : Pt → Array Value → Addr → Pt → Prop} (hK : vx_Back l R p e below s args y 3 W9 Pre Post PostX)
    {g : JFrame} (hg : g.method = m) (hsize : g.locals.size = c.maxLocals) {argsL rest : List Value} (hlen : ∀ sig, parseMethodDescriptor y.desc = some sig → argsL.length = sig.parameters.length)
    (hstack : g.stack = argsL.reverse ++ rest) (hW : 2 * g.monitorRoom + (rest.map fun v => v.category).sum ≤ W9) (hdg : decode c.code g.pc = .ok (.invokestatic index, 3))
    (hpre : ∀ vm₁, s.WarmedH vm₁ → Pre ⟨T.setVm vm₁, locs, cells, slots⟩ argsL.toArray) :
    (∃ (v : Option Value) (vm₁ : Vm) (B : Pt), s.WarmedH vm₁ ∧ Stand p l e R s m args below meth c B.U B.locs B.cells B.slots ∧ Post ⟨T.setVm vm₁, locs, cells, slots⟩ argsL.toArray v B ∧
      ∀ target, Steps p.tables e below (B.U.setTop { g with pc := g.pc + 3, stack := v.toList ++ rest }) target → Steps p.tables e below (T.setTop g) target) ∨
    (∃ (q : Addr) (vm₁ : Vm) (B : Pt), s.WarmedH vm₁ ∧ Stand p l e R s m args below meth c B.U B.locs B.cells B.slots ∧ PostX ⟨T.setVm vm₁, locs, cells, slots⟩ argsL.toArray q B ∧
      Steps p.tables e below (T.setTop g) ((B.U.setTop { g with stack := rest }).pushFrame (.throwing q))) := by
  obtain ⟨mk, methM, cM, hnamed, hmethM, -, -, -, -, -, -, hsigM⟩ := Cond.codeWith_spec hcode
  have hstatic : methM.isStatic = true := Cond.static_spec hnamed hmethM hstat
  obtain ⟨kP, hkP, -⟩ := className_of_methodNamed hnamed
  have hinitP : kP.init = .initialized := Cond.initialized_spec (findClass_of_methodNamed hnamed) hkP hinit
  obtain ⟨vm₁, X₁, hstep₁⟩ := X.invokestatic hexec hown hlink hnamed hmethM hstatic hkP hinitP hy (g := g) hg (argsL := argsL) (rest := rest) (hlen _ hsigM) hstack hdg
  rcases hK m meth c ⟨T.setVm vm₁, locs, cells, slots⟩ { g with stack := rest } (.invokestatic index) mk argsL.toArray X₁ hg hsize hdg hW (X₁.named hnamed) (hpre vm₁ X₁.warmed) with ⟨v, B, X', hpost, hsteps⟩ | ⟨q, B, X', hpost, hsteps⟩
  · exact Or.inl ⟨v, vm₁, B, X₁.warmed, X', hpost, fun target h => hstep₁ _ fun acts => by rw [doInvoke_state]; exact hsteps.trans h⟩
  · exact Or.inr ⟨q, vm₁, B, X₁.warmed, X', hpost, hstep₁ _ fun acts => by rw [doInvoke_state]; exact hsteps⟩
theorem vx_callVW (X : Stand p l e R s m args below meth c T locs cells slots) (hexec : p.tables.exec = Jvm.exec) {own C : String} {index : Nat} {y : MethodName} {bytes : ByteArray} {maxL : Nat} {ret : Option FieldType} {hh : List (Nat × Nat × Nat × Nat)}
    (hown : s.vm.findClass own = some m.cls) (hlink : (Cond.methodLink own index y).before args s = true) (hinst : (Cond.instanceMethod y).before args s = true) (hsel : (Cond.selects C y y).before args s = true)
    (hcode : (Cond.codeWith y bytes maxL ret hh).before args s = true) (hy : y.cls ≠ "java/lang/invoke/MethodHandle" ∧ y.cls ≠ "java/lang/invoke/VarHandle")
    {W9 : Nat} {Pre : Pt → Array Value → Prop} {Post : Pt → Array Value → Option Value → Pt → Prop} (hK : Back l R p e below s args y 3 W9 Pre Post)
    {b : Addr} {cellB : Cell} (hcell : T.heap[b]? = some cellB) (hobj : cellB.vm.isStatics = false) (hcls : s.vm.findClass C = some cellB.cls)
    {g : JFrame} (hg : g.method = m) (hsize : g.locals.size = c.maxLocals) {argsL rest : List Value} (hlen : ∀ sig, parseMethodDescriptor y.desc = some sig → argsL.length = sig.parameters.length)
    (hstack : g.stack = argsL.reverse ++ .ref b :: rest) (hW : 2 * g.monitorRoom + (rest.map fun v => v.category).sum ≤ W9) (hdg : decode c.code g.pc = .ok (.invokevirtual index, 3))
    (hpre : ∀ vm₁, s.WarmedH vm₁ → Pre ⟨T.setVm vm₁, locs, cells, slots⟩ (Value.ref b :: argsL).toArray) :
    ∃ (v : Option Value) (vm₁ : Vm) (B : Pt), s.WarmedH vm₁ ∧ Stand p l e R s m args below meth c B.U B.locs B.cells B.slots ∧ Post ⟨T.setVm vm₁, locs, cells, slots⟩ (Value.ref b :: argsL).toArray v B ∧
      ∀ target, Steps p.tables e below (B.U.setTop { g with pc := g.pc + 3, stack := v.toList ++ rest }) target → Steps p.tables e below (T.setTop g) target := by
  obtain ⟨mk, methM, hnamed, hmethM, hstM, habM⟩ := Cond.instanceMethod_spec hinst
  obtain ⟨m8, methM', cM, hn8, hmethM', -, -, -, -, -, -, hsigM⟩ := Cond.codeWith_spec hcode
  cases Option.some.inj (hn8.symm.trans hnamed)
  cases hmethM.symm.trans hmethM'
  obtain ⟨c2, r2, m2, q1, q2, q3, q4, kP, hkP, hkPi⟩ := Cond.selects_spec hsel
  cases hcls.symm.trans q1
  cases (State.methodFound?_of_named hnamed hy).symm.trans q2
  cases hnamed.symm.trans q3
  have hselP : selectMethod e.platform s.vm cellB.cls mk = .method mk := by rw [Launch.admits_selectMethod X.admits]; exact q4
  obtain ⟨vm₁, X₁, hstep₁⟩ := X.invokevirtual hexec hown hlink hnamed hmethM hstM hkP hkPi hy (a := b) (cell := cellB) hcell
    (fun z h => by rw [h] at hobj; cases hobj) hselP hmethM habM hkP hkPi (g := g) hg (argsL := argsL) (rest := rest) (hlen _ hsigM) hstack hdg
  obtain ⟨v, B, X', hpost, hsteps⟩ := hK m meth c ⟨T.setVm vm₁, locs, cells, slots⟩ { g with stack := rest } (.invokevirtual index) mk (Value.ref b :: argsL).toArray X₁ hg hsize hdg hW (X₁.named hnamed) (hpre vm₁ X₁.warmed)
  exact ⟨v, vm₁, B, X₁.warmed, X', hpost, fun target h => hstep₁ _ fun acts => by rw [doInvoke_state]; exact hsteps.trans h⟩
abbrev vx_CVW (R : Room) (s : State) (args : Array Value) (own C : String) (index : Nat) (y : MethodName) (bytes : ByteArray) (maxL : Nat) (ret : Option FieldType) (hh : List (Nat × Nat × Nat × Nat)) (ws : List Cond) (rm : Room) (mc ms n : Nat) : Prop :=
  (rm.cells = mc ∧ rm.slots = ms ∧ rm.frames + 1 ≤ R.frames ∧ 8 + (maxL + 11) + rm.locals ≤ R.locals ∧ (∀ w ∈ ws, ∀ (a' : Array Value) (U : State), s.WarmedH U.vm → w.before a' U = true) ∧ Cond.codeWith y bytes maxL ret hh ∈ ws) ∧
  (Cond.codeWith y bytes maxL ret hh).before args s = true ∧ (Cond.initialized y.cls).before args s = true ∧ (y.cls ≠ "java/lang/invoke/MethodHandle" ∧ y.cls ≠ "java/lang/invoke/VarHandle") ∧
  (∀ sig, parseMethodDescriptor y.desc = some sig → n = sig.parameters.length) ∧ (Cond.methodLink own index y).before args s = true ∧ (Cond.instanceMethod y).before args s = true ∧ (Cond.selects C y y).before args s = true
theorem vx_cwVW {own C : String} {index maxL mc ms : Nat} {y : MethodName} {bytes : ByteArray} {ret : Option FieldType} {hh : List (Nat × Nat × Nat × Nat)} {Ts ws ws' : List Cond} {rm : Room} (n : Nat) (ht : ∀ w ∈ Ts, w.before args s = true) (hT : GoodIn Ts (wsV own index C y ws)) (hw : ws = Cond.codeWith y bytes maxL ret hh :: ws') (hrc : rm.cells = mc) (hrs : rm.slots = ms)
    (hd : y.cls = C ∧ y.cls ≠ "java/lang/invoke/MethodHandle" ∧ y.cls ≠ "java/lang/invoke/VarHandle" ∧ (parseMethodDescriptor y.desc).map (fun d => d.parameters.length) = some n) (hR : rm.frames + 1 ≤ R.frames ∧ 8 + (maxL + 11) + rm.locals ≤ R.locals) :
    vx_CVW R s args own C index y bytes maxL ret hh ws rm mc ms n := by
  obtain ⟨hC, hd⟩ := hd
  subst hC
  have ok : ∀ w ∈ wsV own index y.cls y ws, w.before args s = true := fun w h => ht w (hT w h).1
  have hG : GoodIn Ts ws := fun w h => hT w (by unfold wsV; exact List.mem_append_right _ h)
  have hc : Cond.codeWith y bytes maxL ret hh ∈ ws := by rw [hw]; exact List.mem_cons_self
  refine ⟨⟨hrc, hrs, hR.1, hR.2, pay_in ht hG, hc⟩, ht _ (hG _ hc).1, ok _ (by simp [wsV]), ⟨hd.1, hd.2.1⟩, fun sig h => ?_, ok _ (by simp [wsV]), ok _ (by simp [wsV]), ok _ (by simp [wsV])⟩
  have h2 := hd.2.2
  rw [h] at h2
  exact (Option.some.inj h2).symm
theorem vx_runVW {y : MethodName} {bytes cc : ByteArray} {maxL nL mc ms n index : Nat} {ret : Option FieldType} {hh : List (Nat × Nat × Nat × Nat)} {ws : List Cond} {rm : Room} {Pc : Array Value → State → Prop} {Qc : Array Value → State → Outcome → State → Prop} {free : Addr → Prop} {Ts : List Cond} {own C : String} {b : Addr} {As rest : List Value} {g : JFrame}
    (S : CallFix p m c cc nL s args Ts own) (hM : Met l y ws rm Pc Qc mc ms free) (cw : vx_CVW R s args own C index y bytes maxL ret hh ws rm mc ms n) (hp : PreV s H C b Pc As)
    (hg : g.method = m) (hn : As.length = n) (hsize : g.locals.size = nL) (hstack : g.stack = As.reverse ++ .ref b :: rest) (hW : 2 * g.monitorRoom + (rest.map fun v => v.category).sum ≤ 8) (hdg : decode cc g.pc = .ok (.invokevirtual index, 3)) (hf : cells + mc ≤ R.cells ∧ slots + ms ≤ R.slots) :
    va_Run p l e R s m args below meth c H locs cells slots mc ms g rest (Qc (Value.ref b :: As).toArray) free := by
  obtain ⟨⟨hrc, hrs, hfr, hlo, hws, hcw⟩, hcode, hini, hy, hlen, hl, hin, hse⟩ := cw
  have hK : Back l R p e below s args y 3 8 (PreOf R mc ms Pc) (PostOf Qc mc ms free) := va_backW (hh := hh) (bytes := bytes) (maxL := maxL) (ret := ret) hM hp.1 hrc hrs hfr hlo hws hcw (fun a' U hW => word_at hW (Or.inl (by first | rfl | simp [Cond.onTables, Cond.keeps, Cond.steady])) hini)
  obtain ⟨hx, hb, hml, ho, -⟩ := S
  obtain ⟨-, ⟨cellB, hcB, hoB, hclB⟩, hPc⟩ := hp
  intro T hT X
  obtain ⟨v, vm₁, ⟨U', l2, c2, s2⟩, hW₁, X', ⟨g', mk, t, L, e1, e2, hq, h1, hL, h2, h3⟩, st⟩ := vx_callVW X hx (C := C) (hh := hh) (bytes := bytes) (maxL := maxL) (ret := ret) ho hl hin hse hcode hy hK (by rw [hT]; exact hcB) hoB hclB hg (hsize.trans hml.symm) (argsL := As) (rest := rest) (fun sig h => hn.trans (hlen sig h)) hstack hW (by rw [hb]; exact hdg)
    (fun vm₁ hW₁ => ⟨hf.1, hf.2, hPc (T.setVm vm₁) hT hW₁⟩)
  dsimp only [Pt.U, Pt.locs, Pt.cells, Pt.slots] at X' e1 e2 h1 h2 h3 st
  subst h1; subst h2; subst h3
  exact ⟨v, (T.setVm vm₁).calling g' mk (Value.ref b :: As).toArray, t, U', L, hT, X', hL, e1, e2, hq, st⟩
section
variable {y : MethodName} {bytes cc : ByteArray} {maxL nL mc ms n index : Nat} {ret : Option FieldType} {ws : List Cond} {rm : Room} {Pc : Array Value → State → Prop} {Qc : Array Value → State → Outcome → State → Prop} {XC : String → State → State → Prop} {free : Addr → Prop} {Ts : List Cond} {own C : String} {b : Addr} {As rest : List Value} {g : JFrame}
theorem vx_runVX {hh : List (Nat × Nat × Nat × Nat)} (S : CallFix p m c cc nL s args Ts own) (hM : vx_Met l y ws rm Pc Qc XC mc ms free) (cw : vx_CVW R s args own C index y bytes maxL ret hh ws rm mc ms n) (hp : PreV s H C b Pc As)
    (hg : g.method = m) (hn : As.length = n) (hsize : g.locals.size = nL) (hstack : g.stack = As.reverse ++ .ref b :: rest) (hW : 2 * g.monitorRoom + (rest.map fun v => v.category).sum ≤ 8) (hdg : decode cc g.pc = .ok (.invokevirtual index, 3)) (hf : cells + mc ≤ R.cells ∧ slots + ms ≤ R.slots) :
    vx_Run p l e R s m args below meth c H locs cells slots mc ms g rest (Qc (Value.ref b :: As).toArray) XC free := by
  obtain ⟨⟨hrc, hrs, hfr, hlo, hws, hcw⟩, hcode, hini, hy, hlen, hl, hin, hse⟩ := cw
  have hK : vx_Back l R p e below s args y 3 8 (PreOf R mc ms Pc) (PostOf Qc mc ms free) (vx_Post XC mc ms free) := vx_backW (hh := hh) (bytes := bytes) (maxL := maxL) (ret := ret) hM hp.1 hrc hrs hfr hlo hws hcw (fun a' U hW => word_at hW (Or.inl (by first | rfl | simp [Cond.onTables, Cond.keeps, Cond.steady])) hini)
  obtain ⟨hx, hb, hml, ho, -⟩ := S
  obtain ⟨-, ⟨cellB, hcB, hoB, hclB⟩, hPc⟩ := hp
  intro T hT X
  rcases vx_callVX X hx (C := C) (hh := hh) (bytes := bytes) (maxL := maxL) (ret := ret) ho hl hin hse hcode hy hK (by rw [hT]; exact hcB) hoB hclB hg (hsize.trans hml.symm) (argsL := As) (rest := rest) (fun sig h => hn.trans (hlen sig h)) hstack hW (by rw [hb]; exact hdg)
    (fun vm₁ hW₁ => ⟨hf.1, hf.2, hPc (T.setVm vm₁) hT hW₁⟩) with ⟨v, vm₁, ⟨U', l2, c2, s2⟩, hW₁, X', ⟨g', mk, t, L, e1, e2, hq, h1, hL, h2, h3⟩, st⟩ | ⟨q, vm₁, ⟨U', l2, c2, s2⟩, hW₁, X', ⟨g', mk, t, L, E, ce, e1, e2, hq, hce, hcv, hcl, h1, hL, h2, h3⟩, st⟩
  · dsimp only [Pt.U, Pt.locs, Pt.cells, Pt.slots] at X' e1 e2 h1 h2 h3 st
    subst h1; subst h2; subst h3
    exact Or.inl ⟨v, (T.setVm vm₁).calling g' mk (Value.ref b :: As).toArray, t, U', L, hT, X', hL, e1, e2, hq, st⟩
  · dsimp only [Pt.U, Pt.locs, Pt.cells, Pt.slots] at X' e1 e2 h1 h2 h3 st hcl
    subst h1; subst h2; subst h3
    exact Or.inr ⟨q, (T.setVm vm₁).calling g' mk (Value.ref b :: As).toArray, t, U', L, E, ce, hT, X', hL, e1, e2, hq, hce, hcv, vx_cls hW₁ hcl, st⟩
theorem vx_runSX {hh : List (Nat × Nat × Nat × Nat)} (S : CallFix p m c cc nL s args Ts own) (hM : vx_Met l y ws rm Pc Qc XC mc ms free) (cw : vx_CSW R s args own index y bytes maxL ret hh ws rm mc ms n) (hp : PreS s H Pc As)
    (hg : g.method = m) (hn : As.length = n) (hsize : g.locals.size = nL) (hstack : g.stack = As.reverse ++ rest) (hW : 2 * g.monitorRoom + (rest.map fun v => v.category).sum ≤ 8) (hdg : decode cc g.pc = .ok (.invokestatic index, 3)) (hf : cells + mc ≤ R.cells ∧ slots + ms ≤ R.slots) :
    vx_Run p l e R s m args below meth c H locs cells slots mc ms g rest (Qc As.toArray) XC free := by
  obtain ⟨⟨hrc, hrs, hfr, hlo, hws, hcw⟩, hcode, hini, hy, hlen, hl, hstt⟩ := cw
  have hK : vx_Back l R p e below s args y 3 8 (PreOf R mc ms Pc) (PostOf Qc mc ms free) (vx_Post XC mc ms free) := vx_backW (hh := hh) (bytes := bytes) (maxL := maxL) (ret := ret) hM hp.1 hrc hrs hfr hlo hws hcw (fun a' U hW => word_at hW (Or.inl (by first | rfl | simp [Cond.onTables, Cond.keeps, Cond.steady])) hini)
  obtain ⟨hx, hb, hml, ho, -⟩ := S
  intro T hT X
  rcases vx_callSX X hx (hh := hh) (bytes := bytes) (maxL := maxL) (ret := ret) ho hl hstt hini hcode hy hK hg (hsize.trans hml.symm) (argsL := As) (rest := rest) (fun sig h => hn.trans (hlen sig h)) hstack hW (by rw [hb]; exact hdg)
    (fun vm₁ hW₁ => ⟨hf.1, hf.2, hp.2 (T.setVm vm₁) hT hW₁⟩) with ⟨v, vm₁, ⟨U', l2, c2, s2⟩, hW₁, X', ⟨g', mk, t, L, e1, e2, hq, h1, hL, h2, h3⟩, st⟩ | ⟨q, vm₁, ⟨U', l2, c2, s2⟩, hW₁, X', ⟨g', mk, t, L, E, ce, e1, e2, hq, hce, hcv, hcl, h1, hL, h2, h3⟩, st⟩
  · dsimp only [Pt.U, Pt.locs, Pt.cells, Pt.slots] at X' e1 e2 h1 h2 h3 st
    subst h1; subst h2; subst h3
    exact Or.inl ⟨v, (T.setVm vm₁).calling g' mk As.toArray, t, U', L, hT, X', hL, e1, e2, hq, st⟩
  · dsimp only [Pt.U, Pt.locs, Pt.cells, Pt.slots] at X' e1 e2 h1 h2 h3 st hcl
    subst h1; subst h2; subst h3
    exact Or.inr ⟨q, (T.setVm vm₁).calling g' mk As.toArray, t, U', L, E, ce, hT, X', hL, e1, e2, hq, hce, hcv, vx_cls hW₁ hcl, st⟩
end
end VXH
theorem vx_ofWH {l : Launch} {y : MethodName} {ws ws' : List Cond} {rm : Room} {Pc : Array Value → State → Prop} {Qc : Array Value → State → Outcome → State → Prop} {XC : String → State → State → Prop} {mc ms : Nat} {free : Addr → Prop} {cc : ByteArray} {maxL : Nat} {ret : Option FieldType} {hh : List (Nat × Nat × Nat × Nat)}
    (hy : plainName y.cls = true) (hw : ws = Cond.codeWith y cc maxL ret hh :: ws')
    (body : ∀ p e s m args below meth c s₁, BodyLoose p l y (headSpec ws rm) cc maxL ret e s m args below meth c s₁ → c.maxLocals = maxL → Pc args s →
      W p l e (headSpec ws rm).room s m args below meth c s.heap [] 0 0 (vx_MQ below Qc XC args s mc ms free) (entryFrame m args maxL)) : vx_Met l y ws rm Pc Qc XC mc ms free := by
  refine MetFree.of_bodyS (code := cc) (maxLocals := maxL) (ret := ret) hy ?_ ?_
  · intro args s m h hn
    obtain ⟨m9, meth, c, hn9, h1, h2, h3, h4, -, h5, h6, -⟩ := Cond.codeWith_spec (atoms_spec (ws := ws) h _ (by rw [hw]; exact List.mem_cons_self))
    cases hn.symm.trans hn9
    exact ⟨meth, c, h1, h2, h3, h4, h5, h6⟩
  · intro p e s m args below meth c s₁ B hml hP _
    have hh0 : s₁.heap = s.heap := by rw [B.state]; rfl
    obtain ⟨t, a1, o, b1, b2, b3⟩ := body p e s m args below meth c s₁ B hml hP s₁ hh0 (Stand.of_body B)
    exact ⟨t, o, a1, b1, b2, b3⟩
/-! ===== END ===== -/
end
section
def RX0 : String := "ScaffoldYard$Books"
def TX0 : u_T := fun k => match k with
  | 0 => ("ScaffoldYard$Books", "sets", "I", false)
  | 1 => ("ScaffoldYard$Books", "day", "I", false)
  | 2 => ("ScaffoldYard$Books", "hires", "I", false)
  | 3 => ("ScaffoldYard$Books", "borne", "I", false)
  | 4 => ("ScaffoldYard$Books", "spent", "I", false)
  | 5 => ("ScaffoldYard$Books", "settings", "[I", true)
  | 6 => ("ScaffoldYard$Books", "where", "[I", true)
  | 7 => ("ScaffoldYard$Books", "came", "[I", true)
  | 8 => ("ScaffoldYard$Books", "stays", "[I", true)
  | 9 => ("ScaffoldYard$Books", "users", "[I", true)
  | 10 => ("ScaffoldYard$Books", "stock", "[I", true)
  | 11 => ("ScaffoldYard$Books", "spare", "[I", true)
  | 12 => ("ScaffoldYard$Books", "charged", "[I", true)
  | 13 => ("ScaffoldYard$Books", "billedByHires", "[I", true)
  | 14 => ("ScaffoldYard$Books", "billedByMissing", "[I", true)
  | 15 => ("ScaffoldYard$Books", "billedByDamage", "[I", true)
  | _ => ("ScaffoldYard$Books", "paid", "[I", true)
def tyX0 : Nat → FieldType := fun k => match k with
  | 0 => .int
  | 1 => .int
  | 2 => .int
  | 3 => .int
  | 4 => .int
  | 5 => .array .int
  | 6 => .array .int
  | 7 => .array .int
  | 8 => .array .int
  | 9 => .array .int
  | 10 => .array .int
  | 11 => .array .int
  | 12 => .array .int
  | 13 => .array .int
  | 14 => .array .int
  | 15 => .array .int
  | _ => .array .int
theorem nmX0 : ∀ a, a < 17 → ∀ b, b < 17 → a ≠ b → (TX0 a).2.1 ≠ (TX0 b).2.1 := by decide +kernel
theorem tyX0_ok : ∀ k, k < 17 → parseFieldDescriptor (TX0 k).2.2.1 = some (tyX0 k) := by decide +kernel
abbrev cX0_init : ByteArray := prog_2_method_1_code
def yX0_init : MethodName := ⟨RX0, "<init>", "()V"⟩
abbrev cX0_copyFrom : ByteArray := prog_2_method_2_code
def yX0_copyFrom : MethodName := ⟨RX0, "copyFrom", "(LScaffoldYard$Books;)V"⟩
abbrev cX0_isSet : ByteArray := prog_2_method_3_code
def yX0_isSet : MethodName := ⟨RX0, "isSet", "(I)Z"⟩
abbrev cX0_isInYard : ByteArray := prog_2_method_4_code
def yX0_isInYard : MethodName := ⟨RX0, "isInYard", "(I)Z"⟩
abbrev cX0_isOnSite : ByteArray := prog_2_method_5_code
def yX0_isOnSite : MethodName := ⟨RX0, "isOnSite", "(I)Z"⟩
abbrev cX0_isOn : ByteArray := prog_2_method_6_code
def yX0_isOn : MethodName := ⟨RX0, "isOn", "(II)Z"⟩
abbrev cX0_stockOf : ByteArray := prog_2_method_7_code
def yX0_stockOf : MethodName := ⟨RX0, "stockOf", "(II)I"⟩
abbrev cX0_lackOf : ByteArray := prog_2_method_8_code
def yX0_lackOf : MethodName := ⟨RX0, "lackOf", "(II)I"⟩
abbrev cX0_partsIn : ByteArray := prog_2_method_9_code
def yX0_partsIn : MethodName := ⟨RX0, "partsIn", "(I)I"⟩
abbrev cX0_isWhole : ByteArray := prog_2_method_10_code
def yX0_isWhole : MethodName := ⟨RX0, "isWhole", "(I)Z"⟩
abbrev cX0_inYard : ByteArray := prog_2_method_11_code
def yX0_inYard : MethodName := ⟨RX0, "inYard", "()I"⟩
abbrev cX0_wholeInYard : ByteArray := prog_2_method_12_code
def yX0_wholeInYard : MethodName := ⟨RX0, "wholeInYard", "()I"⟩
abbrev cX0_addSets : ByteArray := prog_2_method_13_code
def yX0_addSets : MethodName := ⟨RX0, "addSets", "(I)V"⟩
abbrev cX0_addSpare : ByteArray := prog_2_method_14_code
def yX0_addSpare : MethodName := ⟨RX0, "addSpare", "(II)V"⟩
abbrev cX0_fillUp : ByteArray := prog_2_method_15_code
def yX0_fillUp : MethodName := ⟨RX0, "fillUp", "(I)I"⟩
abbrev cX0_charge : ByteArray := prog_2_method_16_code
def yX0_charge : MethodName := ⟨RX0, "charge", "(III)I"⟩
abbrev cX0_chargeDamage : ByteArray := prog_2_method_17_code
def yX0_chargeDamage : MethodName := ⟨RX0, "chargeDamage", "(III)I"⟩
abbrev cX0_exchangeParts : ByteArray := prog_2_method_18_code
def yX0_exchangeParts : MethodName := ⟨RX0, "exchangeParts", "(II)V"⟩
abbrev cX0_userOf : ByteArray := prog_2_method_19_code
def yX0_userOf : MethodName := ⟨RX0, "userOf", "(II)I"⟩
abbrev cX0_usersOf : ByteArray := prog_2_method_20_code
def yX0_usersOf : MethodName := ⟨RX0, "usersOf", "(I)I"⟩
abbrev cX0_addUser : ByteArray := prog_2_method_21_code
def yX0_addUser : MethodName := ⟨RX0, "addUser", "(II)V"⟩
abbrev cX0_shareOf : ByteArray := prog_2_method_22_code
def yX0_shareOf : MethodName := ⟨RX0, "shareOf", "(III)I"⟩
abbrev cX0_canMove : ByteArray := prog_2_method_23_code
def yX0_canMove : MethodName := ⟨RX0, "canMove", "(II)Z"⟩
abbrev cX0_canPass : ByteArray := prog_2_method_24_code
def yX0_canPass : MethodName := ⟨RX0, "canPass", "(I)Z"⟩
abbrev cX0_hireOut : ByteArray := prog_2_method_25_code
def yX0_hireOut : MethodName := ⟨RX0, "hireOut", "(II)V"⟩
abbrev cX0_comeTo : ByteArray := prog_2_method_26_code
def yX0_comeTo : MethodName := ⟨RX0, "comeTo", "(II)V"⟩
abbrev cX0_hireBill : ByteArray := prog_2_method_27_code
def yX0_hireBill : MethodName := ⟨RX0, "hireBill", "(II)I"⟩
abbrev cX0_billForHire : ByteArray := prog_2_method_28_code
def yX0_billForHire : MethodName := ⟨RX0, "billForHire", "(I)I"⟩
abbrev cX0_comeHome : ByteArray := prog_2_method_29_code
def yX0_comeHome : MethodName := ⟨RX0, "comeHome", "(I)V"⟩
abbrev cX0_moveTo : ByteArray := prog_2_method_30_code
def yX0_moveTo : MethodName := ⟨RX0, "moveTo", "(II)I"⟩
abbrev cX0_takeBack : ByteArray := prog_2_method_31_code
def yX0_takeBack : MethodName := ⟨RX0, "takeBack", "(I)I"⟩
abbrev cX0_takeBackShort : ByteArray := prog_2_method_32_code
def yX0_takeBackShort : MethodName := ⟨RX0, "takeBackShort", "(III)I"⟩
abbrev cX0_billedSoFar : ByteArray := prog_2_method_33_code
def yX0_billedSoFar : MethodName := ⟨RX0, "billedSoFar", "(I)I"⟩
abbrev cX0_billOf : ByteArray := prog_2_method_34_code
def yX0_billOf : MethodName := ⟨RX0, "billOf", "(I)I"⟩
abbrev cX0_setsOn : ByteArray := prog_2_method_35_code
def yX0_setsOn : MethodName := ⟨RX0, "setsOn", "(I)I"⟩
abbrev cX0_billIfAllLeft : ByteArray := prog_2_method_36_code
def yX0_billIfAllLeft : MethodName := ⟨RX0, "billIfAllLeft", "(I)I"⟩
abbrev cX0_isWithinTerm : ByteArray := prog_2_method_37_code
def yX0_isWithinTerm : MethodName := ⟨RX0, "isWithinTerm", "(I)Z"⟩
abbrev cX0_setsWithinTerm : ByteArray := prog_2_method_38_code
def yX0_setsWithinTerm : MethodName := ⟨RX0, "setsWithinTerm", "(I)I"⟩
abbrev cX0_firstDue : ByteArray := prog_2_method_39_code
def yX0_firstDue : MethodName := ⟨RX0, "firstDue", "(I)I"⟩
abbrev cX0_bundleValue : ByteArray := prog_2_method_40_code
def yX0_bundleValue : MethodName := ⟨RX0, "bundleValue", "(II)I"⟩
abbrev cX0_siteValue : ByteArray := prog_2_method_41_code
def yX0_siteValue : MethodName := ⟨RX0, "siteValue", "(II)I"⟩
abbrev cX0_partsInSets : ByteArray := prog_2_method_42_code
def yX0_partsInSets : MethodName := ⟨RX0, "partsInSets", "(I)I"⟩
abbrev cX0_partsValue : ByteArray := prog_2_method_43_code
def yX0_partsValue : MethodName := ⟨RX0, "partsValue", "(II)I"⟩
abbrev cX0_billedToAll : ByteArray := prog_2_method_44_code
def yX0_billedToAll : MethodName := ⟨RX0, "billedToAll", "()I"⟩
abbrev cX0_paidByAll : ByteArray := prog_2_method_45_code
def yX0_paidByAll : MethodName := ⟨RX0, "paidByAll", "()I"⟩
abbrev cX0_countValue : ByteArray := prog_2_method_46_code
def yX0_countValue : MethodName := ⟨RX0, "countValue", "(I)I"⟩
def RX1 : String := "ScaffoldYard$History"
def TX1 : u_T := fun k => match k with
  | 0 => ("ScaffoldYard$History", "ring", "[LScaffoldYard$Books;", true)
  | 1 => ("ScaffoldYard$History", "saved", "I", false)
  | _ => ("ScaffoldYard$History", "next", "I", false)
def tyX1 : Nat → FieldType := fun k => match k with
  | 0 => .array (.object "ScaffoldYard$Books")
  | 1 => .int
  | _ => .int
theorem nmX1 : ∀ a, a < 3 → ∀ b, b < 3 → a ≠ b → (TX1 a).2.1 ≠ (TX1 b).2.1 := by decide +kernel
theorem tyX1_ok : ∀ k, k < 3 → parseFieldDescriptor (TX1 k).2.2.1 = some (tyX1 k) := by decide +kernel
abbrev cX1_init : ByteArray := prog_3_method_1_code
def yX1_init : MethodName := ⟨RX1, "<init>", "()V"⟩
abbrev cX1_bookAt : ByteArray := prog_3_method_2_code
def yX1_bookAt : MethodName := ⟨RX1, "bookAt", "(I)LScaffoldYard$Books;"⟩
abbrev cX1_keep : ByteArray := prog_3_method_3_code
def yX1_keep : MethodName := ⟨RX1, "keep", "(LScaffoldYard$Books;)V"⟩
abbrev cX1_giveBack : ByteArray := prog_3_method_4_code
def yX1_giveBack : MethodName := ⟨RX1, "giveBack", "(LScaffoldYard$Books;)V"⟩
def RX2 : String := "ScaffoldYard$OrderText"
def TX2 : u_T := fun k => match k with
  | 0 => ("ScaffoldYard$OrderText", "codes", "[I", true)
  | 1 => ("ScaffoldYard$OrderText", "length", "I", false)
  | 2 => ("ScaffoldYard$OrderText", "place", "I", false)
  | 3 => ("ScaffoldYard$OrderText", "letter", "I", false)
  | 4 => ("ScaffoldYard$OrderText", "first", "I", false)
  | _ => ("ScaffoldYard$OrderText", "second", "I", false)
def tyX2 : Nat → FieldType := fun k => match k with
  | 0 => .array .int
  | 1 => .int
  | 2 => .int
  | 3 => .int
  | 4 => .int
  | _ => .int
theorem nmX2 : ∀ a, a < 6 → ∀ b, b < 6 → a ≠ b → (TX2 a).2.1 ≠ (TX2 b).2.1 := by decide +kernel
theorem tyX2_ok : ∀ k, k < 6 → parseFieldDescriptor (TX2 k).2.2.1 = some (tyX2 k) := by decide +kernel
abbrev cX2_init : ByteArray := prog_4_method_1_code
def yX2_init : MethodName := ⟨RX2, "<init>", "()V"⟩
abbrev cX2_write : ByteArray := prog_4_method_2_code
def yX2_write : MethodName := ⟨RX2, "write", "(I)V"⟩
abbrev cX2_wipe : ByteArray := prog_4_method_3_code
def yX2_wipe : MethodName := ⟨RX2, "wipe", "()V"⟩
abbrev cX2_rewind : ByteArray := prog_4_method_4_code
def yX2_rewind : MethodName := ⟨RX2, "rewind", "()V"⟩
abbrev cX2_sign : ByteArray := prog_4_method_5_code
def yX2_sign : MethodName := ⟨RX2, "sign", "()I"⟩
abbrev cX2_digit : ByteArray := prog_4_method_6_code
def yX2_digit : MethodName := ⟨RX2, "digit", "()I"⟩
abbrev cX2_readSign : ByteArray := prog_4_method_7_code
def yX2_readSign : MethodName := ⟨RX2, "readSign", "(I)Z"⟩
abbrev cX2_readNumber : ByteArray := prog_4_method_8_code
def yX2_readNumber : MethodName := ⟨RX2, "readNumber", "(II)I"⟩
abbrev cX2_readOrder : ByteArray := prog_4_method_9_code
def yX2_readOrder : MethodName := ⟨RX2, "readOrder", "()Z"⟩
abbrev cX2_readPair : ByteArray := prog_4_method_10_code
def yX2_readPair : MethodName := ⟨RX2, "readPair", "(IIIII)Z"⟩
abbrev cX2_firstFault : ByteArray := prog_4_method_11_code
def yX2_firstFault : MethodName := ⟨RX2, "firstFault", "()I"⟩
abbrev cX2_isRowOfOrders : ByteArray := prog_4_method_12_code
def yX2_isRowOfOrders : MethodName := ⟨RX2, "isRowOfOrders", "()Z"⟩
def RX3 : String := "ScaffoldYard"
def TX3 : u_T := fun k => match k with
  | 0 => ("ScaffoldYard", "books", "LScaffoldYard$Books;", true)
  | 1 => ("ScaffoldYard", "history", "LScaffoldYard$History;", true)
  | 2 => ("ScaffoldYard", "text", "LScaffoldYard$OrderText;", true)
  | _ => ("ScaffoldYard", "spareLeft", "[I", true)
def tyX3 : Nat → FieldType := fun k => match k with
  | 0 => .object "ScaffoldYard$Books"
  | 1 => .object "ScaffoldYard$History"
  | 2 => .object "ScaffoldYard$OrderText"
  | _ => .array .int
theorem nmX3 : ∀ a, a < 4 → ∀ b, b < 4 → a ≠ b → (TX3 a).2.1 ≠ (TX3 b).2.1 := by decide +kernel
theorem tyX3_ok : ∀ k, k < 4 → parseFieldDescriptor (TX3 k).2.2.1 = some (tyX3 k) := by decide +kernel
abbrev cX3_init : ByteArray := prog_1_method_1_code
def yX3_init : MethodName := ⟨RX3, "<init>", "()V"⟩
abbrev cX3_buySets : ByteArray := prog_1_method_2_code
def yX3_buySets : MethodName := ⟨RX3, "buySets", "(I)I"⟩
abbrev cX3_buySpare : ByteArray := prog_1_method_3_code
def yX3_buySpare : MethodName := ⟨RX3, "buySpare", "(II)I"⟩
abbrev cX3_repair : ByteArray := prog_1_method_4_code
def yX3_repair : MethodName := ⟨RX3, "repair", "(I)I"⟩
abbrev cX3_damage : ByteArray := prog_1_method_5_code
def yX3_damage : MethodName := ⟨RX3, "damage", "(III)I"⟩
abbrev cX3_swap : ByteArray := prog_1_method_6_code
def yX3_swap : MethodName := ⟨RX3, "swap", "(II)I"⟩
abbrev cX3_hire : ByteArray := prog_1_method_7_code
def yX3_hire : MethodName := ⟨RX3, "hire", "(II)I"⟩
abbrev cX3_moveOn : ByteArray := prog_1_method_8_code
def yX3_moveOn : MethodName := ⟨RX3, "moveOn", "(II)I"⟩
abbrev cX3_bring : ByteArray := prog_1_method_9_code
def yX3_bring : MethodName := ⟨RX3, "bring", "(I)I"⟩
abbrev cX3_bringShort : ByteArray := prog_1_method_10_code
def yX3_bringShort : MethodName := ⟨RX3, "bringShort", "(III)I"⟩
abbrev cX3_pay : ByteArray := prog_1_method_11_code
def yX3_pay : MethodName := ⟨RX3, "pay", "(II)I"⟩
abbrev cX3_pass : ByteArray := prog_1_method_12_code
def yX3_pass : MethodName := ⟨RX3, "pass", "(I)I"⟩
abbrev cX3_set : ByteArray := prog_1_method_13_code
def yX3_set : MethodName := ⟨RX3, "set", "(II)I"⟩
abbrev cX3_append : ByteArray := prog_1_method_14_code
def yX3_append : MethodName := ⟨RX3, "append", "(I)I"⟩
abbrev cX3_clearBuffer : ByteArray := prog_1_method_15_code
def yX3_clearBuffer : MethodName := ⟨RX3, "clearBuffer", "()I"⟩
abbrev cX3_firstError : ByteArray := prog_1_method_16_code
def yX3_firstError : MethodName := ⟨RX3, "firstError", "()I"⟩
abbrev cX3_run : ByteArray := prog_1_method_17_code
def yX3_run : MethodName := ⟨RX3, "run", "()I"⟩
abbrev cX3_undo : ByteArray := prog_1_method_18_code
def yX3_undo : MethodName := ⟨RX3, "undo", "()I"⟩
abbrev cX3_bundle : ByteArray := prog_1_method_19_code
def yX3_bundle : MethodName := ⟨RX3, "bundle", "(II)I"⟩
abbrev cX3_site : ByteArray := prog_1_method_20_code
def yX3_site : MethodName := ⟨RX3, "site", "(II)I"⟩
abbrev cX3_parts : ByteArray := prog_1_method_21_code
def yX3_parts : MethodName := ⟨RX3, "parts", "(II)I"⟩
abbrev cX3_count : ByteArray := prog_1_method_22_code
def yX3_count : MethodName := ⟨RX3, "count", "(I)I"⟩
abbrev cX3_setting : ByteArray := prog_1_method_23_code
def yX3_setting : MethodName := ⟨RX3, "setting", "(I)I"⟩
abbrev cX3_billIn : ByteArray := prog_1_method_24_code
def yX3_billIn : MethodName := ⟨RX3, "billIn", "(II)I"⟩
abbrev cX3_splitOn : ByteArray := prog_1_method_25_code
def yX3_splitOn : MethodName := ⟨RX3, "splitOn", "(III)I"⟩
abbrev cX3_oldest : ByteArray := prog_1_method_26_code
def yX3_oldest : MethodName := ⟨RX3, "oldest", "(I)I"⟩
abbrev cX3_ifRepaired : ByteArray := prog_1_method_27_code
def yX3_ifRepaired : MethodName := ⟨RX3, "ifRepaired", "()I"⟩
abbrev cX3_hiredShare : ByteArray := prog_1_method_28_code
def yX3_hiredShare : MethodName := ⟨RX3, "hiredShare", "()D"⟩
abbrev cX3_digest : ByteArray := prog_1_method_29_code
def yX3_digest : MethodName := ⟨RX3, "digest", "()J"⟩
abbrev cX3_needSet : ByteArray := prog_1_method_30_code
def yX3_needSet : MethodName := ⟨RX3, "needSet", "(I)V"⟩
abbrev cX3_needSite : ByteArray := prog_1_method_31_code
def yX3_needSite : MethodName := ⟨RX3, "needSite", "(I)V"⟩
abbrev cX3_needKind : ByteArray := prog_1_method_32_code
def yX3_needKind : MethodName := ⟨RX3, "needKind", "(I)V"⟩
abbrev cX3_needSetting : ByteArray := prog_1_method_33_code
def yX3_needSetting : MethodName := ⟨RX3, "needSetting", "(I)V"⟩
abbrev cX3_needAtLeastOne : ByteArray := prog_1_method_34_code
def yX3_needAtLeastOne : MethodName := ⟨RX3, "needAtLeastOne", "(I)V"⟩
abbrev cX3_needInYard : ByteArray := prog_1_method_35_code
def yX3_needInYard : MethodName := ⟨RX3, "needInYard", "(I)V"⟩
abbrev cX3_needOnSite : ByteArray := prog_1_method_36_code
def yX3_needOnSite : MethodName := ⟨RX3, "needOnSite", "(I)V"⟩
abbrev cX3_needStock : ByteArray := prog_1_method_37_code
def yX3_needStock : MethodName := ⟨RX3, "needStock", "(III)V"⟩
abbrev cX3_isSettingValue : ByteArray := prog_1_method_38_code
def yX3_isSettingValue : MethodName := ⟨RX3, "isSettingValue", "(II)Z"⟩
abbrev cX3_isBundleWhat : ByteArray := prog_1_method_39_code
def yX3_isBundleWhat : MethodName := ⟨RX3, "isBundleWhat", "(I)Z"⟩
abbrev cX3_carryOut : ByteArray := prog_1_method_40_code
def yX3_carryOut : MethodName := ⟨RX3, "carryOut", "()Z"⟩
abbrev cX3_hireByText : ByteArray := prog_1_method_41_code
def yX3_hireByText : MethodName := ⟨RX3, "hireByText", "(II)Z"⟩
abbrev cX3_moveByText : ByteArray := prog_1_method_42_code
def yX3_moveByText : MethodName := ⟨RX3, "moveByText", "(II)Z"⟩
abbrev cX3_bringByText : ByteArray := prog_1_method_43_code
def yX3_bringByText : MethodName := ⟨RX3, "bringByText", "(I)Z"⟩
abbrev cX3_passByText : ByteArray := prog_1_method_44_code
def yX3_passByText : MethodName := ⟨RX3, "passByText", "(I)Z"⟩
abbrev cX3_countValue : ByteArray := prog_1_method_45_code
def yX3_countValue : MethodName := ⟨RX3, "countValue", "(I)I"⟩
abbrev cX3_wouldBeWhole : ByteArray := prog_1_method_46_code
def yX3_wouldBeWhole : MethodName := ⟨RX3, "wouldBeWhole", "(I)Z"⟩
abbrev cX3_mix : ByteArray := prog_1_method_47_code
def yX3_mix : MethodName := ⟨RX3, "mix", "(JJ)J"⟩
abbrev cX3_mixSet : ByteArray := prog_1_method_48_code
def yX3_mixSet : MethodName := ⟨RX3, "mixSet", "(JI)J"⟩
abbrev cX3_mixSite : ByteArray := prog_1_method_49_code
def yX3_mixSite : MethodName := ⟨RX3, "mixSite", "(JI)J"⟩
abbrev cX3_mixText : ByteArray := prog_1_method_50_code
def yX3_mixText : MethodName := ⟨RX3, "mixText", "(J)J"⟩
abbrev cX3_bitsOfShare : ByteArray := prog_1_method_51_code
def yX3_bitsOfShare : MethodName := ⟨RX3, "bitsOfShare", "(D)J"⟩
abbrev cX3_at : ByteArray := prog_1_method_52_code
def yX3_at : MethodName := ⟨RX3, "at", "([II)I"⟩
abbrev cX3_put : ByteArray := prog_1_method_53_code
def yX3_put : MethodName := ⟨RX3, "put", "([III)V"⟩
abbrev cX3_add : ByteArray := prog_1_method_54_code
def yX3_add : MethodName := ⟨RX3, "add", "([III)V"⟩
abbrev cX3_copy : ByteArray := prog_1_method_55_code
def yX3_copy : MethodName := ⟨RX3, "copy", "([I[I)V"⟩
def RX4 : String := "ScaffoldYardModel"
def TX4 : u_T := fun k => match k with
  | 0 => ("ScaffoldYardModel", "z", "[I", true)
  | 1 => ("ScaffoldYardModel", "states", "I", false)
  | 2 => ("ScaffoldYardModel", "history", "[I", true)
  | 3 => ("ScaffoldYardModel", "length", "I", false)
  | 4 => ("ScaffoldYardModel", "text", "[I", true)
  | 5 => ("ScaffoldYardModel", "thrown", "I", false)
  | 6 => ("ScaffoldYardModel", "parts", "[I", true)
  | 7 => ("ScaffoldYardModel", "read", "I", false)
  | 8 => ("ScaffoldYardModel", "number", "I", false)
  | 9 => ("ScaffoldYardModel", "due", "I", false)
  | 10 => ("ScaffoldYardModel", "spare", "[I", true)
  | _ => ("ScaffoldYardModel", "hash", "J", false)
def tyX4 : Nat → FieldType := fun k => match k with
  | 0 => .array .int
  | 1 => .int
  | 2 => .array .int
  | 3 => .int
  | 4 => .array .int
  | 5 => .int
  | 6 => .array .int
  | 7 => .int
  | 8 => .int
  | 9 => .int
  | 10 => .array .int
  | _ => .long
theorem nmX4 : ∀ a, a < 12 → ∀ b, b < 12 → a ≠ b → (TX4 a).2.1 ≠ (TX4 b).2.1 := by decide +kernel
theorem tyX4_ok : ∀ k, k < 12 → parseFieldDescriptor (TX4 k).2.2.1 = some (tyX4 k) := by decide +kernel
abbrev cX4_init : ByteArray := prog_6_method_1_code
def yX4_init : MethodName := ⟨RX4, "<init>", "()V"⟩
abbrev cX4_thrown : ByteArray := prog_6_method_2_code
def yX4_thrown : MethodName := ⟨RX4, "thrown", "()I"⟩
abbrev cX4_within : ByteArray := prog_6_method_3_code
def yX4_within : MethodName := ⟨RX4, "within", "(III)Z"⟩
abbrev cX4_save : ByteArray := prog_6_method_4_code
def yX4_save : MethodName := ⟨RX4, "save", "()V"⟩
abbrev cX4_wholeOf : ByteArray := prog_6_method_5_code
def yX4_wholeOf : MethodName := ⟨RX4, "wholeOf", "(I)I"⟩
abbrev cX4_costOf : ByteArray := prog_6_method_6_code
def yX4_costOf : MethodName := ⟨RX4, "costOf", "(I)I"⟩
abbrev cX4_of : ByteArray := prog_6_method_7_code
def yX4_of : MethodName := ⟨RX4, "of", "(II)I"⟩
abbrev cX4_put : ByteArray := prog_6_method_8_code
def yX4_put : MethodName := ⟨RX4, "put", "(III)V"⟩
abbrev cX4_ofSite : ByteArray := prog_6_method_9_code
def yX4_ofSite : MethodName := ⟨RX4, "ofSite", "(II)I"⟩
abbrev cX4_bill : ByteArray := prog_6_method_10_code
def yX4_bill : MethodName := ⟨RX4, "bill", "(III)V"⟩
abbrev cX4_isSet : ByteArray := prog_6_method_11_code
def yX4_isSet : MethodName := ⟨RX4, "isSet", "(I)Z"⟩
abbrev cX4_isSite : ByteArray := prog_6_method_12_code
def yX4_isSite : MethodName := ⟨RX4, "isSite", "(I)Z"⟩
abbrev cX4_isKind : ByteArray := prog_6_method_13_code
def yX4_isKind : MethodName := ⟨RX4, "isKind", "(I)Z"⟩
abbrev cX4_isInYard : ByteArray := prog_6_method_14_code
def yX4_isInYard : MethodName := ⟨RX4, "isInYard", "(I)Z"⟩
abbrev cX4_isWhole : ByteArray := prog_6_method_15_code
def yX4_isWhole : MethodName := ⟨RX4, "isWhole", "(I)Z"⟩
abbrev cX4_partsOf : ByteArray := prog_6_method_16_code
def yX4_partsOf : MethodName := ⟨RX4, "partsOf", "(I)I"⟩
abbrev cX4_inYard : ByteArray := prog_6_method_17_code
def yX4_inYard : MethodName := ⟨RX4, "inYard", "(Z)I"⟩
abbrev cX4_areSets : ByteArray := prog_6_method_18_code
def yX4_areSets : MethodName := ⟨RX4, "areSets", "(I)Z"⟩
abbrev cX4_buySets : ByteArray := prog_6_method_19_code
def yX4_buySets : MethodName := ⟨RX4, "buySets", "(I)I"⟩
abbrev cX4_buySpare : ByteArray := prog_6_method_20_code
def yX4_buySpare : MethodName := ⟨RX4, "buySpare", "(II)I"⟩
abbrev cX4_repair : ByteArray := prog_6_method_21_code
def yX4_repair : MethodName := ⟨RX4, "repair", "(I)I"⟩
abbrev cX4_usersOf : ByteArray := prog_6_method_22_code
def yX4_usersOf : MethodName := ⟨RX4, "usersOf", "(I)I"⟩
abbrev cX4_shareOf : ByteArray := prog_6_method_23_code
def yX4_shareOf : MethodName := ⟨RX4, "shareOf", "(III)I"⟩
abbrev cX4_charge : ByteArray := prog_6_method_24_code
def yX4_charge : MethodName := ⟨RX4, "charge", "(III)V"⟩
abbrev cX4_hasSo : ByteArray := prog_6_method_25_code
def yX4_hasSo : MethodName := ⟨RX4, "hasSo", "(III)Z"⟩
abbrev cX4_damage : ByteArray := prog_6_method_26_code
def yX4_damage : MethodName := ⟨RX4, "damage", "(III)I"⟩
abbrev cX4_swap : ByteArray := prog_6_method_27_code
def yX4_swap : MethodName := ⟨RX4, "swap", "(II)I"⟩
abbrev cX4_dueIn : ByteArray := prog_6_method_28_code
def yX4_dueIn : MethodName := ⟨RX4, "dueIn", "(II)I"⟩
abbrev cX4_comes : ByteArray := prog_6_method_29_code
def yX4_comes : MethodName := ⟨RX4, "comes", "(II)V"⟩
abbrev cX4_leaves : ByteArray := prog_6_method_30_code
def yX4_leaves : MethodName := ⟨RX4, "leaves", "(I)I"⟩
abbrev cX4_canHire : ByteArray := prog_6_method_31_code
def yX4_canHire : MethodName := ⟨RX4, "canHire", "(I)Z"⟩
abbrev cX4_hires : ByteArray := prog_6_method_32_code
def yX4_hires : MethodName := ⟨RX4, "hires", "(II)I"⟩
abbrev cX4_hire : ByteArray := prog_6_method_33_code
def yX4_hire : MethodName := ⟨RX4, "hire", "(II)I"⟩
abbrev cX4_canMove : ByteArray := prog_6_method_34_code
def yX4_canMove : MethodName := ⟨RX4, "canMove", "(II)Z"⟩
abbrev cX4_moves : ByteArray := prog_6_method_35_code
def yX4_moves : MethodName := ⟨RX4, "moves", "(II)I"⟩
abbrev cX4_moveOn : ByteArray := prog_6_method_36_code
def yX4_moveOn : MethodName := ⟨RX4, "moveOn", "(II)I"⟩
abbrev cX4_bring : ByteArray := prog_6_method_37_code
def yX4_bring : MethodName := ⟨RX4, "bring", "(I)I"⟩
abbrev cX4_bringShort : ByteArray := prog_6_method_38_code
def yX4_bringShort : MethodName := ⟨RX4, "bringShort", "(III)I"⟩
abbrev cX4_billedTo : ByteArray := prog_6_method_39_code
def yX4_billedTo : MethodName := ⟨RX4, "billedTo", "(I)I"⟩
abbrev cX4_owedBy : ByteArray := prog_6_method_40_code
def yX4_owedBy : MethodName := ⟨RX4, "owedBy", "(I)I"⟩
abbrev cX4_pay : ByteArray := prog_6_method_41_code
def yX4_pay : MethodName := ⟨RX4, "pay", "(II)I"⟩
abbrev cX4_areDays : ByteArray := prog_6_method_42_code
def yX4_areDays : MethodName := ⟨RX4, "areDays", "(I)Z"⟩
abbrev cX4_canPass : ByteArray := prog_6_method_43_code
def yX4_canPass : MethodName := ⟨RX4, "canPass", "(I)Z"⟩
abbrev cX4_pass : ByteArray := prog_6_method_44_code
def yX4_pass : MethodName := ⟨RX4, "pass", "(I)I"⟩
abbrev cX4_isSetting : ByteArray := prog_6_method_45_code
def yX4_isSetting : MethodName := ⟨RX4, "isSetting", "(I)Z"⟩
abbrev cX4_set : ByteArray := prog_6_method_46_code
def yX4_set : MethodName := ⟨RX4, "set", "(II)I"⟩
abbrev cX4_append : ByteArray := prog_6_method_47_code
def yX4_append : MethodName := ⟨RX4, "append", "(I)I"⟩
abbrev cX4_clearBuffer : ByteArray := prog_6_method_48_code
def yX4_clearBuffer : MethodName := ⟨RX4, "clearBuffer", "()I"⟩
abbrev cX4_begins : ByteArray := prog_6_method_49_code
def yX4_begins : MethodName := ⟨RX4, "begins", "(I)Z"⟩
abbrev cX4_takesDigit : ByteArray := prog_6_method_50_code
def yX4_takesDigit : MethodName := ⟨RX4, "takesDigit", "(I)Z"⟩
abbrev cX4_takesSite : ByteArray := prog_6_method_51_code
def yX4_takesSite : MethodName := ⟨RX4, "takesSite", "(III)Z"⟩
abbrev cX4_isEnded : ByteArray := prog_6_method_52_code
def yX4_isEnded : MethodName := ⟨RX4, "isEnded", "()Z"⟩
abbrev cX4_takes : ByteArray := prog_6_method_53_code
def yX4_takes : MethodName := ⟨RX4, "takes", "(I)Z"⟩
abbrev cX4_rightUpTo : ByteArray := prog_6_method_54_code
def yX4_rightUpTo : MethodName := ⟨RX4, "rightUpTo", "()I"⟩
abbrev cX4_firstError : ByteArray := prog_6_method_55_code
def yX4_firstError : MethodName := ⟨RX4, "firstError", "()I"⟩
abbrev cX4_canCarry : ByteArray := prog_6_method_56_code
def yX4_canCarry : MethodName := ⟨RX4, "canCarry", "(III)Z"⟩
abbrev cX4_carries : ByteArray := prog_6_method_57_code
def yX4_carries : MethodName := ⟨RX4, "carries", "(I)Z"⟩
abbrev cX4_run : ByteArray := prog_6_method_58_code
def yX4_run : MethodName := ⟨RX4, "run", "()I"⟩
abbrev cX4_undo : ByteArray := prog_6_method_59_code
def yX4_undo : MethodName := ⟨RX4, "undo", "()I"⟩
abbrev cX4_bundleNow : ByteArray := prog_6_method_60_code
def yX4_bundleNow : MethodName := ⟨RX4, "bundleNow", "(II)I"⟩
abbrev cX4_bundle : ByteArray := prog_6_method_61_code
def yX4_bundle : MethodName := ⟨RX4, "bundle", "(II)I"⟩
abbrev cX4_sumOnSite : ByteArray := prog_6_method_62_code
def yX4_sumOnSite : MethodName := ⟨RX4, "sumOnSite", "(II)I"⟩
abbrev cX4_siteNow : ByteArray := prog_6_method_63_code
def yX4_siteNow : MethodName := ⟨RX4, "siteNow", "(II)I"⟩
abbrev cX4_site : ByteArray := prog_6_method_64_code
def yX4_site : MethodName := ⟨RX4, "site", "(II)I"⟩
abbrev cX4_inSets : ByteArray := prog_6_method_65_code
def yX4_inSets : MethodName := ⟨RX4, "inSets", "(I)I"⟩
abbrev cX4_partNow : ByteArray := prog_6_method_66_code
def yX4_partNow : MethodName := ⟨RX4, "partNow", "(II)I"⟩
abbrev cX4_parts : ByteArray := prog_6_method_67_code
def yX4_parts : MethodName := ⟨RX4, "parts", "(II)I"⟩
abbrev cX4_billedToAll : ByteArray := prog_6_method_68_code
def yX4_billedToAll : MethodName := ⟨RX4, "billedToAll", "()I"⟩
abbrev cX4_paidByAll : ByteArray := prog_6_method_69_code
def yX4_paidByAll : MethodName := ⟨RX4, "paidByAll", "()I"⟩
abbrev cX4_counted : ByteArray := prog_6_method_70_code
def yX4_counted : MethodName := ⟨RX4, "counted", "(I)I"⟩
abbrev cX4_count : ByteArray := prog_6_method_71_code
def yX4_count : MethodName := ⟨RX4, "count", "(I)I"⟩
abbrev cX4_setting : ByteArray := prog_6_method_72_code
def yX4_setting : MethodName := ⟨RX4, "setting", "(I)I"⟩
abbrev cX4_billIn : ByteArray := prog_6_method_73_code
def yX4_billIn : MethodName := ⟨RX4, "billIn", "(II)I"⟩
abbrev cX4_splitNow : ByteArray := prog_6_method_74_code
def yX4_splitNow : MethodName := ⟨RX4, "splitNow", "(III)I"⟩
abbrev cX4_splitOn : ByteArray := prog_6_method_75_code
def yX4_splitOn : MethodName := ⟨RX4, "splitOn", "(III)I"⟩
abbrev cX4_oldestOn : ByteArray := prog_6_method_76_code
def yX4_oldestOn : MethodName := ⟨RX4, "oldestOn", "(I)I"⟩
abbrev cX4_oldest : ByteArray := prog_6_method_77_code
def yX4_oldest : MethodName := ⟨RX4, "oldest", "(I)I"⟩
abbrev cX4_repairsThen : ByteArray := prog_6_method_78_code
def yX4_repairsThen : MethodName := ⟨RX4, "repairsThen", "(I)Z"⟩
abbrev cX4_repairedThen : ByteArray := prog_6_method_79_code
def yX4_repairedThen : MethodName := ⟨RX4, "repairedThen", "()I"⟩
abbrev cX4_ifRepaired : ByteArray := prog_6_method_80_code
def yX4_ifRepaired : MethodName := ⟨RX4, "ifRepaired", "()I"⟩
abbrev cX4_share : ByteArray := prog_6_method_81_code
def yX4_share : MethodName := ⟨RX4, "share", "()D"⟩
abbrev cX4_hiredShare : ByteArray := prog_6_method_82_code
def yX4_hiredShare : MethodName := ⟨RX4, "hiredShare", "()D"⟩
abbrev cX4_mix : ByteArray := prog_6_method_83_code
def yX4_mix : MethodName := ⟨RX4, "mix", "(J)V"⟩
abbrev cX4_mixSet : ByteArray := prog_6_method_84_code
def yX4_mixSet : MethodName := ⟨RX4, "mixSet", "(I)V"⟩
abbrev cX4_digest : ByteArray := prog_6_method_85_code
def yX4_digest : MethodName := ⟨RX4, "digest", "()J"⟩
def RJx145de : String := "java/io/Serializable"
def TJx145de : u_T := fun k => match k with
  | _ => ("", "", "", false)
def tyJx145de : Nat → FieldType := fun k => match k with
  | _ => .int
theorem nmJx145de : ∀ a, a < 0 → ∀ b, b < 0 → a ≠ b → (TJx145de a).2.1 ≠ (TJx145de b).2.1 := by decide +kernel
theorem tyJx145de_ok : ∀ k, k < 0 → parseFieldDescriptor (TJx145de k).2.2.1 = some (tyJx145de k) := by decide +kernel
def RJxb160c : String := "java/lang/Comparable"
def TJxb160c : u_T := fun k => match k with
  | _ => ("", "", "", false)
def tyJxb160c : Nat → FieldType := fun k => match k with
  | _ => .int
theorem nmJxb160c : ∀ a, a < 0 → ∀ b, b < 0 → a ≠ b → (TJxb160c a).2.1 ≠ (TJxb160c b).2.1 := by decide +kernel
theorem tyJxb160c_ok : ∀ k, k < 0 → parseFieldDescriptor (TJxb160c k).2.2.1 = some (tyJxb160c k) := by decide +kernel
def RJxe99ae : String := "java/lang/Double"
def TJxe99ae : u_T := fun k => match k with
  | _ => ("", "", "", false)
def tyJxe99ae : Nat → FieldType := fun k => match k with
  | _ => .int
theorem nmJxe99ae : ∀ a, a < 0 → ∀ b, b < 0 → a ≠ b → (TJxe99ae a).2.1 ≠ (TJxe99ae b).2.1 := by decide +kernel
theorem tyJxe99ae_ok : ∀ k, k < 0 → parseFieldDescriptor (TJxe99ae k).2.2.1 = some (tyJxe99ae k) := by decide +kernel
abbrev cJxe99ae_isNaN_b9ae7 : ByteArray := prog_7_method_6_code
def yJxe99ae_isNaN_b9ae7 : MethodName := ⟨RJxe99ae, "isNaN", "(D)Z"⟩
abbrev cJxe99ae_doubleToLongBits_ccdee : ByteArray := prog_7_method_23_code
def yJxe99ae_doubleToLongBits_ccdee : MethodName := ⟨RJxe99ae, "doubleToLongBits", "(D)J"⟩
def RJ9 : String := "java/lang/Math"
def TJ9 : u_T := fun k => match k with
  | _ => ("", "", "", false)
def tyJ9 : Nat → FieldType := fun k => match k with
  | _ => .int
theorem nmJ9 : ∀ a, a < 0 → ∀ b, b < 0 → a ≠ b → (TJ9 a).2.1 ≠ (TJ9 b).2.1 := by decide +kernel
theorem tyJ9_ok : ∀ k, k < 0 → parseFieldDescriptor (TJ9 k).2.2.1 = some (tyJ9 k) := by decide +kernel
abbrev cJ9_max_7cf53 : ByteArray := prog_12_method_65_code
def yJ9_max_7cf53 : MethodName := ⟨RJ9, "max", "(II)I"⟩
abbrev cJ9_min_7cf53 : ByteArray := prog_12_method_69_code
def yJ9_min_7cf53 : MethodName := ⟨RJ9, "min", "(II)I"⟩
def RJxd2413 : String := "java/lang/Number"
def TJxd2413 : u_T := fun k => match k with
  | _ => ("", "", "", false)
def tyJxd2413 : Nat → FieldType := fun k => match k with
  | _ => .int
theorem nmJxd2413 : ∀ a, a < 0 → ∀ b, b < 0 → a ≠ b → (TJxd2413 a).2.1 ≠ (TJxd2413 b).2.1 := by decide +kernel
theorem tyJxd2413_ok : ∀ k, k < 0 → parseFieldDescriptor (TJxd2413 k).2.2.1 = some (tyJxd2413 k) := by decide +kernel
def RJ0 : String := "java/lang/String"
def TJ0 : u_T := fun k => match k with
  | _ => ("", "", "", false)
def tyJ0 : Nat → FieldType := fun k => match k with
  | _ => .int
theorem nmJ0 : ∀ a, a < 0 → ∀ b, b < 0 → a ≠ b → (TJ0 a).2.1 ≠ (TJ0 b).2.1 := by decide +kernel
theorem tyJ0_ok : ∀ k, k < 0 → parseFieldDescriptor (TJ0 k).2.2.1 = some (tyJ0 k) := by decide +kernel
def RJ10 : String := "java/lang/System"
def TJ10 : u_T := fun k => match k with
  | _ => ("", "", "", false)
def tyJ10 : Nat → FieldType := fun k => match k with
  | _ => .int
theorem nmJ10 : ∀ a, a < 0 → ∀ b, b < 0 → a ≠ b → (TJ10 a).2.1 ≠ (TJ10 b).2.1 := by decide +kernel
theorem tyJ10_ok : ∀ k, k < 0 → parseFieldDescriptor (TJ10 k).2.2.1 = some (tyJ10 k) := by decide +kernel
def RJxfd54e : String := "java/lang/constant/Constable"
def TJxfd54e : u_T := fun k => match k with
  | _ => ("", "", "", false)
def tyJxfd54e : Nat → FieldType := fun k => match k with
  | _ => .int
theorem nmJxfd54e : ∀ a, a < 0 → ∀ b, b < 0 → a ≠ b → (TJxfd54e a).2.1 ≠ (TJxfd54e b).2.1 := by decide +kernel
theorem tyJxfd54e_ok : ∀ k, k < 0 → parseFieldDescriptor (TJxfd54e k).2.2.1 = some (tyJxfd54e k) := by decide +kernel
def RJx3cf43 : String := "java/lang/constant/ConstantDesc"
def TJx3cf43 : u_T := fun k => match k with
  | _ => ("", "", "", false)
def tyJx3cf43 : Nat → FieldType := fun k => match k with
  | _ => .int
theorem nmJx3cf43 : ∀ a, a < 0 → ∀ b, b < 0 → a ≠ b → (TJx3cf43 a).2.1 ≠ (TJx3cf43 b).2.1 := by decide +kernel
theorem tyJx3cf43_ok : ∀ k, k < 0 → parseFieldDescriptor (TJx3cf43 k).2.2.1 = some (tyJx3cf43 k) := by decide +kernel
def RJ7 : String := "java/util/Arrays"
def TJ7 : u_T := fun k => match k with
  | _ => ("", "", "", false)
def tyJ7 : Nat → FieldType := fun k => match k with
  | _ => .int
theorem nmJ7 : ∀ a, a < 0 → ∀ b, b < 0 → a ≠ b → (TJ7 a).2.1 ≠ (TJ7 b).2.1 := by decide +kernel
theorem tyJ7_ok : ∀ k, k < 0 → parseFieldDescriptor (TJ7 k).2.2.1 = some (tyJ7 k) := by decide +kernel
abbrev cJ7_fill_53178 : ByteArray := prog_18_method_103_code
def yJ7_fill_53178 : MethodName := ⟨RJ7, "fill", "([II)V"⟩
def RL : String := "ScaffoldYardLaw"
abbrev cL_buySets : ByteArray := method_3_code
def yL_buySets : MethodName := ⟨RL, "buySets", "(LScaffoldYard;I[J)I"⟩
abbrev cL_buySpare : ByteArray := method_4_code
def yL_buySpare : MethodName := ⟨RL, "buySpare", "(LScaffoldYard;II[J)I"⟩
abbrev cL_repair : ByteArray := method_5_code
def yL_repair : MethodName := ⟨RL, "repair", "(LScaffoldYard;I[J)I"⟩
abbrev cL_damage : ByteArray := method_6_code
def yL_damage : MethodName := ⟨RL, "damage", "(LScaffoldYard;III[J)I"⟩
abbrev cL_swap : ByteArray := method_7_code
def yL_swap : MethodName := ⟨RL, "swap", "(LScaffoldYard;II[J)I"⟩
abbrev cL_hire : ByteArray := method_8_code
def yL_hire : MethodName := ⟨RL, "hire", "(LScaffoldYard;II[J)I"⟩
abbrev cL_moveOn : ByteArray := method_9_code
def yL_moveOn : MethodName := ⟨RL, "moveOn", "(LScaffoldYard;II[J)I"⟩
abbrev cL_bring : ByteArray := method_10_code
def yL_bring : MethodName := ⟨RL, "bring", "(LScaffoldYard;I[J)I"⟩
abbrev cL_bringShort : ByteArray := method_11_code
def yL_bringShort : MethodName := ⟨RL, "bringShort", "(LScaffoldYard;III[J)I"⟩
abbrev cL_pay : ByteArray := method_12_code
def yL_pay : MethodName := ⟨RL, "pay", "(LScaffoldYard;II[J)I"⟩
abbrev cL_pass : ByteArray := method_13_code
def yL_pass : MethodName := ⟨RL, "pass", "(LScaffoldYard;I[J)I"⟩
abbrev cL_set : ByteArray := method_14_code
def yL_set : MethodName := ⟨RL, "set", "(LScaffoldYard;II[J)I"⟩
abbrev cL_append : ByteArray := method_15_code
def yL_append : MethodName := ⟨RL, "append", "(LScaffoldYard;I[J)I"⟩
abbrev cL_run : ByteArray := method_16_code
def yL_run : MethodName := ⟨RL, "run", "(LScaffoldYard;[J)I"⟩
abbrev cL_undo : ByteArray := method_17_code
def yL_undo : MethodName := ⟨RL, "undo", "(LScaffoldYard;[J)I"⟩
abbrev cL_bundle : ByteArray := method_18_code
def yL_bundle : MethodName := ⟨RL, "bundle", "(LScaffoldYard;II[J)I"⟩
abbrev cL_site : ByteArray := method_19_code
def yL_site : MethodName := ⟨RL, "site", "(LScaffoldYard;II[J)I"⟩
abbrev cL_parts : ByteArray := method_20_code
def yL_parts : MethodName := ⟨RL, "parts", "(LScaffoldYard;II[J)I"⟩
abbrev cL_count : ByteArray := method_21_code
def yL_count : MethodName := ⟨RL, "count", "(LScaffoldYard;I[J)I"⟩
abbrev cL_setting : ByteArray := method_22_code
def yL_setting : MethodName := ⟨RL, "setting", "(LScaffoldYard;I[J)I"⟩
abbrev cL_billIn : ByteArray := method_23_code
def yL_billIn : MethodName := ⟨RL, "billIn", "(LScaffoldYard;II[J)I"⟩
abbrev cL_splitOn : ByteArray := method_24_code
def yL_splitOn : MethodName := ⟨RL, "splitOn", "(LScaffoldYard;III[J)I"⟩
abbrev cL_oldest : ByteArray := method_25_code
def yL_oldest : MethodName := ⟨RL, "oldest", "(LScaffoldYard;I[J)I"⟩
abbrev cL_law : ByteArray := code
def yL_law : MethodName := ⟨RL, "law", "([I)Z"⟩
theorem inX0 : ∀ w ∈ u_ws RX0 TX0 17, w ∈ lw_tbl := by decide +kernel
theorem inX1 : ∀ w ∈ u_ws RX1 TX1 3, w ∈ lw_tbl := by decide +kernel
theorem inX2 : ∀ w ∈ u_ws RX2 TX2 6, w ∈ lw_tbl := by decide +kernel
theorem inX3 : ∀ w ∈ u_ws RX3 TX3 4, w ∈ lw_tbl := by decide +kernel
theorem inX4 : ∀ w ∈ u_ws RX4 TX4 12, w ∈ lw_tbl := by decide +kernel
end
section
theorem dX0_init_0 : decode cX0_init 0 = .ok (.aload_n 0, 1) := by decide +kernel
theorem dX0_init_1 : decode cX0_init 1 = .ok (.invokespecial 3, 3) := by decide +kernel
theorem dX0_init_4 : decode cX0_init 4 = .ok (.aload_n 0, 1) := by decide +kernel
theorem dX0_init_5 : decode cX0_init 5 = .ok (.iconst 2, 1) := by decide +kernel
theorem dX0_init_6 : decode cX0_init 6 = .ok (.newarray .int, 2) := by decide +kernel
theorem dX0_init_8 : decode cX0_init 8 = .ok (.dup, 1) := by decide +kernel
theorem dX0_init_9 : decode cX0_init 9 = .ok (.iconst 0, 1) := by decide +kernel
theorem dX0_init_10 : decode cX0_init 10 = .ok (.bipush 14, 2) := by decide +kernel
theorem dX0_init_12 : decode cX0_init 12 = .ok (.iastore, 1) := by decide +kernel
theorem dX0_init_13 : decode cX0_init 13 = .ok (.dup, 1) := by decide +kernel
theorem dX0_init_14 : decode cX0_init 14 = .ok (.iconst 1, 1) := by decide +kernel
theorem dX0_init_15 : decode cX0_init 15 = .ok (.iconst 3, 1) := by decide +kernel
theorem dX0_init_16 : decode cX0_init 16 = .ok (.iastore, 1) := by decide +kernel
theorem dX0_init_17 : decode cX0_init 17 = .ok (.putfield 9, 3) := by decide +kernel
theorem dX0_init_20 : decode cX0_init 20 = .ok (.aload_n 0, 1) := by decide +kernel
theorem dX0_init_21 : decode cX0_init 21 = .ok (.bipush 24, 2) := by decide +kernel
theorem dX0_init_23 : decode cX0_init 23 = .ok (.newarray .int, 2) := by decide +kernel
theorem dX0_init_25 : decode cX0_init 25 = .ok (.putfield 15, 3) := by decide +kernel
theorem dX0_init_28 : decode cX0_init 28 = .ok (.aload_n 0, 1) := by decide +kernel
theorem dX0_init_29 : decode cX0_init 29 = .ok (.bipush 24, 2) := by decide +kernel
theorem dX0_init_31 : decode cX0_init 31 = .ok (.newarray .int, 2) := by decide +kernel
theorem dX0_init_33 : decode cX0_init 33 = .ok (.putfield 18, 3) := by decide +kernel
theorem dX0_init_36 : decode cX0_init 36 = .ok (.aload_n 0, 1) := by decide +kernel
theorem dX0_init_37 : decode cX0_init 37 = .ok (.bipush 24, 2) := by decide +kernel
theorem dX0_init_39 : decode cX0_init 39 = .ok (.newarray .int, 2) := by decide +kernel
theorem dX0_init_41 : decode cX0_init 41 = .ok (.putfield 21, 3) := by decide +kernel
theorem dX0_init_44 : decode cX0_init 44 = .ok (.aload_n 0, 1) := by decide +kernel
theorem dX0_init_45 : decode cX0_init 45 = .ok (.bipush 72, 2) := by decide +kernel
theorem dX0_init_47 : decode cX0_init 47 = .ok (.newarray .int, 2) := by decide +kernel
theorem dX0_init_49 : decode cX0_init 49 = .ok (.putfield 24, 3) := by decide +kernel
theorem dX0_init_52 : decode cX0_init 52 = .ok (.aload_n 0, 1) := by decide +kernel
theorem dX0_init_53 : decode cX0_init 53 = .ok (.bipush 96, 2) := by decide +kernel
theorem dX0_init_55 : decode cX0_init 55 = .ok (.newarray .int, 2) := by decide +kernel
theorem dX0_init_57 : decode cX0_init 57 = .ok (.putfield 27, 3) := by decide +kernel
theorem dX0_init_60 : decode cX0_init 60 = .ok (.aload_n 0, 1) := by decide +kernel
theorem dX0_init_61 : decode cX0_init 61 = .ok (.iconst 4, 1) := by decide +kernel
theorem dX0_init_62 : decode cX0_init 62 = .ok (.newarray .int, 2) := by decide +kernel
theorem dX0_init_64 : decode cX0_init 64 = .ok (.putfield 30, 3) := by decide +kernel
theorem dX0_init_67 : decode cX0_init 67 = .ok (.aload_n 0, 1) := by decide +kernel
theorem dX0_init_68 : decode cX0_init 68 = .ok (.iconst 4, 1) := by decide +kernel
theorem dX0_init_69 : decode cX0_init 69 = .ok (.newarray .int, 2) := by decide +kernel
theorem dX0_init_71 : decode cX0_init 71 = .ok (.putfield 33, 3) := by decide +kernel
theorem dX0_init_74 : decode cX0_init 74 = .ok (.aload_n 0, 1) := by decide +kernel
theorem dX0_init_75 : decode cX0_init 75 = .ok (.bipush 6, 2) := by decide +kernel
theorem dX0_init_77 : decode cX0_init 77 = .ok (.newarray .int, 2) := by decide +kernel
theorem dX0_init_79 : decode cX0_init 79 = .ok (.putfield 36, 3) := by decide +kernel
theorem dX0_init_82 : decode cX0_init 82 = .ok (.aload_n 0, 1) := by decide +kernel
theorem dX0_init_83 : decode cX0_init 83 = .ok (.bipush 6, 2) := by decide +kernel
theorem dX0_init_85 : decode cX0_init 85 = .ok (.newarray .int, 2) := by decide +kernel
theorem dX0_init_87 : decode cX0_init 87 = .ok (.putfield 39, 3) := by decide +kernel
theorem dX0_init_90 : decode cX0_init 90 = .ok (.aload_n 0, 1) := by decide +kernel
theorem dX0_init_91 : decode cX0_init 91 = .ok (.bipush 6, 2) := by decide +kernel
theorem dX0_init_93 : decode cX0_init 93 = .ok (.newarray .int, 2) := by decide +kernel
theorem dX0_init_95 : decode cX0_init 95 = .ok (.putfield 42, 3) := by decide +kernel
theorem dX0_init_98 : decode cX0_init 98 = .ok (.aload_n 0, 1) := by decide +kernel
theorem dX0_init_99 : decode cX0_init 99 = .ok (.bipush 6, 2) := by decide +kernel
theorem dX0_init_101 : decode cX0_init 101 = .ok (.newarray .int, 2) := by decide +kernel
theorem dX0_init_103 : decode cX0_init 103 = .ok (.putfield 45, 3) := by decide +kernel
theorem dX0_init_106 : decode cX0_init 106 = .ok (.aload_n 0, 1) := by decide +kernel
theorem dX0_init_107 : decode cX0_init 107 = .ok (.getfield 15, 3) := by decide +kernel
theorem dX0_init_110 : decode cX0_init 110 = .ok (.iconst (-1), 1) := by decide +kernel
theorem dX0_init_111 : decode cX0_init 111 = .ok (.invokestatic 48, 3) := by decide +kernel
theorem dX0_init_114 : decode cX0_init 114 = .ok (.aload_n 0, 1) := by decide +kernel
theorem dX0_init_115 : decode cX0_init 115 = .ok (.getfield 24, 3) := by decide +kernel
theorem dX0_init_118 : decode cX0_init 118 = .ok (.iconst (-1), 1) := by decide +kernel
theorem dX0_init_119 : decode cX0_init 119 = .ok (.invokestatic 48, 3) := by decide +kernel
theorem dX0_init_122 : decode cX0_init 122 = .ok (.return_, 1) := by decide +kernel
theorem dX0_copyFrom_0 : decode cX0_copyFrom 0 = .ok (.aload_n 1, 1) := by decide +kernel
theorem dX0_copyFrom_1 : decode cX0_copyFrom 1 = .ok (.ifnonnull 4, 3) := by decide +kernel
theorem dX0_copyFrom_4 : decode cX0_copyFrom 4 = .ok (.return_, 1) := by decide +kernel
theorem dX0_copyFrom_5 : decode cX0_copyFrom 5 = .ok (.aload_n 0, 1) := by decide +kernel
theorem dX0_copyFrom_6 : decode cX0_copyFrom 6 = .ok (.aload_n 1, 1) := by decide +kernel
theorem dX0_copyFrom_7 : decode cX0_copyFrom 7 = .ok (.getfield 54, 3) := by decide +kernel
theorem dX0_copyFrom_10 : decode cX0_copyFrom 10 = .ok (.putfield 54, 3) := by decide +kernel
theorem dX0_copyFrom_13 : decode cX0_copyFrom 13 = .ok (.aload_n 0, 1) := by decide +kernel
theorem dX0_copyFrom_14 : decode cX0_copyFrom 14 = .ok (.aload_n 1, 1) := by decide +kernel
theorem dX0_copyFrom_15 : decode cX0_copyFrom 15 = .ok (.getfield 58, 3) := by decide +kernel
theorem dX0_copyFrom_18 : decode cX0_copyFrom 18 = .ok (.putfield 58, 3) := by decide +kernel
theorem dX0_copyFrom_21 : decode cX0_copyFrom 21 = .ok (.aload_n 0, 1) := by decide +kernel
theorem dX0_copyFrom_22 : decode cX0_copyFrom 22 = .ok (.aload_n 1, 1) := by decide +kernel
theorem dX0_copyFrom_23 : decode cX0_copyFrom 23 = .ok (.getfield 61, 3) := by decide +kernel
theorem dX0_copyFrom_26 : decode cX0_copyFrom 26 = .ok (.putfield 61, 3) := by decide +kernel
theorem dX0_copyFrom_29 : decode cX0_copyFrom 29 = .ok (.aload_n 0, 1) := by decide +kernel
theorem dX0_copyFrom_30 : decode cX0_copyFrom 30 = .ok (.aload_n 1, 1) := by decide +kernel
theorem dX0_copyFrom_31 : decode cX0_copyFrom 31 = .ok (.getfield 64, 3) := by decide +kernel
theorem dX0_copyFrom_34 : decode cX0_copyFrom 34 = .ok (.putfield 64, 3) := by decide +kernel
theorem dX0_copyFrom_37 : decode cX0_copyFrom 37 = .ok (.aload_n 0, 1) := by decide +kernel
theorem dX0_copyFrom_38 : decode cX0_copyFrom 38 = .ok (.aload_n 1, 1) := by decide +kernel
theorem dX0_copyFrom_39 : decode cX0_copyFrom 39 = .ok (.getfield 67, 3) := by decide +kernel
theorem dX0_copyFrom_42 : decode cX0_copyFrom 42 = .ok (.putfield 67, 3) := by decide +kernel
theorem dX0_copyFrom_45 : decode cX0_copyFrom 45 = .ok (.aload_n 1, 1) := by decide +kernel
theorem dX0_copyFrom_46 : decode cX0_copyFrom 46 = .ok (.getfield 9, 3) := by decide +kernel
theorem dX0_copyFrom_49 : decode cX0_copyFrom 49 = .ok (.aload_n 0, 1) := by decide +kernel
theorem dX0_copyFrom_50 : decode cX0_copyFrom 50 = .ok (.getfield 9, 3) := by decide +kernel
theorem dX0_copyFrom_53 : decode cX0_copyFrom 53 = .ok (.invokestatic 70, 3) := by decide +kernel
theorem dX0_copyFrom_56 : decode cX0_copyFrom 56 = .ok (.aload_n 1, 1) := by decide +kernel
theorem dX0_copyFrom_57 : decode cX0_copyFrom 57 = .ok (.getfield 15, 3) := by decide +kernel
theorem dX0_copyFrom_60 : decode cX0_copyFrom 60 = .ok (.aload_n 0, 1) := by decide +kernel
theorem dX0_copyFrom_61 : decode cX0_copyFrom 61 = .ok (.getfield 15, 3) := by decide +kernel
theorem dX0_copyFrom_64 : decode cX0_copyFrom 64 = .ok (.invokestatic 70, 3) := by decide +kernel
theorem dX0_copyFrom_67 : decode cX0_copyFrom 67 = .ok (.aload_n 1, 1) := by decide +kernel
theorem dX0_copyFrom_68 : decode cX0_copyFrom 68 = .ok (.getfield 18, 3) := by decide +kernel
theorem dX0_copyFrom_71 : decode cX0_copyFrom 71 = .ok (.aload_n 0, 1) := by decide +kernel
theorem dX0_copyFrom_72 : decode cX0_copyFrom 72 = .ok (.getfield 18, 3) := by decide +kernel
theorem dX0_copyFrom_75 : decode cX0_copyFrom 75 = .ok (.invokestatic 70, 3) := by decide +kernel
theorem dX0_copyFrom_78 : decode cX0_copyFrom 78 = .ok (.aload_n 1, 1) := by decide +kernel
theorem dX0_copyFrom_79 : decode cX0_copyFrom 79 = .ok (.getfield 21, 3) := by decide +kernel
theorem dX0_copyFrom_82 : decode cX0_copyFrom 82 = .ok (.aload_n 0, 1) := by decide +kernel
theorem dX0_copyFrom_83 : decode cX0_copyFrom 83 = .ok (.getfield 21, 3) := by decide +kernel
theorem dX0_copyFrom_86 : decode cX0_copyFrom 86 = .ok (.invokestatic 70, 3) := by decide +kernel
theorem dX0_copyFrom_89 : decode cX0_copyFrom 89 = .ok (.aload_n 1, 1) := by decide +kernel
theorem dX0_copyFrom_90 : decode cX0_copyFrom 90 = .ok (.getfield 24, 3) := by decide +kernel
theorem dX0_copyFrom_93 : decode cX0_copyFrom 93 = .ok (.aload_n 0, 1) := by decide +kernel
theorem dX0_copyFrom_94 : decode cX0_copyFrom 94 = .ok (.getfield 24, 3) := by decide +kernel
theorem dX0_copyFrom_97 : decode cX0_copyFrom 97 = .ok (.invokestatic 70, 3) := by decide +kernel
theorem dX0_copyFrom_100 : decode cX0_copyFrom 100 = .ok (.aload_n 1, 1) := by decide +kernel
theorem dX0_copyFrom_101 : decode cX0_copyFrom 101 = .ok (.getfield 27, 3) := by decide +kernel
theorem dX0_copyFrom_104 : decode cX0_copyFrom 104 = .ok (.aload_n 0, 1) := by decide +kernel
theorem dX0_copyFrom_105 : decode cX0_copyFrom 105 = .ok (.getfield 27, 3) := by decide +kernel
theorem dX0_copyFrom_108 : decode cX0_copyFrom 108 = .ok (.invokestatic 70, 3) := by decide +kernel
theorem dX0_copyFrom_111 : decode cX0_copyFrom 111 = .ok (.aload_n 1, 1) := by decide +kernel
theorem dX0_copyFrom_112 : decode cX0_copyFrom 112 = .ok (.getfield 30, 3) := by decide +kernel
theorem dX0_copyFrom_115 : decode cX0_copyFrom 115 = .ok (.aload_n 0, 1) := by decide +kernel
theorem dX0_copyFrom_116 : decode cX0_copyFrom 116 = .ok (.getfield 30, 3) := by decide +kernel
theorem dX0_copyFrom_119 : decode cX0_copyFrom 119 = .ok (.invokestatic 70, 3) := by decide +kernel
theorem dX0_copyFrom_122 : decode cX0_copyFrom 122 = .ok (.aload_n 1, 1) := by decide +kernel
theorem dX0_copyFrom_123 : decode cX0_copyFrom 123 = .ok (.getfield 33, 3) := by decide +kernel
theorem dX0_copyFrom_126 : decode cX0_copyFrom 126 = .ok (.aload_n 0, 1) := by decide +kernel
theorem dX0_copyFrom_127 : decode cX0_copyFrom 127 = .ok (.getfield 33, 3) := by decide +kernel
theorem dX0_copyFrom_130 : decode cX0_copyFrom 130 = .ok (.invokestatic 70, 3) := by decide +kernel
theorem dX0_copyFrom_133 : decode cX0_copyFrom 133 = .ok (.aload_n 1, 1) := by decide +kernel
theorem dX0_copyFrom_134 : decode cX0_copyFrom 134 = .ok (.getfield 36, 3) := by decide +kernel
theorem dX0_copyFrom_137 : decode cX0_copyFrom 137 = .ok (.aload_n 0, 1) := by decide +kernel
theorem dX0_copyFrom_138 : decode cX0_copyFrom 138 = .ok (.getfield 36, 3) := by decide +kernel
theorem dX0_copyFrom_141 : decode cX0_copyFrom 141 = .ok (.invokestatic 70, 3) := by decide +kernel
theorem dX0_copyFrom_144 : decode cX0_copyFrom 144 = .ok (.aload_n 1, 1) := by decide +kernel
theorem dX0_copyFrom_145 : decode cX0_copyFrom 145 = .ok (.getfield 39, 3) := by decide +kernel
theorem dX0_copyFrom_148 : decode cX0_copyFrom 148 = .ok (.aload_n 0, 1) := by decide +kernel
theorem dX0_copyFrom_149 : decode cX0_copyFrom 149 = .ok (.getfield 39, 3) := by decide +kernel
theorem dX0_copyFrom_152 : decode cX0_copyFrom 152 = .ok (.invokestatic 70, 3) := by decide +kernel
theorem dX0_copyFrom_155 : decode cX0_copyFrom 155 = .ok (.aload_n 1, 1) := by decide +kernel
theorem dX0_copyFrom_156 : decode cX0_copyFrom 156 = .ok (.getfield 42, 3) := by decide +kernel
theorem dX0_copyFrom_159 : decode cX0_copyFrom 159 = .ok (.aload_n 0, 1) := by decide +kernel
theorem dX0_copyFrom_160 : decode cX0_copyFrom 160 = .ok (.getfield 42, 3) := by decide +kernel
theorem dX0_copyFrom_163 : decode cX0_copyFrom 163 = .ok (.invokestatic 70, 3) := by decide +kernel
theorem dX0_copyFrom_166 : decode cX0_copyFrom 166 = .ok (.aload_n 1, 1) := by decide +kernel
theorem dX0_copyFrom_167 : decode cX0_copyFrom 167 = .ok (.getfield 45, 3) := by decide +kernel
theorem dX0_copyFrom_170 : decode cX0_copyFrom 170 = .ok (.aload_n 0, 1) := by decide +kernel
theorem dX0_copyFrom_171 : decode cX0_copyFrom 171 = .ok (.getfield 45, 3) := by decide +kernel
theorem dX0_copyFrom_174 : decode cX0_copyFrom 174 = .ok (.invokestatic 70, 3) := by decide +kernel
theorem dX0_copyFrom_177 : decode cX0_copyFrom 177 = .ok (.return_, 1) := by decide +kernel
theorem dX0_isSet_0 : decode cX0_isSet 0 = .ok (.iload_n 1, 1) := by decide +kernel
theorem dX0_isSet_1 : decode cX0_isSet 1 = .ok (.ifCond .lt 15, 3) := by decide +kernel
theorem dX0_isSet_4 : decode cX0_isSet 4 = .ok (.iload_n 1, 1) := by decide +kernel
theorem dX0_isSet_5 : decode cX0_isSet 5 = .ok (.aload_n 0, 1) := by decide +kernel
theorem dX0_isSet_6 : decode cX0_isSet 6 = .ok (.getfield 54, 3) := by decide +kernel
theorem dX0_isSet_9 : decode cX0_isSet 9 = .ok (.if_icmp .ge 7, 3) := by decide +kernel
theorem dX0_isSet_12 : decode cX0_isSet 12 = .ok (.iconst 1, 1) := by decide +kernel
theorem dX0_isSet_13 : decode cX0_isSet 13 = .ok (.goto 4, 3) := by decide +kernel
theorem dX0_isSet_16 : decode cX0_isSet 16 = .ok (.iconst 0, 1) := by decide +kernel
theorem dX0_isSet_17 : decode cX0_isSet 17 = .ok (.ireturn, 1) := by decide +kernel
theorem dX0_isInYard_0 : decode cX0_isInYard 0 = .ok (.aload_n 0, 1) := by decide +kernel
theorem dX0_isInYard_1 : decode cX0_isInYard 1 = .ok (.iload_n 1, 1) := by decide +kernel
theorem dX0_isInYard_2 : decode cX0_isInYard 2 = .ok (.invokevirtual 74, 3) := by decide +kernel
theorem dX0_isInYard_5 : decode cX0_isInYard 5 = .ok (.ifCond .eq 19, 3) := by decide +kernel
theorem dX0_isInYard_8 : decode cX0_isInYard 8 = .ok (.aload_n 0, 1) := by decide +kernel
theorem dX0_isInYard_9 : decode cX0_isInYard 9 = .ok (.getfield 15, 3) := by decide +kernel
theorem dX0_isInYard_12 : decode cX0_isInYard 12 = .ok (.iload_n 1, 1) := by decide +kernel
theorem dX0_isInYard_13 : decode cX0_isInYard 13 = .ok (.invokestatic 78, 3) := by decide +kernel
theorem dX0_isInYard_16 : decode cX0_isInYard 16 = .ok (.iconst (-1), 1) := by decide +kernel
theorem dX0_isInYard_17 : decode cX0_isInYard 17 = .ok (.if_icmp .ne 7, 3) := by decide +kernel
theorem dX0_isInYard_20 : decode cX0_isInYard 20 = .ok (.iconst 1, 1) := by decide +kernel
theorem dX0_isInYard_21 : decode cX0_isInYard 21 = .ok (.goto 4, 3) := by decide +kernel
theorem dX0_isInYard_24 : decode cX0_isInYard 24 = .ok (.iconst 0, 1) := by decide +kernel
theorem dX0_isInYard_25 : decode cX0_isInYard 25 = .ok (.ireturn, 1) := by decide +kernel
theorem dX0_isOnSite_0 : decode cX0_isOnSite 0 = .ok (.aload_n 0, 1) := by decide +kernel
theorem dX0_isOnSite_1 : decode cX0_isOnSite 1 = .ok (.iload_n 1, 1) := by decide +kernel
theorem dX0_isOnSite_2 : decode cX0_isOnSite 2 = .ok (.invokevirtual 74, 3) := by decide +kernel
theorem dX0_isOnSite_5 : decode cX0_isOnSite 5 = .ok (.ifCond .eq 19, 3) := by decide +kernel
theorem dX0_isOnSite_8 : decode cX0_isOnSite 8 = .ok (.aload_n 0, 1) := by decide +kernel
theorem dX0_isOnSite_9 : decode cX0_isOnSite 9 = .ok (.getfield 15, 3) := by decide +kernel
theorem dX0_isOnSite_12 : decode cX0_isOnSite 12 = .ok (.iload_n 1, 1) := by decide +kernel
theorem dX0_isOnSite_13 : decode cX0_isOnSite 13 = .ok (.invokestatic 78, 3) := by decide +kernel
theorem dX0_isOnSite_16 : decode cX0_isOnSite 16 = .ok (.iconst (-1), 1) := by decide +kernel
theorem dX0_isOnSite_17 : decode cX0_isOnSite 17 = .ok (.if_icmp .eq 7, 3) := by decide +kernel
theorem dX0_isOnSite_20 : decode cX0_isOnSite 20 = .ok (.iconst 1, 1) := by decide +kernel
theorem dX0_isOnSite_21 : decode cX0_isOnSite 21 = .ok (.goto 4, 3) := by decide +kernel
theorem dX0_isOnSite_24 : decode cX0_isOnSite 24 = .ok (.iconst 0, 1) := by decide +kernel
theorem dX0_isOnSite_25 : decode cX0_isOnSite 25 = .ok (.ireturn, 1) := by decide +kernel
theorem dX0_isOn_0 : decode cX0_isOn 0 = .ok (.aload_n 0, 1) := by decide +kernel
theorem dX0_isOn_1 : decode cX0_isOn 1 = .ok (.iload_n 1, 1) := by decide +kernel
theorem dX0_isOn_2 : decode cX0_isOn 2 = .ok (.invokevirtual 82, 3) := by decide +kernel
theorem dX0_isOn_5 : decode cX0_isOn 5 = .ok (.ifCond .eq 19, 3) := by decide +kernel
theorem dX0_isOn_8 : decode cX0_isOn 8 = .ok (.aload_n 0, 1) := by decide +kernel
theorem dX0_isOn_9 : decode cX0_isOn 9 = .ok (.getfield 15, 3) := by decide +kernel
theorem dX0_isOn_12 : decode cX0_isOn 12 = .ok (.iload_n 1, 1) := by decide +kernel
theorem dX0_isOn_13 : decode cX0_isOn 13 = .ok (.invokestatic 78, 3) := by decide +kernel
theorem dX0_isOn_16 : decode cX0_isOn 16 = .ok (.iload_n 2, 1) := by decide +kernel
theorem dX0_isOn_17 : decode cX0_isOn 17 = .ok (.if_icmp .ne 7, 3) := by decide +kernel
theorem dX0_isOn_20 : decode cX0_isOn 20 = .ok (.iconst 1, 1) := by decide +kernel
theorem dX0_isOn_21 : decode cX0_isOn 21 = .ok (.goto 4, 3) := by decide +kernel
theorem dX0_isOn_24 : decode cX0_isOn 24 = .ok (.iconst 0, 1) := by decide +kernel
theorem dX0_isOn_25 : decode cX0_isOn 25 = .ok (.ireturn, 1) := by decide +kernel
theorem dX0_stockOf_0 : decode cX0_stockOf 0 = .ok (.aload_n 0, 1) := by decide +kernel
theorem dX0_stockOf_1 : decode cX0_stockOf 1 = .ok (.getfield 27, 3) := by decide +kernel
theorem dX0_stockOf_4 : decode cX0_stockOf 4 = .ok (.iload_n 1, 1) := by decide +kernel
theorem dX0_stockOf_5 : decode cX0_stockOf 5 = .ok (.iconst 4, 1) := by decide +kernel
theorem dX0_stockOf_6 : decode cX0_stockOf 6 = .ok (.imul, 1) := by decide +kernel
theorem dX0_stockOf_7 : decode cX0_stockOf 7 = .ok (.iload_n 2, 1) := by decide +kernel
theorem dX0_stockOf_8 : decode cX0_stockOf 8 = .ok (.iadd, 1) := by decide +kernel
theorem dX0_stockOf_9 : decode cX0_stockOf 9 = .ok (.invokestatic 78, 3) := by decide +kernel
theorem dX0_stockOf_12 : decode cX0_stockOf 12 = .ok (.ireturn, 1) := by decide +kernel
theorem dX0_lackOf_0 : decode cX0_lackOf 0 = .ok (.getstatic 85, 3) := by decide +kernel
theorem dX0_lackOf_3 : decode cX0_lackOf 3 = .ok (.iload_n 2, 1) := by decide +kernel
theorem dX0_lackOf_4 : decode cX0_lackOf 4 = .ok (.invokestatic 78, 3) := by decide +kernel
theorem dX0_lackOf_7 : decode cX0_lackOf 7 = .ok (.aload_n 0, 1) := by decide +kernel
theorem dX0_lackOf_8 : decode cX0_lackOf 8 = .ok (.getfield 27, 3) := by decide +kernel
theorem dX0_lackOf_11 : decode cX0_lackOf 11 = .ok (.iload_n 1, 1) := by decide +kernel
theorem dX0_lackOf_12 : decode cX0_lackOf 12 = .ok (.iconst 4, 1) := by decide +kernel
theorem dX0_lackOf_13 : decode cX0_lackOf 13 = .ok (.imul, 1) := by decide +kernel
theorem dX0_lackOf_14 : decode cX0_lackOf 14 = .ok (.iload_n 2, 1) := by decide +kernel
theorem dX0_lackOf_15 : decode cX0_lackOf 15 = .ok (.iadd, 1) := by decide +kernel
theorem dX0_lackOf_16 : decode cX0_lackOf 16 = .ok (.invokestatic 78, 3) := by decide +kernel
theorem dX0_lackOf_19 : decode cX0_lackOf 19 = .ok (.isub, 1) := by decide +kernel
theorem dX0_lackOf_20 : decode cX0_lackOf 20 = .ok (.ireturn, 1) := by decide +kernel
theorem dX0_partsIn_0 : decode cX0_partsIn 0 = .ok (.iconst 0, 1) := by decide +kernel
theorem dX0_partsIn_1 : decode cX0_partsIn 1 = .ok (.istore_n 2, 1) := by decide +kernel
theorem dX0_partsIn_2 : decode cX0_partsIn 2 = .ok (.iconst 0, 1) := by decide +kernel
theorem dX0_partsIn_3 : decode cX0_partsIn 3 = .ok (.istore_n 3, 1) := by decide +kernel
theorem dX0_partsIn_4 : decode cX0_partsIn 4 = .ok (.iload_n 3, 1) := by decide +kernel
theorem dX0_partsIn_5 : decode cX0_partsIn 5 = .ok (.iconst 4, 1) := by decide +kernel
theorem dX0_partsIn_6 : decode cX0_partsIn 6 = .ok (.if_icmp .ge 18, 3) := by decide +kernel
theorem dX0_partsIn_9 : decode cX0_partsIn 9 = .ok (.iload_n 2, 1) := by decide +kernel
theorem dX0_partsIn_10 : decode cX0_partsIn 10 = .ok (.aload_n 0, 1) := by decide +kernel
theorem dX0_partsIn_11 : decode cX0_partsIn 11 = .ok (.iload_n 1, 1) := by decide +kernel
theorem dX0_partsIn_12 : decode cX0_partsIn 12 = .ok (.iload_n 3, 1) := by decide +kernel
theorem dX0_partsIn_13 : decode cX0_partsIn 13 = .ok (.invokevirtual 88, 3) := by decide +kernel
theorem dX0_partsIn_16 : decode cX0_partsIn 16 = .ok (.iadd, 1) := by decide +kernel
theorem dX0_partsIn_17 : decode cX0_partsIn 17 = .ok (.istore_n 2, 1) := by decide +kernel
theorem dX0_partsIn_18 : decode cX0_partsIn 18 = .ok (.iinc 3 1, 3) := by decide +kernel
theorem dX0_partsIn_21 : decode cX0_partsIn 21 = .ok (.goto (-17), 3) := by decide +kernel
theorem dX0_partsIn_24 : decode cX0_partsIn 24 = .ok (.iload_n 2, 1) := by decide +kernel
theorem dX0_partsIn_25 : decode cX0_partsIn 25 = .ok (.ireturn, 1) := by decide +kernel
theorem dX0_isWhole_0 : decode cX0_isWhole 0 = .ok (.iconst 0, 1) := by decide +kernel
theorem dX0_isWhole_1 : decode cX0_isWhole 1 = .ok (.istore_n 2, 1) := by decide +kernel
theorem dX0_isWhole_2 : decode cX0_isWhole 2 = .ok (.iload_n 2, 1) := by decide +kernel
theorem dX0_isWhole_3 : decode cX0_isWhole 3 = .ok (.iconst 4, 1) := by decide +kernel
theorem dX0_isWhole_4 : decode cX0_isWhole 4 = .ok (.if_icmp .ge 33, 3) := by decide +kernel
theorem dX0_isWhole_7 : decode cX0_isWhole 7 = .ok (.aload_n 0, 1) := by decide +kernel
theorem dX0_isWhole_8 : decode cX0_isWhole 8 = .ok (.getfield 27, 3) := by decide +kernel
theorem dX0_isWhole_11 : decode cX0_isWhole 11 = .ok (.iload_n 1, 1) := by decide +kernel
theorem dX0_isWhole_12 : decode cX0_isWhole 12 = .ok (.iconst 4, 1) := by decide +kernel
theorem dX0_isWhole_13 : decode cX0_isWhole 13 = .ok (.imul, 1) := by decide +kernel
theorem dX0_isWhole_14 : decode cX0_isWhole 14 = .ok (.iload_n 2, 1) := by decide +kernel
theorem dX0_isWhole_15 : decode cX0_isWhole 15 = .ok (.iadd, 1) := by decide +kernel
theorem dX0_isWhole_16 : decode cX0_isWhole 16 = .ok (.invokestatic 78, 3) := by decide +kernel
theorem dX0_isWhole_19 : decode cX0_isWhole 19 = .ok (.getstatic 85, 3) := by decide +kernel
theorem dX0_isWhole_22 : decode cX0_isWhole 22 = .ok (.iload_n 2, 1) := by decide +kernel
theorem dX0_isWhole_23 : decode cX0_isWhole 23 = .ok (.invokestatic 78, 3) := by decide +kernel
theorem dX0_isWhole_26 : decode cX0_isWhole 26 = .ok (.if_icmp .ge 5, 3) := by decide +kernel
theorem dX0_isWhole_29 : decode cX0_isWhole 29 = .ok (.iconst 0, 1) := by decide +kernel
theorem dX0_isWhole_30 : decode cX0_isWhole 30 = .ok (.ireturn, 1) := by decide +kernel
theorem dX0_isWhole_31 : decode cX0_isWhole 31 = .ok (.iinc 2 1, 3) := by decide +kernel
theorem dX0_isWhole_34 : decode cX0_isWhole 34 = .ok (.goto (-32), 3) := by decide +kernel
theorem dX0_isWhole_37 : decode cX0_isWhole 37 = .ok (.iconst 1, 1) := by decide +kernel
theorem dX0_isWhole_38 : decode cX0_isWhole 38 = .ok (.ireturn, 1) := by decide +kernel
theorem dX0_inYard_0 : decode cX0_inYard 0 = .ok (.iconst 0, 1) := by decide +kernel
theorem dX0_inYard_1 : decode cX0_inYard 1 = .ok (.istore_n 1, 1) := by decide +kernel
theorem dX0_inYard_2 : decode cX0_inYard 2 = .ok (.iconst 0, 1) := by decide +kernel
theorem dX0_inYard_3 : decode cX0_inYard 3 = .ok (.istore_n 2, 1) := by decide +kernel
theorem dX0_inYard_4 : decode cX0_inYard 4 = .ok (.iload_n 2, 1) := by decide +kernel
theorem dX0_inYard_5 : decode cX0_inYard 5 = .ok (.aload_n 0, 1) := by decide +kernel
theorem dX0_inYard_6 : decode cX0_inYard 6 = .ok (.getfield 54, 3) := by decide +kernel
theorem dX0_inYard_9 : decode cX0_inYard 9 = .ok (.if_icmp .ge 20, 3) := by decide +kernel
theorem dX0_inYard_12 : decode cX0_inYard 12 = .ok (.aload_n 0, 1) := by decide +kernel
theorem dX0_inYard_13 : decode cX0_inYard 13 = .ok (.iload_n 2, 1) := by decide +kernel
theorem dX0_inYard_14 : decode cX0_inYard 14 = .ok (.invokevirtual 92, 3) := by decide +kernel
theorem dX0_inYard_17 : decode cX0_inYard 17 = .ok (.ifCond .eq 6, 3) := by decide +kernel
theorem dX0_inYard_20 : decode cX0_inYard 20 = .ok (.iinc 1 1, 3) := by decide +kernel
theorem dX0_inYard_23 : decode cX0_inYard 23 = .ok (.iinc 2 1, 3) := by decide +kernel
theorem dX0_inYard_26 : decode cX0_inYard 26 = .ok (.goto (-22), 3) := by decide +kernel
theorem dX0_inYard_29 : decode cX0_inYard 29 = .ok (.iload_n 1, 1) := by decide +kernel
theorem dX0_inYard_30 : decode cX0_inYard 30 = .ok (.ireturn, 1) := by decide +kernel
theorem dX0_wholeInYard_0 : decode cX0_wholeInYard 0 = .ok (.iconst 0, 1) := by decide +kernel
theorem dX0_wholeInYard_1 : decode cX0_wholeInYard 1 = .ok (.istore_n 1, 1) := by decide +kernel
theorem dX0_wholeInYard_2 : decode cX0_wholeInYard 2 = .ok (.iconst 0, 1) := by decide +kernel
theorem dX0_wholeInYard_3 : decode cX0_wholeInYard 3 = .ok (.istore_n 2, 1) := by decide +kernel
theorem dX0_wholeInYard_4 : decode cX0_wholeInYard 4 = .ok (.iload_n 2, 1) := by decide +kernel
theorem dX0_wholeInYard_5 : decode cX0_wholeInYard 5 = .ok (.aload_n 0, 1) := by decide +kernel
theorem dX0_wholeInYard_6 : decode cX0_wholeInYard 6 = .ok (.getfield 54, 3) := by decide +kernel
theorem dX0_wholeInYard_9 : decode cX0_wholeInYard 9 = .ok (.if_icmp .ge 28, 3) := by decide +kernel
theorem dX0_wholeInYard_12 : decode cX0_wholeInYard 12 = .ok (.aload_n 0, 1) := by decide +kernel
theorem dX0_wholeInYard_13 : decode cX0_wholeInYard 13 = .ok (.iload_n 2, 1) := by decide +kernel
theorem dX0_wholeInYard_14 : decode cX0_wholeInYard 14 = .ok (.invokevirtual 92, 3) := by decide +kernel
theorem dX0_wholeInYard_17 : decode cX0_wholeInYard 17 = .ok (.ifCond .eq 14, 3) := by decide +kernel
theorem dX0_wholeInYard_20 : decode cX0_wholeInYard 20 = .ok (.aload_n 0, 1) := by decide +kernel
theorem dX0_wholeInYard_21 : decode cX0_wholeInYard 21 = .ok (.iload_n 2, 1) := by decide +kernel
theorem dX0_wholeInYard_22 : decode cX0_wholeInYard 22 = .ok (.invokevirtual 95, 3) := by decide +kernel
theorem dX0_wholeInYard_25 : decode cX0_wholeInYard 25 = .ok (.ifCond .eq 6, 3) := by decide +kernel
theorem dX0_wholeInYard_28 : decode cX0_wholeInYard 28 = .ok (.iinc 1 1, 3) := by decide +kernel
theorem dX0_wholeInYard_31 : decode cX0_wholeInYard 31 = .ok (.iinc 2 1, 3) := by decide +kernel
theorem dX0_wholeInYard_34 : decode cX0_wholeInYard 34 = .ok (.goto (-30), 3) := by decide +kernel
theorem dX0_wholeInYard_37 : decode cX0_wholeInYard 37 = .ok (.iload_n 1, 1) := by decide +kernel
theorem dX0_wholeInYard_38 : decode cX0_wholeInYard 38 = .ok (.ireturn, 1) := by decide +kernel
theorem dX0_addSets_0 : decode cX0_addSets 0 = .ok (.iconst 0, 1) := by decide +kernel
theorem dX0_addSets_1 : decode cX0_addSets 1 = .ok (.istore_n 2, 1) := by decide +kernel
theorem dX0_addSets_2 : decode cX0_addSets 2 = .ok (.iload_n 2, 1) := by decide +kernel
theorem dX0_addSets_3 : decode cX0_addSets 3 = .ok (.iload_n 1, 1) := by decide +kernel
theorem dX0_addSets_4 : decode cX0_addSets 4 = .ok (.if_icmp .ge 87, 3) := by decide +kernel
theorem dX0_addSets_7 : decode cX0_addSets 7 = .ok (.aload_n 0, 1) := by decide +kernel
theorem dX0_addSets_8 : decode cX0_addSets 8 = .ok (.getfield 54, 3) := by decide +kernel
theorem dX0_addSets_11 : decode cX0_addSets 11 = .ok (.bipush 24, 2) := by decide +kernel
theorem dX0_addSets_13 : decode cX0_addSets 13 = .ok (.if_icmp .ge 78, 3) := by decide +kernel
theorem dX0_addSets_16 : decode cX0_addSets 16 = .ok (.iconst 0, 1) := by decide +kernel
theorem dX0_addSets_17 : decode cX0_addSets 17 = .ok (.istore_n 3, 1) := by decide +kernel
theorem dX0_addSets_18 : decode cX0_addSets 18 = .ok (.iload_n 3, 1) := by decide +kernel
theorem dX0_addSets_19 : decode cX0_addSets 19 = .ok (.iconst 4, 1) := by decide +kernel
theorem dX0_addSets_20 : decode cX0_addSets 20 = .ok (.if_icmp .ge 55, 3) := by decide +kernel
theorem dX0_addSets_23 : decode cX0_addSets 23 = .ok (.aload_n 0, 1) := by decide +kernel
theorem dX0_addSets_24 : decode cX0_addSets 24 = .ok (.getfield 27, 3) := by decide +kernel
theorem dX0_addSets_27 : decode cX0_addSets 27 = .ok (.aload_n 0, 1) := by decide +kernel
theorem dX0_addSets_28 : decode cX0_addSets 28 = .ok (.getfield 54, 3) := by decide +kernel
theorem dX0_addSets_31 : decode cX0_addSets 31 = .ok (.iconst 4, 1) := by decide +kernel
theorem dX0_addSets_32 : decode cX0_addSets 32 = .ok (.imul, 1) := by decide +kernel
theorem dX0_addSets_33 : decode cX0_addSets 33 = .ok (.iload_n 3, 1) := by decide +kernel
theorem dX0_addSets_34 : decode cX0_addSets 34 = .ok (.iadd, 1) := by decide +kernel
theorem dX0_addSets_35 : decode cX0_addSets 35 = .ok (.getstatic 85, 3) := by decide +kernel
theorem dX0_addSets_38 : decode cX0_addSets 38 = .ok (.iload_n 3, 1) := by decide +kernel
theorem dX0_addSets_39 : decode cX0_addSets 39 = .ok (.invokestatic 78, 3) := by decide +kernel
theorem dX0_addSets_42 : decode cX0_addSets 42 = .ok (.invokestatic 98, 3) := by decide +kernel
theorem dX0_addSets_45 : decode cX0_addSets 45 = .ok (.aload_n 0, 1) := by decide +kernel
theorem dX0_addSets_46 : decode cX0_addSets 46 = .ok (.dup, 1) := by decide +kernel
theorem dX0_addSets_47 : decode cX0_addSets 47 = .ok (.getfield 67, 3) := by decide +kernel
theorem dX0_addSets_50 : decode cX0_addSets 50 = .ok (.getstatic 85, 3) := by decide +kernel
theorem dX0_addSets_53 : decode cX0_addSets 53 = .ok (.iload_n 3, 1) := by decide +kernel
theorem dX0_addSets_54 : decode cX0_addSets 54 = .ok (.invokestatic 78, 3) := by decide +kernel
theorem dX0_addSets_57 : decode cX0_addSets 57 = .ok (.getstatic 102, 3) := by decide +kernel
theorem dX0_addSets_60 : decode cX0_addSets 60 = .ok (.iload_n 3, 1) := by decide +kernel
theorem dX0_addSets_61 : decode cX0_addSets 61 = .ok (.invokestatic 78, 3) := by decide +kernel
theorem dX0_addSets_64 : decode cX0_addSets 64 = .ok (.imul, 1) := by decide +kernel
theorem dX0_addSets_65 : decode cX0_addSets 65 = .ok (.iadd, 1) := by decide +kernel
theorem dX0_addSets_66 : decode cX0_addSets 66 = .ok (.putfield 67, 3) := by decide +kernel
theorem dX0_addSets_69 : decode cX0_addSets 69 = .ok (.iinc 3 1, 3) := by decide +kernel
theorem dX0_addSets_72 : decode cX0_addSets 72 = .ok (.goto (-54), 3) := by decide +kernel
theorem dX0_addSets_75 : decode cX0_addSets 75 = .ok (.aload_n 0, 1) := by decide +kernel
theorem dX0_addSets_76 : decode cX0_addSets 76 = .ok (.dup, 1) := by decide +kernel
theorem dX0_addSets_77 : decode cX0_addSets 77 = .ok (.getfield 54, 3) := by decide +kernel
theorem dX0_addSets_80 : decode cX0_addSets 80 = .ok (.iconst 1, 1) := by decide +kernel
theorem dX0_addSets_81 : decode cX0_addSets 81 = .ok (.iadd, 1) := by decide +kernel
theorem dX0_addSets_82 : decode cX0_addSets 82 = .ok (.putfield 54, 3) := by decide +kernel
theorem dX0_addSets_85 : decode cX0_addSets 85 = .ok (.iinc 2 1, 3) := by decide +kernel
theorem dX0_addSets_88 : decode cX0_addSets 88 = .ok (.goto (-86), 3) := by decide +kernel
theorem dX0_addSets_91 : decode cX0_addSets 91 = .ok (.return_, 1) := by decide +kernel
theorem dX0_addSpare_0 : decode cX0_addSpare 0 = .ok (.aload_n 0, 1) := by decide +kernel
theorem dX0_addSpare_1 : decode cX0_addSpare 1 = .ok (.getfield 30, 3) := by decide +kernel
theorem dX0_addSpare_4 : decode cX0_addSpare 4 = .ok (.iload_n 1, 1) := by decide +kernel
theorem dX0_addSpare_5 : decode cX0_addSpare 5 = .ok (.iload_n 2, 1) := by decide +kernel
theorem dX0_addSpare_6 : decode cX0_addSpare 6 = .ok (.invokestatic 105, 3) := by decide +kernel
theorem dX0_addSpare_9 : decode cX0_addSpare 9 = .ok (.aload_n 0, 1) := by decide +kernel
theorem dX0_addSpare_10 : decode cX0_addSpare 10 = .ok (.dup, 1) := by decide +kernel
theorem dX0_addSpare_11 : decode cX0_addSpare 11 = .ok (.getfield 67, 3) := by decide +kernel
theorem dX0_addSpare_14 : decode cX0_addSpare 14 = .ok (.iload_n 2, 1) := by decide +kernel
theorem dX0_addSpare_15 : decode cX0_addSpare 15 = .ok (.getstatic 102, 3) := by decide +kernel
theorem dX0_addSpare_18 : decode cX0_addSpare 18 = .ok (.iload_n 1, 1) := by decide +kernel
theorem dX0_addSpare_19 : decode cX0_addSpare 19 = .ok (.invokestatic 78, 3) := by decide +kernel
theorem dX0_addSpare_22 : decode cX0_addSpare 22 = .ok (.imul, 1) := by decide +kernel
theorem dX0_addSpare_23 : decode cX0_addSpare 23 = .ok (.iadd, 1) := by decide +kernel
theorem dX0_addSpare_24 : decode cX0_addSpare 24 = .ok (.putfield 67, 3) := by decide +kernel
theorem dX0_addSpare_27 : decode cX0_addSpare 27 = .ok (.return_, 1) := by decide +kernel
theorem dX0_fillUp_0 : decode cX0_fillUp 0 = .ok (.iconst 0, 1) := by decide +kernel
theorem dX0_fillUp_1 : decode cX0_fillUp 1 = .ok (.istore_n 2, 1) := by decide +kernel
theorem dX0_fillUp_2 : decode cX0_fillUp 2 = .ok (.iconst 0, 1) := by decide +kernel
theorem dX0_fillUp_3 : decode cX0_fillUp 3 = .ok (.istore_n 3, 1) := by decide +kernel
theorem dX0_fillUp_4 : decode cX0_fillUp 4 = .ok (.iload_n 3, 1) := by decide +kernel
theorem dX0_fillUp_5 : decode cX0_fillUp 5 = .ok (.iconst 4, 1) := by decide +kernel
theorem dX0_fillUp_6 : decode cX0_fillUp 6 = .ok (.if_icmp .ge 58, 3) := by decide +kernel
theorem dX0_fillUp_9 : decode cX0_fillUp 9 = .ok (.aload_n 0, 1) := by decide +kernel
theorem dX0_fillUp_10 : decode cX0_fillUp 10 = .ok (.iload_n 1, 1) := by decide +kernel
theorem dX0_fillUp_11 : decode cX0_fillUp 11 = .ok (.iload_n 3, 1) := by decide +kernel
theorem dX0_fillUp_12 : decode cX0_fillUp 12 = .ok (.invokevirtual 108, 3) := by decide +kernel
theorem dX0_fillUp_15 : decode cX0_fillUp 15 = .ok (.aload_n 0, 1) := by decide +kernel
theorem dX0_fillUp_16 : decode cX0_fillUp 16 = .ok (.getfield 30, 3) := by decide +kernel
theorem dX0_fillUp_19 : decode cX0_fillUp 19 = .ok (.iload_n 3, 1) := by decide +kernel
theorem dX0_fillUp_20 : decode cX0_fillUp 20 = .ok (.invokestatic 78, 3) := by decide +kernel
theorem dX0_fillUp_23 : decode cX0_fillUp 23 = .ok (.invokestatic 111, 3) := by decide +kernel
theorem dX0_fillUp_26 : decode cX0_fillUp 26 = .ok (.istore 4, 2) := by decide +kernel
theorem dX0_fillUp_28 : decode cX0_fillUp 28 = .ok (.aload_n 0, 1) := by decide +kernel
theorem dX0_fillUp_29 : decode cX0_fillUp 29 = .ok (.getfield 30, 3) := by decide +kernel
theorem dX0_fillUp_32 : decode cX0_fillUp 32 = .ok (.iload_n 3, 1) := by decide +kernel
theorem dX0_fillUp_33 : decode cX0_fillUp 33 = .ok (.iload 4, 2) := by decide +kernel
theorem dX0_fillUp_35 : decode cX0_fillUp 35 = .ok (.ineg, 1) := by decide +kernel
theorem dX0_fillUp_36 : decode cX0_fillUp 36 = .ok (.invokestatic 105, 3) := by decide +kernel
theorem dX0_fillUp_39 : decode cX0_fillUp 39 = .ok (.aload_n 0, 1) := by decide +kernel
theorem dX0_fillUp_40 : decode cX0_fillUp 40 = .ok (.getfield 27, 3) := by decide +kernel
theorem dX0_fillUp_43 : decode cX0_fillUp 43 = .ok (.iload_n 1, 1) := by decide +kernel
theorem dX0_fillUp_44 : decode cX0_fillUp 44 = .ok (.iconst 4, 1) := by decide +kernel
theorem dX0_fillUp_45 : decode cX0_fillUp 45 = .ok (.imul, 1) := by decide +kernel
theorem dX0_fillUp_46 : decode cX0_fillUp 46 = .ok (.iload_n 3, 1) := by decide +kernel
theorem dX0_fillUp_47 : decode cX0_fillUp 47 = .ok (.iadd, 1) := by decide +kernel
theorem dX0_fillUp_48 : decode cX0_fillUp 48 = .ok (.iload 4, 2) := by decide +kernel
theorem dX0_fillUp_50 : decode cX0_fillUp 50 = .ok (.invokestatic 105, 3) := by decide +kernel
theorem dX0_fillUp_53 : decode cX0_fillUp 53 = .ok (.iload_n 2, 1) := by decide +kernel
theorem dX0_fillUp_54 : decode cX0_fillUp 54 = .ok (.iload 4, 2) := by decide +kernel
theorem dX0_fillUp_56 : decode cX0_fillUp 56 = .ok (.iadd, 1) := by decide +kernel
theorem dX0_fillUp_57 : decode cX0_fillUp 57 = .ok (.istore_n 2, 1) := by decide +kernel
theorem dX0_fillUp_58 : decode cX0_fillUp 58 = .ok (.iinc 3 1, 3) := by decide +kernel
theorem dX0_fillUp_61 : decode cX0_fillUp 61 = .ok (.goto (-57), 3) := by decide +kernel
theorem dX0_fillUp_64 : decode cX0_fillUp 64 = .ok (.iload_n 2, 1) := by decide +kernel
theorem dX0_fillUp_65 : decode cX0_fillUp 65 = .ok (.ireturn, 1) := by decide +kernel
theorem dX0_charge_0 : decode cX0_charge 0 = .ok (.aload_n 0, 1) := by decide +kernel
theorem dX0_charge_1 : decode cX0_charge 1 = .ok (.getfield 27, 3) := by decide +kernel
theorem dX0_charge_4 : decode cX0_charge 4 = .ok (.iload_n 1, 1) := by decide +kernel
theorem dX0_charge_5 : decode cX0_charge 5 = .ok (.iconst 4, 1) := by decide +kernel
theorem dX0_charge_6 : decode cX0_charge 6 = .ok (.imul, 1) := by decide +kernel
theorem dX0_charge_7 : decode cX0_charge 7 = .ok (.iload_n 2, 1) := by decide +kernel
theorem dX0_charge_8 : decode cX0_charge 8 = .ok (.iadd, 1) := by decide +kernel
theorem dX0_charge_9 : decode cX0_charge 9 = .ok (.iload_n 3, 1) := by decide +kernel
theorem dX0_charge_10 : decode cX0_charge 10 = .ok (.ineg, 1) := by decide +kernel
theorem dX0_charge_11 : decode cX0_charge 11 = .ok (.invokestatic 105, 3) := by decide +kernel
theorem dX0_charge_14 : decode cX0_charge 14 = .ok (.aload_n 0, 1) := by decide +kernel
theorem dX0_charge_15 : decode cX0_charge 15 = .ok (.getfield 33, 3) := by decide +kernel
theorem dX0_charge_18 : decode cX0_charge 18 = .ok (.iload_n 2, 1) := by decide +kernel
theorem dX0_charge_19 : decode cX0_charge 19 = .ok (.iload_n 3, 1) := by decide +kernel
theorem dX0_charge_20 : decode cX0_charge 20 = .ok (.invokestatic 105, 3) := by decide +kernel
theorem dX0_charge_23 : decode cX0_charge 23 = .ok (.iload_n 3, 1) := by decide +kernel
theorem dX0_charge_24 : decode cX0_charge 24 = .ok (.getstatic 102, 3) := by decide +kernel
theorem dX0_charge_27 : decode cX0_charge 27 = .ok (.iload_n 2, 1) := by decide +kernel
theorem dX0_charge_28 : decode cX0_charge 28 = .ok (.invokestatic 78, 3) := by decide +kernel
theorem dX0_charge_31 : decode cX0_charge 31 = .ok (.imul, 1) := by decide +kernel
theorem dX0_charge_32 : decode cX0_charge 32 = .ok (.ireturn, 1) := by decide +kernel
theorem dX0_chargeDamage_0 : decode cX0_chargeDamage 0 = .ok (.aload_n 0, 1) := by decide +kernel
theorem dX0_chargeDamage_1 : decode cX0_chargeDamage 1 = .ok (.iload_n 1, 1) := by decide +kernel
theorem dX0_chargeDamage_2 : decode cX0_chargeDamage 2 = .ok (.iload_n 2, 1) := by decide +kernel
theorem dX0_chargeDamage_3 : decode cX0_chargeDamage 3 = .ok (.iload_n 3, 1) := by decide +kernel
theorem dX0_chargeDamage_4 : decode cX0_chargeDamage 4 = .ok (.invokevirtual 116, 3) := by decide +kernel
theorem dX0_chargeDamage_7 : decode cX0_chargeDamage 7 = .ok (.istore 4, 2) := by decide +kernel
theorem dX0_chargeDamage_9 : decode cX0_chargeDamage 9 = .ok (.aload_n 0, 1) := by decide +kernel
theorem dX0_chargeDamage_10 : decode cX0_chargeDamage 10 = .ok (.iload_n 1, 1) := by decide +kernel
theorem dX0_chargeDamage_11 : decode cX0_chargeDamage 11 = .ok (.invokevirtual 120, 3) := by decide +kernel
theorem dX0_chargeDamage_14 : decode cX0_chargeDamage 14 = .ok (.ifCond .ne 14, 3) := by decide +kernel
theorem dX0_chargeDamage_17 : decode cX0_chargeDamage 17 = .ok (.aload_n 0, 1) := by decide +kernel
theorem dX0_chargeDamage_18 : decode cX0_chargeDamage 18 = .ok (.dup, 1) := by decide +kernel
theorem dX0_chargeDamage_19 : decode cX0_chargeDamage 19 = .ok (.getfield 64, 3) := by decide +kernel
theorem dX0_chargeDamage_22 : decode cX0_chargeDamage 22 = .ok (.iload 4, 2) := by decide +kernel
theorem dX0_chargeDamage_24 : decode cX0_chargeDamage 24 = .ok (.iadd, 1) := by decide +kernel
theorem dX0_chargeDamage_25 : decode cX0_chargeDamage 25 = .ok (.putfield 64, 3) := by decide +kernel
theorem dX0_chargeDamage_28 : decode cX0_chargeDamage 28 = .ok (.iconst 0, 1) := by decide +kernel
theorem dX0_chargeDamage_29 : decode cX0_chargeDamage 29 = .ok (.istore 5, 2) := by decide +kernel
theorem dX0_chargeDamage_31 : decode cX0_chargeDamage 31 = .ok (.iload 5, 2) := by decide +kernel
theorem dX0_chargeDamage_33 : decode cX0_chargeDamage 33 = .ok (.bipush 6, 2) := by decide +kernel
theorem dX0_chargeDamage_35 : decode cX0_chargeDamage 35 = .ok (.if_icmp .ge 27, 3) := by decide +kernel
theorem dX0_chargeDamage_38 : decode cX0_chargeDamage 38 = .ok (.aload_n 0, 1) := by decide +kernel
theorem dX0_chargeDamage_39 : decode cX0_chargeDamage 39 = .ok (.getfield 42, 3) := by decide +kernel
theorem dX0_chargeDamage_42 : decode cX0_chargeDamage 42 = .ok (.iload 5, 2) := by decide +kernel
theorem dX0_chargeDamage_44 : decode cX0_chargeDamage 44 = .ok (.aload_n 0, 1) := by decide +kernel
theorem dX0_chargeDamage_45 : decode cX0_chargeDamage 45 = .ok (.iload_n 1, 1) := by decide +kernel
theorem dX0_chargeDamage_46 : decode cX0_chargeDamage 46 = .ok (.iload 4, 2) := by decide +kernel
theorem dX0_chargeDamage_48 : decode cX0_chargeDamage 48 = .ok (.iload 5, 2) := by decide +kernel
theorem dX0_chargeDamage_50 : decode cX0_chargeDamage 50 = .ok (.invokevirtual 124, 3) := by decide +kernel
theorem dX0_chargeDamage_53 : decode cX0_chargeDamage 53 = .ok (.invokestatic 105, 3) := by decide +kernel
theorem dX0_chargeDamage_56 : decode cX0_chargeDamage 56 = .ok (.iinc 5 1, 3) := by decide +kernel
theorem dX0_chargeDamage_59 : decode cX0_chargeDamage 59 = .ok (.goto (-28), 3) := by decide +kernel
theorem dX0_chargeDamage_62 : decode cX0_chargeDamage 62 = .ok (.iload 4, 2) := by decide +kernel
theorem dX0_chargeDamage_64 : decode cX0_chargeDamage 64 = .ok (.ireturn, 1) := by decide +kernel
theorem dX0_exchangeParts_0 : decode cX0_exchangeParts 0 = .ok (.iconst 0, 1) := by decide +kernel
theorem dX0_exchangeParts_1 : decode cX0_exchangeParts 1 = .ok (.istore_n 3, 1) := by decide +kernel
theorem dX0_exchangeParts_2 : decode cX0_exchangeParts 2 = .ok (.iload_n 3, 1) := by decide +kernel
theorem dX0_exchangeParts_3 : decode cX0_exchangeParts 3 = .ok (.iconst 4, 1) := by decide +kernel
theorem dX0_exchangeParts_4 : decode cX0_exchangeParts 4 = .ok (.if_icmp .ge 49, 3) := by decide +kernel
theorem dX0_exchangeParts_7 : decode cX0_exchangeParts 7 = .ok (.aload_n 0, 1) := by decide +kernel
theorem dX0_exchangeParts_8 : decode cX0_exchangeParts 8 = .ok (.iload_n 1, 1) := by decide +kernel
theorem dX0_exchangeParts_9 : decode cX0_exchangeParts 9 = .ok (.iload_n 3, 1) := by decide +kernel
theorem dX0_exchangeParts_10 : decode cX0_exchangeParts 10 = .ok (.invokevirtual 88, 3) := by decide +kernel
theorem dX0_exchangeParts_13 : decode cX0_exchangeParts 13 = .ok (.istore 4, 2) := by decide +kernel
theorem dX0_exchangeParts_15 : decode cX0_exchangeParts 15 = .ok (.aload_n 0, 1) := by decide +kernel
theorem dX0_exchangeParts_16 : decode cX0_exchangeParts 16 = .ok (.getfield 27, 3) := by decide +kernel
theorem dX0_exchangeParts_19 : decode cX0_exchangeParts 19 = .ok (.iload_n 1, 1) := by decide +kernel
theorem dX0_exchangeParts_20 : decode cX0_exchangeParts 20 = .ok (.iconst 4, 1) := by decide +kernel
theorem dX0_exchangeParts_21 : decode cX0_exchangeParts 21 = .ok (.imul, 1) := by decide +kernel
theorem dX0_exchangeParts_22 : decode cX0_exchangeParts 22 = .ok (.iload_n 3, 1) := by decide +kernel
theorem dX0_exchangeParts_23 : decode cX0_exchangeParts 23 = .ok (.iadd, 1) := by decide +kernel
theorem dX0_exchangeParts_24 : decode cX0_exchangeParts 24 = .ok (.aload_n 0, 1) := by decide +kernel
theorem dX0_exchangeParts_25 : decode cX0_exchangeParts 25 = .ok (.iload_n 2, 1) := by decide +kernel
theorem dX0_exchangeParts_26 : decode cX0_exchangeParts 26 = .ok (.iload_n 3, 1) := by decide +kernel
theorem dX0_exchangeParts_27 : decode cX0_exchangeParts 27 = .ok (.invokevirtual 88, 3) := by decide +kernel
theorem dX0_exchangeParts_30 : decode cX0_exchangeParts 30 = .ok (.invokestatic 98, 3) := by decide +kernel
theorem dX0_exchangeParts_33 : decode cX0_exchangeParts 33 = .ok (.aload_n 0, 1) := by decide +kernel
theorem dX0_exchangeParts_34 : decode cX0_exchangeParts 34 = .ok (.getfield 27, 3) := by decide +kernel
theorem dX0_exchangeParts_37 : decode cX0_exchangeParts 37 = .ok (.iload_n 2, 1) := by decide +kernel
theorem dX0_exchangeParts_38 : decode cX0_exchangeParts 38 = .ok (.iconst 4, 1) := by decide +kernel
theorem dX0_exchangeParts_39 : decode cX0_exchangeParts 39 = .ok (.imul, 1) := by decide +kernel
theorem dX0_exchangeParts_40 : decode cX0_exchangeParts 40 = .ok (.iload_n 3, 1) := by decide +kernel
theorem dX0_exchangeParts_41 : decode cX0_exchangeParts 41 = .ok (.iadd, 1) := by decide +kernel
theorem dX0_exchangeParts_42 : decode cX0_exchangeParts 42 = .ok (.iload 4, 2) := by decide +kernel
theorem dX0_exchangeParts_44 : decode cX0_exchangeParts 44 = .ok (.invokestatic 98, 3) := by decide +kernel
theorem dX0_exchangeParts_47 : decode cX0_exchangeParts 47 = .ok (.iinc 3 1, 3) := by decide +kernel
theorem dX0_exchangeParts_50 : decode cX0_exchangeParts 50 = .ok (.goto (-48), 3) := by decide +kernel
theorem dX0_exchangeParts_53 : decode cX0_exchangeParts 53 = .ok (.return_, 1) := by decide +kernel
theorem dX0_userOf_0 : decode cX0_userOf 0 = .ok (.aload_n 0, 1) := by decide +kernel
theorem dX0_userOf_1 : decode cX0_userOf 1 = .ok (.getfield 24, 3) := by decide +kernel
theorem dX0_userOf_4 : decode cX0_userOf 4 = .ok (.iload_n 1, 1) := by decide +kernel
theorem dX0_userOf_5 : decode cX0_userOf 5 = .ok (.iconst 3, 1) := by decide +kernel
theorem dX0_userOf_6 : decode cX0_userOf 6 = .ok (.imul, 1) := by decide +kernel
theorem dX0_userOf_7 : decode cX0_userOf 7 = .ok (.iload_n 2, 1) := by decide +kernel
theorem dX0_userOf_8 : decode cX0_userOf 8 = .ok (.iadd, 1) := by decide +kernel
theorem dX0_userOf_9 : decode cX0_userOf 9 = .ok (.invokestatic 78, 3) := by decide +kernel
theorem dX0_userOf_12 : decode cX0_userOf 12 = .ok (.ireturn, 1) := by decide +kernel
theorem dX0_usersOf_0 : decode cX0_usersOf 0 = .ok (.iconst 0, 1) := by decide +kernel
theorem dX0_usersOf_1 : decode cX0_usersOf 1 = .ok (.istore_n 2, 1) := by decide +kernel
theorem dX0_usersOf_2 : decode cX0_usersOf 2 = .ok (.iconst 0, 1) := by decide +kernel
theorem dX0_usersOf_3 : decode cX0_usersOf 3 = .ok (.istore_n 3, 1) := by decide +kernel
theorem dX0_usersOf_4 : decode cX0_usersOf 4 = .ok (.iload_n 3, 1) := by decide +kernel
theorem dX0_usersOf_5 : decode cX0_usersOf 5 = .ok (.iconst 3, 1) := by decide +kernel
theorem dX0_usersOf_6 : decode cX0_usersOf 6 = .ok (.if_icmp .ge 22, 3) := by decide +kernel
theorem dX0_usersOf_9 : decode cX0_usersOf 9 = .ok (.aload_n 0, 1) := by decide +kernel
theorem dX0_usersOf_10 : decode cX0_usersOf 10 = .ok (.iload_n 1, 1) := by decide +kernel
theorem dX0_usersOf_11 : decode cX0_usersOf 11 = .ok (.iload_n 3, 1) := by decide +kernel
theorem dX0_usersOf_12 : decode cX0_usersOf 12 = .ok (.invokevirtual 127, 3) := by decide +kernel
theorem dX0_usersOf_15 : decode cX0_usersOf 15 = .ok (.iconst (-1), 1) := by decide +kernel
theorem dX0_usersOf_16 : decode cX0_usersOf 16 = .ok (.if_icmp .eq 6, 3) := by decide +kernel
theorem dX0_usersOf_19 : decode cX0_usersOf 19 = .ok (.iinc 2 1, 3) := by decide +kernel
theorem dX0_usersOf_22 : decode cX0_usersOf 22 = .ok (.iinc 3 1, 3) := by decide +kernel
theorem dX0_usersOf_25 : decode cX0_usersOf 25 = .ok (.goto (-21), 3) := by decide +kernel
theorem dX0_usersOf_28 : decode cX0_usersOf 28 = .ok (.iload_n 2, 1) := by decide +kernel
theorem dX0_usersOf_29 : decode cX0_usersOf 29 = .ok (.ireturn, 1) := by decide +kernel
theorem dX0_addUser_0 : decode cX0_addUser 0 = .ok (.iconst 2, 1) := by decide +kernel
theorem dX0_addUser_1 : decode cX0_addUser 1 = .ok (.istore_n 3, 1) := by decide +kernel
theorem dX0_addUser_2 : decode cX0_addUser 2 = .ok (.iload_n 3, 1) := by decide +kernel
theorem dX0_addUser_3 : decode cX0_addUser 3 = .ok (.ifCond .le 35, 3) := by decide +kernel
theorem dX0_addUser_6 : decode cX0_addUser 6 = .ok (.aload_n 0, 1) := by decide +kernel
theorem dX0_addUser_7 : decode cX0_addUser 7 = .ok (.getfield 24, 3) := by decide +kernel
theorem dX0_addUser_10 : decode cX0_addUser 10 = .ok (.iload_n 1, 1) := by decide +kernel
theorem dX0_addUser_11 : decode cX0_addUser 11 = .ok (.iconst 3, 1) := by decide +kernel
theorem dX0_addUser_12 : decode cX0_addUser 12 = .ok (.imul, 1) := by decide +kernel
theorem dX0_addUser_13 : decode cX0_addUser 13 = .ok (.iload_n 3, 1) := by decide +kernel
theorem dX0_addUser_14 : decode cX0_addUser 14 = .ok (.iadd, 1) := by decide +kernel
theorem dX0_addUser_15 : decode cX0_addUser 15 = .ok (.aload_n 0, 1) := by decide +kernel
theorem dX0_addUser_16 : decode cX0_addUser 16 = .ok (.getfield 24, 3) := by decide +kernel
theorem dX0_addUser_19 : decode cX0_addUser 19 = .ok (.iload_n 1, 1) := by decide +kernel
theorem dX0_addUser_20 : decode cX0_addUser 20 = .ok (.iconst 3, 1) := by decide +kernel
theorem dX0_addUser_21 : decode cX0_addUser 21 = .ok (.imul, 1) := by decide +kernel
theorem dX0_addUser_22 : decode cX0_addUser 22 = .ok (.iload_n 3, 1) := by decide +kernel
theorem dX0_addUser_23 : decode cX0_addUser 23 = .ok (.iadd, 1) := by decide +kernel
theorem dX0_addUser_24 : decode cX0_addUser 24 = .ok (.iconst 1, 1) := by decide +kernel
theorem dX0_addUser_25 : decode cX0_addUser 25 = .ok (.isub, 1) := by decide +kernel
theorem dX0_addUser_26 : decode cX0_addUser 26 = .ok (.invokestatic 78, 3) := by decide +kernel
theorem dX0_addUser_29 : decode cX0_addUser 29 = .ok (.invokestatic 98, 3) := by decide +kernel
theorem dX0_addUser_32 : decode cX0_addUser 32 = .ok (.iinc 3 (-1), 3) := by decide +kernel
theorem dX0_addUser_35 : decode cX0_addUser 35 = .ok (.goto (-33), 3) := by decide +kernel
theorem dX0_addUser_38 : decode cX0_addUser 38 = .ok (.aload_n 0, 1) := by decide +kernel
theorem dX0_addUser_39 : decode cX0_addUser 39 = .ok (.getfield 24, 3) := by decide +kernel
theorem dX0_addUser_42 : decode cX0_addUser 42 = .ok (.iload_n 1, 1) := by decide +kernel
theorem dX0_addUser_43 : decode cX0_addUser 43 = .ok (.iconst 3, 1) := by decide +kernel
theorem dX0_addUser_44 : decode cX0_addUser 44 = .ok (.imul, 1) := by decide +kernel
theorem dX0_addUser_45 : decode cX0_addUser 45 = .ok (.iload_n 2, 1) := by decide +kernel
theorem dX0_addUser_46 : decode cX0_addUser 46 = .ok (.invokestatic 98, 3) := by decide +kernel
theorem dX0_addUser_49 : decode cX0_addUser 49 = .ok (.return_, 1) := by decide +kernel
theorem dX0_shareOf_0 : decode cX0_shareOf 0 = .ok (.aload_n 0, 1) := by decide +kernel
theorem dX0_shareOf_1 : decode cX0_shareOf 1 = .ok (.iload_n 1, 1) := by decide +kernel
theorem dX0_shareOf_2 : decode cX0_shareOf 2 = .ok (.invokevirtual 120, 3) := by decide +kernel
theorem dX0_shareOf_5 : decode cX0_shareOf 5 = .ok (.istore 4, 2) := by decide +kernel
theorem dX0_shareOf_7 : decode cX0_shareOf 7 = .ok (.iload 4, 2) := by decide +kernel
theorem dX0_shareOf_9 : decode cX0_shareOf 9 = .ok (.iconst 1, 1) := by decide +kernel
theorem dX0_shareOf_10 : decode cX0_shareOf 10 = .ok (.if_icmp .ge 5, 3) := by decide +kernel
theorem dX0_shareOf_13 : decode cX0_shareOf 13 = .ok (.iconst 0, 1) := by decide +kernel
theorem dX0_shareOf_14 : decode cX0_shareOf 14 = .ok (.ireturn, 1) := by decide +kernel
theorem dX0_shareOf_15 : decode cX0_shareOf 15 = .ok (.iload_n 2, 1) := by decide +kernel
theorem dX0_shareOf_16 : decode cX0_shareOf 16 = .ok (.iload 4, 2) := by decide +kernel
theorem dX0_shareOf_18 : decode cX0_shareOf 18 = .ok (.idiv, 1) := by decide +kernel
theorem dX0_shareOf_19 : decode cX0_shareOf 19 = .ok (.istore 5, 2) := by decide +kernel
theorem dX0_shareOf_21 : decode cX0_shareOf 21 = .ok (.iconst 0, 1) := by decide +kernel
theorem dX0_shareOf_22 : decode cX0_shareOf 22 = .ok (.istore 6, 2) := by decide +kernel
theorem dX0_shareOf_24 : decode cX0_shareOf 24 = .ok (.iconst 0, 1) := by decide +kernel
theorem dX0_shareOf_25 : decode cX0_shareOf 25 = .ok (.istore 7, 2) := by decide +kernel
theorem dX0_shareOf_27 : decode cX0_shareOf 27 = .ok (.iload 7, 2) := by decide +kernel
theorem dX0_shareOf_29 : decode cX0_shareOf 29 = .ok (.iconst 3, 1) := by decide +kernel
theorem dX0_shareOf_30 : decode cX0_shareOf 30 = .ok (.if_icmp .ge 27, 3) := by decide +kernel
theorem dX0_shareOf_33 : decode cX0_shareOf 33 = .ok (.aload_n 0, 1) := by decide +kernel
theorem dX0_shareOf_34 : decode cX0_shareOf 34 = .ok (.iload_n 1, 1) := by decide +kernel
theorem dX0_shareOf_35 : decode cX0_shareOf 35 = .ok (.iload 7, 2) := by decide +kernel
theorem dX0_shareOf_37 : decode cX0_shareOf 37 = .ok (.invokevirtual 127, 3) := by decide +kernel
theorem dX0_shareOf_40 : decode cX0_shareOf 40 = .ok (.iload_n 3, 1) := by decide +kernel
theorem dX0_shareOf_41 : decode cX0_shareOf 41 = .ok (.if_icmp .ne 10, 3) := by decide +kernel
theorem dX0_shareOf_44 : decode cX0_shareOf 44 = .ok (.iload 6, 2) := by decide +kernel
theorem dX0_shareOf_46 : decode cX0_shareOf 46 = .ok (.iload 5, 2) := by decide +kernel
theorem dX0_shareOf_48 : decode cX0_shareOf 48 = .ok (.iadd, 1) := by decide +kernel
theorem dX0_shareOf_49 : decode cX0_shareOf 49 = .ok (.istore 6, 2) := by decide +kernel
theorem dX0_shareOf_51 : decode cX0_shareOf 51 = .ok (.iinc 7 1, 3) := by decide +kernel
theorem dX0_shareOf_54 : decode cX0_shareOf 54 = .ok (.goto (-27), 3) := by decide +kernel
theorem dX0_shareOf_57 : decode cX0_shareOf 57 = .ok (.aload_n 0, 1) := by decide +kernel
theorem dX0_shareOf_58 : decode cX0_shareOf 58 = .ok (.iload_n 1, 1) := by decide +kernel
theorem dX0_shareOf_59 : decode cX0_shareOf 59 = .ok (.iconst 0, 1) := by decide +kernel
theorem dX0_shareOf_60 : decode cX0_shareOf 60 = .ok (.invokevirtual 127, 3) := by decide +kernel
theorem dX0_shareOf_63 : decode cX0_shareOf 63 = .ok (.iload_n 3, 1) := by decide +kernel
theorem dX0_shareOf_64 : decode cX0_shareOf 64 = .ok (.if_icmp .ne 15, 3) := by decide +kernel
theorem dX0_shareOf_67 : decode cX0_shareOf 67 = .ok (.iload 6, 2) := by decide +kernel
theorem dX0_shareOf_69 : decode cX0_shareOf 69 = .ok (.iload_n 2, 1) := by decide +kernel
theorem dX0_shareOf_70 : decode cX0_shareOf 70 = .ok (.iload 5, 2) := by decide +kernel
theorem dX0_shareOf_72 : decode cX0_shareOf 72 = .ok (.iload 4, 2) := by decide +kernel
theorem dX0_shareOf_74 : decode cX0_shareOf 74 = .ok (.imul, 1) := by decide +kernel
theorem dX0_shareOf_75 : decode cX0_shareOf 75 = .ok (.isub, 1) := by decide +kernel
theorem dX0_shareOf_76 : decode cX0_shareOf 76 = .ok (.iadd, 1) := by decide +kernel
theorem dX0_shareOf_77 : decode cX0_shareOf 77 = .ok (.istore 6, 2) := by decide +kernel
theorem dX0_shareOf_79 : decode cX0_shareOf 79 = .ok (.iload 6, 2) := by decide +kernel
theorem dX0_shareOf_81 : decode cX0_shareOf 81 = .ok (.ireturn, 1) := by decide +kernel
theorem dX0_canMove_0 : decode cX0_canMove 0 = .ok (.aload_n 0, 1) := by decide +kernel
theorem dX0_canMove_1 : decode cX0_canMove 1 = .ok (.iload_n 1, 1) := by decide +kernel
theorem dX0_canMove_2 : decode cX0_canMove 2 = .ok (.invokevirtual 82, 3) := by decide +kernel
theorem dX0_canMove_5 : decode cX0_canMove 5 = .ok (.ifCond .eq 16, 3) := by decide +kernel
theorem dX0_canMove_8 : decode cX0_canMove 8 = .ok (.aload_n 0, 1) := by decide +kernel
theorem dX0_canMove_9 : decode cX0_canMove 9 = .ok (.iload_n 1, 1) := by decide +kernel
theorem dX0_canMove_10 : decode cX0_canMove 10 = .ok (.iload_n 2, 1) := by decide +kernel
theorem dX0_canMove_11 : decode cX0_canMove 11 = .ok (.invokevirtual 130, 3) := by decide +kernel
theorem dX0_canMove_14 : decode cX0_canMove 14 = .ok (.ifCond .ne 7, 3) := by decide +kernel
theorem dX0_canMove_17 : decode cX0_canMove 17 = .ok (.iconst 1, 1) := by decide +kernel
theorem dX0_canMove_18 : decode cX0_canMove 18 = .ok (.goto 4, 3) := by decide +kernel
theorem dX0_canMove_21 : decode cX0_canMove 21 = .ok (.iconst 0, 1) := by decide +kernel
theorem dX0_canMove_22 : decode cX0_canMove 22 = .ok (.ireturn, 1) := by decide +kernel
theorem dX0_canPass_0 : decode cX0_canPass 0 = .ok (.aload_n 0, 1) := by decide +kernel
theorem dX0_canPass_1 : decode cX0_canPass 1 = .ok (.getfield 58, 3) := by decide +kernel
theorem dX0_canPass_4 : decode cX0_canPass 4 = .ok (.iload_n 1, 1) := by decide +kernel
theorem dX0_canPass_5 : decode cX0_canPass 5 = .ok (.iadd, 1) := by decide +kernel
theorem dX0_canPass_6 : decode cX0_canPass 6 = .ok (.sipush 9999, 3) := by decide +kernel
theorem dX0_canPass_9 : decode cX0_canPass 9 = .ok (.if_icmp .gt 7, 3) := by decide +kernel
theorem dX0_canPass_12 : decode cX0_canPass 12 = .ok (.iconst 1, 1) := by decide +kernel
theorem dX0_canPass_13 : decode cX0_canPass 13 = .ok (.goto 4, 3) := by decide +kernel
theorem dX0_canPass_16 : decode cX0_canPass 16 = .ok (.iconst 0, 1) := by decide +kernel
theorem dX0_canPass_17 : decode cX0_canPass 17 = .ok (.ireturn, 1) := by decide +kernel
theorem dX0_hireOut_0 : decode cX0_hireOut 0 = .ok (.iload_n 2, 1) := by decide +kernel
theorem dX0_hireOut_1 : decode cX0_hireOut 1 = .ok (.istore_n 3, 1) := by decide +kernel
theorem dX0_hireOut_2 : decode cX0_hireOut 2 = .ok (.iconst 0, 1) := by decide +kernel
theorem dX0_hireOut_3 : decode cX0_hireOut 3 = .ok (.istore 4, 2) := by decide +kernel
theorem dX0_hireOut_5 : decode cX0_hireOut 5 = .ok (.iload 4, 2) := by decide +kernel
theorem dX0_hireOut_7 : decode cX0_hireOut 7 = .ok (.aload_n 0, 1) := by decide +kernel
theorem dX0_hireOut_8 : decode cX0_hireOut 8 = .ok (.getfield 54, 3) := by decide +kernel
theorem dX0_hireOut_11 : decode cX0_hireOut 11 = .ok (.if_icmp .ge 41, 3) := by decide +kernel
theorem dX0_hireOut_14 : decode cX0_hireOut 14 = .ok (.iload_n 3, 1) := by decide +kernel
theorem dX0_hireOut_15 : decode cX0_hireOut 15 = .ok (.ifCond .le 37, 3) := by decide +kernel
theorem dX0_hireOut_18 : decode cX0_hireOut 18 = .ok (.aload_n 0, 1) := by decide +kernel
theorem dX0_hireOut_19 : decode cX0_hireOut 19 = .ok (.iload 4, 2) := by decide +kernel
theorem dX0_hireOut_21 : decode cX0_hireOut 21 = .ok (.invokevirtual 92, 3) := by decide +kernel
theorem dX0_hireOut_24 : decode cX0_hireOut 24 = .ok (.ifCond .eq 22, 3) := by decide +kernel
theorem dX0_hireOut_27 : decode cX0_hireOut 27 = .ok (.aload_n 0, 1) := by decide +kernel
theorem dX0_hireOut_28 : decode cX0_hireOut 28 = .ok (.iload 4, 2) := by decide +kernel
theorem dX0_hireOut_30 : decode cX0_hireOut 30 = .ok (.invokevirtual 95, 3) := by decide +kernel
theorem dX0_hireOut_33 : decode cX0_hireOut 33 = .ok (.ifCond .eq 13, 3) := by decide +kernel
theorem dX0_hireOut_36 : decode cX0_hireOut 36 = .ok (.aload_n 0, 1) := by decide +kernel
theorem dX0_hireOut_37 : decode cX0_hireOut 37 = .ok (.iload 4, 2) := by decide +kernel
theorem dX0_hireOut_39 : decode cX0_hireOut 39 = .ok (.iload_n 1, 1) := by decide +kernel
theorem dX0_hireOut_40 : decode cX0_hireOut 40 = .ok (.invokevirtual 134, 3) := by decide +kernel
theorem dX0_hireOut_43 : decode cX0_hireOut 43 = .ok (.iinc 3 (-1), 3) := by decide +kernel
theorem dX0_hireOut_46 : decode cX0_hireOut 46 = .ok (.iinc 4 1, 3) := by decide +kernel
theorem dX0_hireOut_49 : decode cX0_hireOut 49 = .ok (.goto (-44), 3) := by decide +kernel
theorem dX0_hireOut_52 : decode cX0_hireOut 52 = .ok (.return_, 1) := by decide +kernel
theorem dX0_comeTo_0 : decode cX0_comeTo 0 = .ok (.aload_n 0, 1) := by decide +kernel
theorem dX0_comeTo_1 : decode cX0_comeTo 1 = .ok (.getfield 15, 3) := by decide +kernel
theorem dX0_comeTo_4 : decode cX0_comeTo 4 = .ok (.iload_n 1, 1) := by decide +kernel
theorem dX0_comeTo_5 : decode cX0_comeTo 5 = .ok (.iload_n 2, 1) := by decide +kernel
theorem dX0_comeTo_6 : decode cX0_comeTo 6 = .ok (.invokestatic 98, 3) := by decide +kernel
theorem dX0_comeTo_9 : decode cX0_comeTo 9 = .ok (.aload_n 0, 1) := by decide +kernel
theorem dX0_comeTo_10 : decode cX0_comeTo 10 = .ok (.getfield 18, 3) := by decide +kernel
theorem dX0_comeTo_13 : decode cX0_comeTo 13 = .ok (.iload_n 1, 1) := by decide +kernel
theorem dX0_comeTo_14 : decode cX0_comeTo 14 = .ok (.aload_n 0, 1) := by decide +kernel
theorem dX0_comeTo_15 : decode cX0_comeTo 15 = .ok (.getfield 58, 3) := by decide +kernel
theorem dX0_comeTo_18 : decode cX0_comeTo 18 = .ok (.invokestatic 98, 3) := by decide +kernel
theorem dX0_comeTo_21 : decode cX0_comeTo 21 = .ok (.aload_n 0, 1) := by decide +kernel
theorem dX0_comeTo_22 : decode cX0_comeTo 22 = .ok (.getfield 21, 3) := by decide +kernel
theorem dX0_comeTo_25 : decode cX0_comeTo 25 = .ok (.iload_n 1, 1) := by decide +kernel
theorem dX0_comeTo_26 : decode cX0_comeTo 26 = .ok (.iconst 1, 1) := by decide +kernel
theorem dX0_comeTo_27 : decode cX0_comeTo 27 = .ok (.invokestatic 105, 3) := by decide +kernel
theorem dX0_comeTo_30 : decode cX0_comeTo 30 = .ok (.aload_n 0, 1) := by decide +kernel
theorem dX0_comeTo_31 : decode cX0_comeTo 31 = .ok (.iload_n 1, 1) := by decide +kernel
theorem dX0_comeTo_32 : decode cX0_comeTo 32 = .ok (.iload_n 2, 1) := by decide +kernel
theorem dX0_comeTo_33 : decode cX0_comeTo 33 = .ok (.invokevirtual 138, 3) := by decide +kernel
theorem dX0_comeTo_36 : decode cX0_comeTo 36 = .ok (.aload_n 0, 1) := by decide +kernel
theorem dX0_comeTo_37 : decode cX0_comeTo 37 = .ok (.dup, 1) := by decide +kernel
theorem dX0_comeTo_38 : decode cX0_comeTo 38 = .ok (.getfield 61, 3) := by decide +kernel
theorem dX0_comeTo_41 : decode cX0_comeTo 41 = .ok (.iconst 1, 1) := by decide +kernel
theorem dX0_comeTo_42 : decode cX0_comeTo 42 = .ok (.iadd, 1) := by decide +kernel
theorem dX0_comeTo_43 : decode cX0_comeTo 43 = .ok (.putfield 61, 3) := by decide +kernel
theorem dX0_comeTo_46 : decode cX0_comeTo 46 = .ok (.return_, 1) := by decide +kernel
theorem dX0_hireBill_0 : decode cX0_hireBill 0 = .ok (.aload_n 0, 1) := by decide +kernel
theorem dX0_hireBill_1 : decode cX0_hireBill 1 = .ok (.getfield 15, 3) := by decide +kernel
theorem dX0_hireBill_4 : decode cX0_hireBill 4 = .ok (.iload_n 1, 1) := by decide +kernel
theorem dX0_hireBill_5 : decode cX0_hireBill 5 = .ok (.invokestatic 78, 3) := by decide +kernel
theorem dX0_hireBill_8 : decode cX0_hireBill 8 = .ok (.iconst (-1), 1) := by decide +kernel
theorem dX0_hireBill_9 : decode cX0_hireBill 9 = .ok (.if_icmp .ne 5, 3) := by decide +kernel
theorem dX0_hireBill_12 : decode cX0_hireBill 12 = .ok (.iconst 0, 1) := by decide +kernel
theorem dX0_hireBill_13 : decode cX0_hireBill 13 = .ok (.ireturn, 1) := by decide +kernel
theorem dX0_hireBill_14 : decode cX0_hireBill 14 = .ok (.aload_n 0, 1) := by decide +kernel
theorem dX0_hireBill_15 : decode cX0_hireBill 15 = .ok (.getfield 58, 3) := by decide +kernel
theorem dX0_hireBill_18 : decode cX0_hireBill 18 = .ok (.iload_n 2, 1) := by decide +kernel
theorem dX0_hireBill_19 : decode cX0_hireBill 19 = .ok (.iadd, 1) := by decide +kernel
theorem dX0_hireBill_20 : decode cX0_hireBill 20 = .ok (.aload_n 0, 1) := by decide +kernel
theorem dX0_hireBill_21 : decode cX0_hireBill 21 = .ok (.getfield 18, 3) := by decide +kernel
theorem dX0_hireBill_24 : decode cX0_hireBill 24 = .ok (.iload_n 1, 1) := by decide +kernel
theorem dX0_hireBill_25 : decode cX0_hireBill 25 = .ok (.invokestatic 78, 3) := by decide +kernel
theorem dX0_hireBill_28 : decode cX0_hireBill 28 = .ok (.isub, 1) := by decide +kernel
theorem dX0_hireBill_29 : decode cX0_hireBill 29 = .ok (.istore_n 3, 1) := by decide +kernel
theorem dX0_hireBill_30 : decode cX0_hireBill 30 = .ok (.iload_n 3, 1) := by decide +kernel
theorem dX0_hireBill_31 : decode cX0_hireBill 31 = .ok (.aload_n 0, 1) := by decide +kernel
theorem dX0_hireBill_32 : decode cX0_hireBill 32 = .ok (.getfield 9, 3) := by decide +kernel
theorem dX0_hireBill_35 : decode cX0_hireBill 35 = .ok (.iconst 0, 1) := by decide +kernel
theorem dX0_hireBill_36 : decode cX0_hireBill 36 = .ok (.invokestatic 78, 3) := by decide +kernel
theorem dX0_hireBill_39 : decode cX0_hireBill 39 = .ok (.invokestatic 141, 3) := by decide +kernel
theorem dX0_hireBill_42 : decode cX0_hireBill 42 = .ok (.aload_n 0, 1) := by decide +kernel
theorem dX0_hireBill_43 : decode cX0_hireBill 43 = .ok (.getfield 9, 3) := by decide +kernel
theorem dX0_hireBill_46 : decode cX0_hireBill 46 = .ok (.iconst 1, 1) := by decide +kernel
theorem dX0_hireBill_47 : decode cX0_hireBill 47 = .ok (.invokestatic 78, 3) := by decide +kernel
theorem dX0_hireBill_50 : decode cX0_hireBill 50 = .ok (.imul, 1) := by decide +kernel
theorem dX0_hireBill_51 : decode cX0_hireBill 51 = .ok (.ireturn, 1) := by decide +kernel
theorem dX0_billForHire_0 : decode cX0_billForHire 0 = .ok (.aload_n 0, 1) := by decide +kernel
theorem dX0_billForHire_1 : decode cX0_billForHire 1 = .ok (.iload_n 1, 1) := by decide +kernel
theorem dX0_billForHire_2 : decode cX0_billForHire 2 = .ok (.iconst 0, 1) := by decide +kernel
theorem dX0_billForHire_3 : decode cX0_billForHire 3 = .ok (.invokevirtual 144, 3) := by decide +kernel
theorem dX0_billForHire_6 : decode cX0_billForHire 6 = .ok (.istore_n 2, 1) := by decide +kernel
theorem dX0_billForHire_7 : decode cX0_billForHire 7 = .ok (.aload_n 0, 1) := by decide +kernel
theorem dX0_billForHire_8 : decode cX0_billForHire 8 = .ok (.getfield 36, 3) := by decide +kernel
theorem dX0_billForHire_11 : decode cX0_billForHire 11 = .ok (.aload_n 0, 1) := by decide +kernel
theorem dX0_billForHire_12 : decode cX0_billForHire 12 = .ok (.getfield 15, 3) := by decide +kernel
theorem dX0_billForHire_15 : decode cX0_billForHire 15 = .ok (.iload_n 1, 1) := by decide +kernel
theorem dX0_billForHire_16 : decode cX0_billForHire 16 = .ok (.invokestatic 78, 3) := by decide +kernel
theorem dX0_billForHire_19 : decode cX0_billForHire 19 = .ok (.iload_n 2, 1) := by decide +kernel
theorem dX0_billForHire_20 : decode cX0_billForHire 20 = .ok (.invokestatic 105, 3) := by decide +kernel
theorem dX0_billForHire_23 : decode cX0_billForHire 23 = .ok (.iload_n 2, 1) := by decide +kernel
theorem dX0_billForHire_24 : decode cX0_billForHire 24 = .ok (.ireturn, 1) := by decide +kernel
theorem dX0_comeHome_0 : decode cX0_comeHome 0 = .ok (.aload_n 0, 1) := by decide +kernel
theorem dX0_comeHome_1 : decode cX0_comeHome 1 = .ok (.getfield 15, 3) := by decide +kernel
theorem dX0_comeHome_4 : decode cX0_comeHome 4 = .ok (.iload_n 1, 1) := by decide +kernel
theorem dX0_comeHome_5 : decode cX0_comeHome 5 = .ok (.iconst (-1), 1) := by decide +kernel
theorem dX0_comeHome_6 : decode cX0_comeHome 6 = .ok (.invokestatic 98, 3) := by decide +kernel
theorem dX0_comeHome_9 : decode cX0_comeHome 9 = .ok (.aload_n 0, 1) := by decide +kernel
theorem dX0_comeHome_10 : decode cX0_comeHome 10 = .ok (.getfield 18, 3) := by decide +kernel
theorem dX0_comeHome_13 : decode cX0_comeHome 13 = .ok (.iload_n 1, 1) := by decide +kernel
theorem dX0_comeHome_14 : decode cX0_comeHome 14 = .ok (.aload_n 0, 1) := by decide +kernel
theorem dX0_comeHome_15 : decode cX0_comeHome 15 = .ok (.getfield 58, 3) := by decide +kernel
theorem dX0_comeHome_18 : decode cX0_comeHome 18 = .ok (.invokestatic 98, 3) := by decide +kernel
theorem dX0_comeHome_21 : decode cX0_comeHome 21 = .ok (.return_, 1) := by decide +kernel
theorem dX0_moveTo_0 : decode cX0_moveTo 0 = .ok (.aload_n 0, 1) := by decide +kernel
theorem dX0_moveTo_1 : decode cX0_moveTo 1 = .ok (.iload_n 1, 1) := by decide +kernel
theorem dX0_moveTo_2 : decode cX0_moveTo 2 = .ok (.invokevirtual 147, 3) := by decide +kernel
theorem dX0_moveTo_5 : decode cX0_moveTo 5 = .ok (.istore_n 3, 1) := by decide +kernel
theorem dX0_moveTo_6 : decode cX0_moveTo 6 = .ok (.aload_n 0, 1) := by decide +kernel
theorem dX0_moveTo_7 : decode cX0_moveTo 7 = .ok (.iload_n 1, 1) := by decide +kernel
theorem dX0_moveTo_8 : decode cX0_moveTo 8 = .ok (.iload_n 2, 1) := by decide +kernel
theorem dX0_moveTo_9 : decode cX0_moveTo 9 = .ok (.invokevirtual 134, 3) := by decide +kernel
theorem dX0_moveTo_12 : decode cX0_moveTo 12 = .ok (.iload_n 3, 1) := by decide +kernel
theorem dX0_moveTo_13 : decode cX0_moveTo 13 = .ok (.ireturn, 1) := by decide +kernel
theorem dX0_takeBack_0 : decode cX0_takeBack 0 = .ok (.aload_n 0, 1) := by decide +kernel
theorem dX0_takeBack_1 : decode cX0_takeBack 1 = .ok (.iload_n 1, 1) := by decide +kernel
theorem dX0_takeBack_2 : decode cX0_takeBack 2 = .ok (.invokevirtual 147, 3) := by decide +kernel
theorem dX0_takeBack_5 : decode cX0_takeBack 5 = .ok (.istore_n 2, 1) := by decide +kernel
theorem dX0_takeBack_6 : decode cX0_takeBack 6 = .ok (.aload_n 0, 1) := by decide +kernel
theorem dX0_takeBack_7 : decode cX0_takeBack 7 = .ok (.iload_n 1, 1) := by decide +kernel
theorem dX0_takeBack_8 : decode cX0_takeBack 8 = .ok (.invokevirtual 150, 3) := by decide +kernel
theorem dX0_takeBack_11 : decode cX0_takeBack 11 = .ok (.iload_n 2, 1) := by decide +kernel
theorem dX0_takeBack_12 : decode cX0_takeBack 12 = .ok (.ireturn, 1) := by decide +kernel
theorem dX0_takeBackShort_0 : decode cX0_takeBackShort 0 = .ok (.aload_n 0, 1) := by decide +kernel
theorem dX0_takeBackShort_1 : decode cX0_takeBackShort 1 = .ok (.iload_n 1, 1) := by decide +kernel
theorem dX0_takeBackShort_2 : decode cX0_takeBackShort 2 = .ok (.iload_n 2, 1) := by decide +kernel
theorem dX0_takeBackShort_3 : decode cX0_takeBackShort 3 = .ok (.iload_n 3, 1) := by decide +kernel
theorem dX0_takeBackShort_4 : decode cX0_takeBackShort 4 = .ok (.invokevirtual 116, 3) := by decide +kernel
theorem dX0_takeBackShort_7 : decode cX0_takeBackShort 7 = .ok (.istore 4, 2) := by decide +kernel
theorem dX0_takeBackShort_9 : decode cX0_takeBackShort 9 = .ok (.aload_n 0, 1) := by decide +kernel
theorem dX0_takeBackShort_10 : decode cX0_takeBackShort 10 = .ok (.getfield 39, 3) := by decide +kernel
theorem dX0_takeBackShort_13 : decode cX0_takeBackShort 13 = .ok (.aload_n 0, 1) := by decide +kernel
theorem dX0_takeBackShort_14 : decode cX0_takeBackShort 14 = .ok (.getfield 15, 3) := by decide +kernel
theorem dX0_takeBackShort_17 : decode cX0_takeBackShort 17 = .ok (.iload_n 1, 1) := by decide +kernel
theorem dX0_takeBackShort_18 : decode cX0_takeBackShort 18 = .ok (.invokestatic 78, 3) := by decide +kernel
theorem dX0_takeBackShort_21 : decode cX0_takeBackShort 21 = .ok (.iload 4, 2) := by decide +kernel
theorem dX0_takeBackShort_23 : decode cX0_takeBackShort 23 = .ok (.invokestatic 105, 3) := by decide +kernel
theorem dX0_takeBackShort_26 : decode cX0_takeBackShort 26 = .ok (.aload_n 0, 1) := by decide +kernel
theorem dX0_takeBackShort_27 : decode cX0_takeBackShort 27 = .ok (.iload_n 1, 1) := by decide +kernel
theorem dX0_takeBackShort_28 : decode cX0_takeBackShort 28 = .ok (.invokevirtual 154, 3) := by decide +kernel
theorem dX0_takeBackShort_31 : decode cX0_takeBackShort 31 = .ok (.iload 4, 2) := by decide +kernel
theorem dX0_takeBackShort_33 : decode cX0_takeBackShort 33 = .ok (.iadd, 1) := by decide +kernel
theorem dX0_takeBackShort_34 : decode cX0_takeBackShort 34 = .ok (.ireturn, 1) := by decide +kernel
theorem dX0_billedSoFar_0 : decode cX0_billedSoFar 0 = .ok (.aload_n 0, 1) := by decide +kernel
theorem dX0_billedSoFar_1 : decode cX0_billedSoFar 1 = .ok (.getfield 36, 3) := by decide +kernel
theorem dX0_billedSoFar_4 : decode cX0_billedSoFar 4 = .ok (.iload_n 1, 1) := by decide +kernel
theorem dX0_billedSoFar_5 : decode cX0_billedSoFar 5 = .ok (.invokestatic 78, 3) := by decide +kernel
theorem dX0_billedSoFar_8 : decode cX0_billedSoFar 8 = .ok (.aload_n 0, 1) := by decide +kernel
theorem dX0_billedSoFar_9 : decode cX0_billedSoFar 9 = .ok (.getfield 39, 3) := by decide +kernel
theorem dX0_billedSoFar_12 : decode cX0_billedSoFar 12 = .ok (.iload_n 1, 1) := by decide +kernel
theorem dX0_billedSoFar_13 : decode cX0_billedSoFar 13 = .ok (.invokestatic 78, 3) := by decide +kernel
theorem dX0_billedSoFar_16 : decode cX0_billedSoFar 16 = .ok (.iadd, 1) := by decide +kernel
theorem dX0_billedSoFar_17 : decode cX0_billedSoFar 17 = .ok (.aload_n 0, 1) := by decide +kernel
theorem dX0_billedSoFar_18 : decode cX0_billedSoFar 18 = .ok (.getfield 42, 3) := by decide +kernel
theorem dX0_billedSoFar_21 : decode cX0_billedSoFar 21 = .ok (.iload_n 1, 1) := by decide +kernel
theorem dX0_billedSoFar_22 : decode cX0_billedSoFar 22 = .ok (.invokestatic 78, 3) := by decide +kernel
theorem dX0_billedSoFar_25 : decode cX0_billedSoFar 25 = .ok (.iadd, 1) := by decide +kernel
theorem dX0_billedSoFar_26 : decode cX0_billedSoFar 26 = .ok (.ireturn, 1) := by decide +kernel
theorem dX0_billOf_0 : decode cX0_billOf 0 = .ok (.aload_n 0, 1) := by decide +kernel
theorem dX0_billOf_1 : decode cX0_billOf 1 = .ok (.iload_n 1, 1) := by decide +kernel
theorem dX0_billOf_2 : decode cX0_billOf 2 = .ok (.invokevirtual 157, 3) := by decide +kernel
theorem dX0_billOf_5 : decode cX0_billOf 5 = .ok (.aload_n 0, 1) := by decide +kernel
theorem dX0_billOf_6 : decode cX0_billOf 6 = .ok (.getfield 45, 3) := by decide +kernel
theorem dX0_billOf_9 : decode cX0_billOf 9 = .ok (.iload_n 1, 1) := by decide +kernel
theorem dX0_billOf_10 : decode cX0_billOf 10 = .ok (.invokestatic 78, 3) := by decide +kernel
theorem dX0_billOf_13 : decode cX0_billOf 13 = .ok (.isub, 1) := by decide +kernel
theorem dX0_billOf_14 : decode cX0_billOf 14 = .ok (.ireturn, 1) := by decide +kernel
theorem dX0_setsOn_0 : decode cX0_setsOn 0 = .ok (.iconst 0, 1) := by decide +kernel
theorem dX0_setsOn_1 : decode cX0_setsOn 1 = .ok (.istore_n 2, 1) := by decide +kernel
theorem dX0_setsOn_2 : decode cX0_setsOn 2 = .ok (.iconst 0, 1) := by decide +kernel
theorem dX0_setsOn_3 : decode cX0_setsOn 3 = .ok (.istore_n 3, 1) := by decide +kernel
theorem dX0_setsOn_4 : decode cX0_setsOn 4 = .ok (.iload_n 3, 1) := by decide +kernel
theorem dX0_setsOn_5 : decode cX0_setsOn 5 = .ok (.aload_n 0, 1) := by decide +kernel
theorem dX0_setsOn_6 : decode cX0_setsOn 6 = .ok (.getfield 54, 3) := by decide +kernel
theorem dX0_setsOn_9 : decode cX0_setsOn 9 = .ok (.if_icmp .ge 21, 3) := by decide +kernel
theorem dX0_setsOn_12 : decode cX0_setsOn 12 = .ok (.aload_n 0, 1) := by decide +kernel
theorem dX0_setsOn_13 : decode cX0_setsOn 13 = .ok (.iload_n 3, 1) := by decide +kernel
theorem dX0_setsOn_14 : decode cX0_setsOn 14 = .ok (.iload_n 1, 1) := by decide +kernel
theorem dX0_setsOn_15 : decode cX0_setsOn 15 = .ok (.invokevirtual 130, 3) := by decide +kernel
theorem dX0_setsOn_18 : decode cX0_setsOn 18 = .ok (.ifCond .eq 6, 3) := by decide +kernel
theorem dX0_setsOn_21 : decode cX0_setsOn 21 = .ok (.iinc 2 1, 3) := by decide +kernel
theorem dX0_setsOn_24 : decode cX0_setsOn 24 = .ok (.iinc 3 1, 3) := by decide +kernel
theorem dX0_setsOn_27 : decode cX0_setsOn 27 = .ok (.goto (-23), 3) := by decide +kernel
theorem dX0_setsOn_30 : decode cX0_setsOn 30 = .ok (.iload_n 2, 1) := by decide +kernel
theorem dX0_setsOn_31 : decode cX0_setsOn 31 = .ok (.ireturn, 1) := by decide +kernel
theorem dX0_billIfAllLeft_0 : decode cX0_billIfAllLeft 0 = .ok (.iconst 0, 1) := by decide +kernel
theorem dX0_billIfAllLeft_1 : decode cX0_billIfAllLeft 1 = .ok (.istore_n 2, 1) := by decide +kernel
theorem dX0_billIfAllLeft_2 : decode cX0_billIfAllLeft 2 = .ok (.iconst 0, 1) := by decide +kernel
theorem dX0_billIfAllLeft_3 : decode cX0_billIfAllLeft 3 = .ok (.istore_n 3, 1) := by decide +kernel
theorem dX0_billIfAllLeft_4 : decode cX0_billIfAllLeft 4 = .ok (.iload_n 3, 1) := by decide +kernel
theorem dX0_billIfAllLeft_5 : decode cX0_billIfAllLeft 5 = .ok (.aload_n 0, 1) := by decide +kernel
theorem dX0_billIfAllLeft_6 : decode cX0_billIfAllLeft 6 = .ok (.getfield 54, 3) := by decide +kernel
theorem dX0_billIfAllLeft_9 : decode cX0_billIfAllLeft 9 = .ok (.if_icmp .ge 27, 3) := by decide +kernel
theorem dX0_billIfAllLeft_12 : decode cX0_billIfAllLeft 12 = .ok (.aload_n 0, 1) := by decide +kernel
theorem dX0_billIfAllLeft_13 : decode cX0_billIfAllLeft 13 = .ok (.iload_n 3, 1) := by decide +kernel
theorem dX0_billIfAllLeft_14 : decode cX0_billIfAllLeft 14 = .ok (.iload_n 1, 1) := by decide +kernel
theorem dX0_billIfAllLeft_15 : decode cX0_billIfAllLeft 15 = .ok (.invokevirtual 130, 3) := by decide +kernel
theorem dX0_billIfAllLeft_18 : decode cX0_billIfAllLeft 18 = .ok (.ifCond .eq 12, 3) := by decide +kernel
theorem dX0_billIfAllLeft_21 : decode cX0_billIfAllLeft 21 = .ok (.iload_n 2, 1) := by decide +kernel
theorem dX0_billIfAllLeft_22 : decode cX0_billIfAllLeft 22 = .ok (.aload_n 0, 1) := by decide +kernel
theorem dX0_billIfAllLeft_23 : decode cX0_billIfAllLeft 23 = .ok (.iload_n 3, 1) := by decide +kernel
theorem dX0_billIfAllLeft_24 : decode cX0_billIfAllLeft 24 = .ok (.iconst 0, 1) := by decide +kernel
theorem dX0_billIfAllLeft_25 : decode cX0_billIfAllLeft 25 = .ok (.invokevirtual 144, 3) := by decide +kernel
theorem dX0_billIfAllLeft_28 : decode cX0_billIfAllLeft 28 = .ok (.iadd, 1) := by decide +kernel
theorem dX0_billIfAllLeft_29 : decode cX0_billIfAllLeft 29 = .ok (.istore_n 2, 1) := by decide +kernel
theorem dX0_billIfAllLeft_30 : decode cX0_billIfAllLeft 30 = .ok (.iinc 3 1, 3) := by decide +kernel
theorem dX0_billIfAllLeft_33 : decode cX0_billIfAllLeft 33 = .ok (.goto (-29), 3) := by decide +kernel
theorem dX0_billIfAllLeft_36 : decode cX0_billIfAllLeft 36 = .ok (.iload_n 2, 1) := by decide +kernel
theorem dX0_billIfAllLeft_37 : decode cX0_billIfAllLeft 37 = .ok (.ireturn, 1) := by decide +kernel
theorem dX0_isWithinTerm_0 : decode cX0_isWithinTerm 0 = .ok (.aload_n 0, 1) := by decide +kernel
theorem dX0_isWithinTerm_1 : decode cX0_isWithinTerm 1 = .ok (.getfield 58, 3) := by decide +kernel
theorem dX0_isWithinTerm_4 : decode cX0_isWithinTerm 4 = .ok (.aload_n 0, 1) := by decide +kernel
theorem dX0_isWithinTerm_5 : decode cX0_isWithinTerm 5 = .ok (.getfield 18, 3) := by decide +kernel
theorem dX0_isWithinTerm_8 : decode cX0_isWithinTerm 8 = .ok (.iload_n 1, 1) := by decide +kernel
theorem dX0_isWithinTerm_9 : decode cX0_isWithinTerm 9 = .ok (.invokestatic 78, 3) := by decide +kernel
theorem dX0_isWithinTerm_12 : decode cX0_isWithinTerm 12 = .ok (.isub, 1) := by decide +kernel
theorem dX0_isWithinTerm_13 : decode cX0_isWithinTerm 13 = .ok (.aload_n 0, 1) := by decide +kernel
theorem dX0_isWithinTerm_14 : decode cX0_isWithinTerm 14 = .ok (.getfield 9, 3) := by decide +kernel
theorem dX0_isWithinTerm_17 : decode cX0_isWithinTerm 17 = .ok (.iconst 0, 1) := by decide +kernel
theorem dX0_isWithinTerm_18 : decode cX0_isWithinTerm 18 = .ok (.invokestatic 78, 3) := by decide +kernel
theorem dX0_isWithinTerm_21 : decode cX0_isWithinTerm 21 = .ok (.if_icmp .ge 7, 3) := by decide +kernel
theorem dX0_isWithinTerm_24 : decode cX0_isWithinTerm 24 = .ok (.iconst 1, 1) := by decide +kernel
theorem dX0_isWithinTerm_25 : decode cX0_isWithinTerm 25 = .ok (.goto 4, 3) := by decide +kernel
theorem dX0_isWithinTerm_28 : decode cX0_isWithinTerm 28 = .ok (.iconst 0, 1) := by decide +kernel
theorem dX0_isWithinTerm_29 : decode cX0_isWithinTerm 29 = .ok (.ireturn, 1) := by decide +kernel
theorem dX0_setsWithinTerm_0 : decode cX0_setsWithinTerm 0 = .ok (.iconst 0, 1) := by decide +kernel
theorem dX0_setsWithinTerm_1 : decode cX0_setsWithinTerm 1 = .ok (.istore_n 2, 1) := by decide +kernel
theorem dX0_setsWithinTerm_2 : decode cX0_setsWithinTerm 2 = .ok (.iconst 0, 1) := by decide +kernel
theorem dX0_setsWithinTerm_3 : decode cX0_setsWithinTerm 3 = .ok (.istore_n 3, 1) := by decide +kernel
theorem dX0_setsWithinTerm_4 : decode cX0_setsWithinTerm 4 = .ok (.iload_n 3, 1) := by decide +kernel
theorem dX0_setsWithinTerm_5 : decode cX0_setsWithinTerm 5 = .ok (.aload_n 0, 1) := by decide +kernel
theorem dX0_setsWithinTerm_6 : decode cX0_setsWithinTerm 6 = .ok (.getfield 54, 3) := by decide +kernel
theorem dX0_setsWithinTerm_9 : decode cX0_setsWithinTerm 9 = .ok (.if_icmp .ge 29, 3) := by decide +kernel
theorem dX0_setsWithinTerm_12 : decode cX0_setsWithinTerm 12 = .ok (.aload_n 0, 1) := by decide +kernel
theorem dX0_setsWithinTerm_13 : decode cX0_setsWithinTerm 13 = .ok (.iload_n 3, 1) := by decide +kernel
theorem dX0_setsWithinTerm_14 : decode cX0_setsWithinTerm 14 = .ok (.iload_n 1, 1) := by decide +kernel
theorem dX0_setsWithinTerm_15 : decode cX0_setsWithinTerm 15 = .ok (.invokevirtual 130, 3) := by decide +kernel
theorem dX0_setsWithinTerm_18 : decode cX0_setsWithinTerm 18 = .ok (.ifCond .eq 14, 3) := by decide +kernel
theorem dX0_setsWithinTerm_21 : decode cX0_setsWithinTerm 21 = .ok (.aload_n 0, 1) := by decide +kernel
theorem dX0_setsWithinTerm_22 : decode cX0_setsWithinTerm 22 = .ok (.iload_n 3, 1) := by decide +kernel
theorem dX0_setsWithinTerm_23 : decode cX0_setsWithinTerm 23 = .ok (.invokevirtual 160, 3) := by decide +kernel
theorem dX0_setsWithinTerm_26 : decode cX0_setsWithinTerm 26 = .ok (.ifCond .eq 6, 3) := by decide +kernel
theorem dX0_setsWithinTerm_29 : decode cX0_setsWithinTerm 29 = .ok (.iinc 2 1, 3) := by decide +kernel
theorem dX0_setsWithinTerm_32 : decode cX0_setsWithinTerm 32 = .ok (.iinc 3 1, 3) := by decide +kernel
theorem dX0_setsWithinTerm_35 : decode cX0_setsWithinTerm 35 = .ok (.goto (-31), 3) := by decide +kernel
theorem dX0_setsWithinTerm_38 : decode cX0_setsWithinTerm 38 = .ok (.iload_n 2, 1) := by decide +kernel
theorem dX0_setsWithinTerm_39 : decode cX0_setsWithinTerm 39 = .ok (.ireturn, 1) := by decide +kernel
theorem dX0_firstDue_0 : decode cX0_firstDue 0 = .ok (.iconst (-1), 1) := by decide +kernel
theorem dX0_firstDue_1 : decode cX0_firstDue 1 = .ok (.istore_n 2, 1) := by decide +kernel
theorem dX0_firstDue_2 : decode cX0_firstDue 2 = .ok (.iconst 0, 1) := by decide +kernel
theorem dX0_firstDue_3 : decode cX0_firstDue 3 = .ok (.istore_n 3, 1) := by decide +kernel
theorem dX0_firstDue_4 : decode cX0_firstDue 4 = .ok (.iload_n 3, 1) := by decide +kernel
theorem dX0_firstDue_5 : decode cX0_firstDue 5 = .ok (.aload_n 0, 1) := by decide +kernel
theorem dX0_firstDue_6 : decode cX0_firstDue 6 = .ok (.getfield 54, 3) := by decide +kernel
theorem dX0_firstDue_9 : decode cX0_firstDue 9 = .ok (.if_icmp .ge 52, 3) := by decide +kernel
theorem dX0_firstDue_12 : decode cX0_firstDue 12 = .ok (.aload_n 0, 1) := by decide +kernel
theorem dX0_firstDue_13 : decode cX0_firstDue 13 = .ok (.iload_n 3, 1) := by decide +kernel
theorem dX0_firstDue_14 : decode cX0_firstDue 14 = .ok (.iload_n 1, 1) := by decide +kernel
theorem dX0_firstDue_15 : decode cX0_firstDue 15 = .ok (.invokevirtual 130, 3) := by decide +kernel
theorem dX0_firstDue_18 : decode cX0_firstDue 18 = .ok (.ifCond .eq 37, 3) := by decide +kernel
theorem dX0_firstDue_21 : decode cX0_firstDue 21 = .ok (.aload_n 0, 1) := by decide +kernel
theorem dX0_firstDue_22 : decode cX0_firstDue 22 = .ok (.iload_n 3, 1) := by decide +kernel
theorem dX0_firstDue_23 : decode cX0_firstDue 23 = .ok (.invokevirtual 160, 3) := by decide +kernel
theorem dX0_firstDue_26 : decode cX0_firstDue 26 = .ok (.ifCond .ne 29, 3) := by decide +kernel
theorem dX0_firstDue_29 : decode cX0_firstDue 29 = .ok (.iload_n 2, 1) := by decide +kernel
theorem dX0_firstDue_30 : decode cX0_firstDue 30 = .ok (.iconst (-1), 1) := by decide +kernel
theorem dX0_firstDue_31 : decode cX0_firstDue 31 = .ok (.if_icmp .eq 22, 3) := by decide +kernel
theorem dX0_firstDue_34 : decode cX0_firstDue 34 = .ok (.aload_n 0, 1) := by decide +kernel
theorem dX0_firstDue_35 : decode cX0_firstDue 35 = .ok (.getfield 18, 3) := by decide +kernel
theorem dX0_firstDue_38 : decode cX0_firstDue 38 = .ok (.iload_n 3, 1) := by decide +kernel
theorem dX0_firstDue_39 : decode cX0_firstDue 39 = .ok (.invokestatic 78, 3) := by decide +kernel
theorem dX0_firstDue_42 : decode cX0_firstDue 42 = .ok (.aload_n 0, 1) := by decide +kernel
theorem dX0_firstDue_43 : decode cX0_firstDue 43 = .ok (.getfield 18, 3) := by decide +kernel
theorem dX0_firstDue_46 : decode cX0_firstDue 46 = .ok (.iload_n 2, 1) := by decide +kernel
theorem dX0_firstDue_47 : decode cX0_firstDue 47 = .ok (.invokestatic 78, 3) := by decide +kernel
theorem dX0_firstDue_50 : decode cX0_firstDue 50 = .ok (.if_icmp .ge 5, 3) := by decide +kernel
theorem dX0_firstDue_53 : decode cX0_firstDue 53 = .ok (.iload_n 3, 1) := by decide +kernel
theorem dX0_firstDue_54 : decode cX0_firstDue 54 = .ok (.istore_n 2, 1) := by decide +kernel
theorem dX0_firstDue_55 : decode cX0_firstDue 55 = .ok (.iinc 3 1, 3) := by decide +kernel
theorem dX0_firstDue_58 : decode cX0_firstDue 58 = .ok (.goto (-54), 3) := by decide +kernel
theorem dX0_firstDue_61 : decode cX0_firstDue 61 = .ok (.iload_n 2, 1) := by decide +kernel
theorem dX0_firstDue_62 : decode cX0_firstDue 62 = .ok (.ireturn, 1) := by decide +kernel
theorem dX0_bundleValue_0 : decode cX0_bundleValue 0 = .ok (.iload_n 2, 1) := by decide +kernel
theorem dX0_bundleValue_1 : decode cX0_bundleValue 1 = .ok (.tableswitch 114 0 8 #[51, 60, 69, 83, 89, 89, 89, 98, 105], 51) := by decide +kernel
theorem dX0_bundleValue_52 : decode cX0_bundleValue 52 = .ok (.aload_n 0, 1) := by decide +kernel
theorem dX0_bundleValue_53 : decode cX0_bundleValue 53 = .ok (.getfield 15, 3) := by decide +kernel
theorem dX0_bundleValue_56 : decode cX0_bundleValue 56 = .ok (.iload_n 1, 1) := by decide +kernel
theorem dX0_bundleValue_57 : decode cX0_bundleValue 57 = .ok (.invokestatic 78, 3) := by decide +kernel
theorem dX0_bundleValue_60 : decode cX0_bundleValue 60 = .ok (.ireturn, 1) := by decide +kernel
theorem dX0_bundleValue_61 : decode cX0_bundleValue 61 = .ok (.aload_n 0, 1) := by decide +kernel
theorem dX0_bundleValue_62 : decode cX0_bundleValue 62 = .ok (.getfield 18, 3) := by decide +kernel
theorem dX0_bundleValue_65 : decode cX0_bundleValue 65 = .ok (.iload_n 1, 1) := by decide +kernel
theorem dX0_bundleValue_66 : decode cX0_bundleValue 66 = .ok (.invokestatic 78, 3) := by decide +kernel
theorem dX0_bundleValue_69 : decode cX0_bundleValue 69 = .ok (.ireturn, 1) := by decide +kernel
theorem dX0_bundleValue_70 : decode cX0_bundleValue 70 = .ok (.aload_n 0, 1) := by decide +kernel
theorem dX0_bundleValue_71 : decode cX0_bundleValue 71 = .ok (.iload_n 1, 1) := by decide +kernel
theorem dX0_bundleValue_72 : decode cX0_bundleValue 72 = .ok (.invokevirtual 95, 3) := by decide +kernel
theorem dX0_bundleValue_75 : decode cX0_bundleValue 75 = .ok (.ifCond .eq 7, 3) := by decide +kernel
theorem dX0_bundleValue_78 : decode cX0_bundleValue 78 = .ok (.iconst 1, 1) := by decide +kernel
theorem dX0_bundleValue_79 : decode cX0_bundleValue 79 = .ok (.goto 4, 3) := by decide +kernel
theorem dX0_bundleValue_82 : decode cX0_bundleValue 82 = .ok (.iconst 0, 1) := by decide +kernel
theorem dX0_bundleValue_83 : decode cX0_bundleValue 83 = .ok (.ireturn, 1) := by decide +kernel
theorem dX0_bundleValue_84 : decode cX0_bundleValue 84 = .ok (.aload_n 0, 1) := by decide +kernel
theorem dX0_bundleValue_85 : decode cX0_bundleValue 85 = .ok (.iload_n 1, 1) := by decide +kernel
theorem dX0_bundleValue_86 : decode cX0_bundleValue 86 = .ok (.invokevirtual 163, 3) := by decide +kernel
theorem dX0_bundleValue_89 : decode cX0_bundleValue 89 = .ok (.ireturn, 1) := by decide +kernel
theorem dX0_bundleValue_90 : decode cX0_bundleValue 90 = .ok (.aload_n 0, 1) := by decide +kernel
theorem dX0_bundleValue_91 : decode cX0_bundleValue 91 = .ok (.iload_n 1, 1) := by decide +kernel
theorem dX0_bundleValue_92 : decode cX0_bundleValue 92 = .ok (.iload_n 2, 1) := by decide +kernel
theorem dX0_bundleValue_93 : decode cX0_bundleValue 93 = .ok (.iconst 4, 1) := by decide +kernel
theorem dX0_bundleValue_94 : decode cX0_bundleValue 94 = .ok (.isub, 1) := by decide +kernel
theorem dX0_bundleValue_95 : decode cX0_bundleValue 95 = .ok (.invokevirtual 127, 3) := by decide +kernel
theorem dX0_bundleValue_98 : decode cX0_bundleValue 98 = .ok (.ireturn, 1) := by decide +kernel
theorem dX0_bundleValue_99 : decode cX0_bundleValue 99 = .ok (.aload_n 0, 1) := by decide +kernel
theorem dX0_bundleValue_100 : decode cX0_bundleValue 100 = .ok (.iload_n 1, 1) := by decide +kernel
theorem dX0_bundleValue_101 : decode cX0_bundleValue 101 = .ok (.iconst 0, 1) := by decide +kernel
theorem dX0_bundleValue_102 : decode cX0_bundleValue 102 = .ok (.invokevirtual 144, 3) := by decide +kernel
theorem dX0_bundleValue_105 : decode cX0_bundleValue 105 = .ok (.ireturn, 1) := by decide +kernel
theorem dX0_bundleValue_106 : decode cX0_bundleValue 106 = .ok (.aload_n 0, 1) := by decide +kernel
theorem dX0_bundleValue_107 : decode cX0_bundleValue 107 = .ok (.getfield 21, 3) := by decide +kernel
theorem dX0_bundleValue_110 : decode cX0_bundleValue 110 = .ok (.iload_n 1, 1) := by decide +kernel
theorem dX0_bundleValue_111 : decode cX0_bundleValue 111 = .ok (.invokestatic 78, 3) := by decide +kernel
theorem dX0_bundleValue_114 : decode cX0_bundleValue 114 = .ok (.ireturn, 1) := by decide +kernel
theorem dX0_bundleValue_115 : decode cX0_bundleValue 115 = .ok (.aload_n 0, 1) := by decide +kernel
theorem dX0_bundleValue_116 : decode cX0_bundleValue 116 = .ok (.iload_n 1, 1) := by decide +kernel
theorem dX0_bundleValue_117 : decode cX0_bundleValue 117 = .ok (.iload_n 2, 1) := by decide +kernel
theorem dX0_bundleValue_118 : decode cX0_bundleValue 118 = .ok (.bipush 10, 2) := by decide +kernel
theorem dX0_bundleValue_120 : decode cX0_bundleValue 120 = .ok (.isub, 1) := by decide +kernel
theorem dX0_bundleValue_121 : decode cX0_bundleValue 121 = .ok (.invokevirtual 88, 3) := by decide +kernel
theorem dX0_bundleValue_124 : decode cX0_bundleValue 124 = .ok (.ireturn, 1) := by decide +kernel
theorem dX0_siteValue_0 : decode cX0_siteValue 0 = .ok (.iload_n 2, 1) := by decide +kernel
theorem dX0_siteValue_1 : decode cX0_siteValue 1 = .ok (.tableswitch 97 0 6 #[43, 49, 55, 64, 73, 82, 91], 43) := by decide +kernel
theorem dX0_siteValue_44 : decode cX0_siteValue 44 = .ok (.aload_n 0, 1) := by decide +kernel
theorem dX0_siteValue_45 : decode cX0_siteValue 45 = .ok (.iload_n 1, 1) := by decide +kernel
theorem dX0_siteValue_46 : decode cX0_siteValue 46 = .ok (.invokevirtual 166, 3) := by decide +kernel
theorem dX0_siteValue_49 : decode cX0_siteValue 49 = .ok (.ireturn, 1) := by decide +kernel
theorem dX0_siteValue_50 : decode cX0_siteValue 50 = .ok (.aload_n 0, 1) := by decide +kernel
theorem dX0_siteValue_51 : decode cX0_siteValue 51 = .ok (.iload_n 1, 1) := by decide +kernel
theorem dX0_siteValue_52 : decode cX0_siteValue 52 = .ok (.invokevirtual 169, 3) := by decide +kernel
theorem dX0_siteValue_55 : decode cX0_siteValue 55 = .ok (.ireturn, 1) := by decide +kernel
theorem dX0_siteValue_56 : decode cX0_siteValue 56 = .ok (.aload_n 0, 1) := by decide +kernel
theorem dX0_siteValue_57 : decode cX0_siteValue 57 = .ok (.getfield 36, 3) := by decide +kernel
theorem dX0_siteValue_60 : decode cX0_siteValue 60 = .ok (.iload_n 1, 1) := by decide +kernel
theorem dX0_siteValue_61 : decode cX0_siteValue 61 = .ok (.invokestatic 78, 3) := by decide +kernel
theorem dX0_siteValue_64 : decode cX0_siteValue 64 = .ok (.ireturn, 1) := by decide +kernel
theorem dX0_siteValue_65 : decode cX0_siteValue 65 = .ok (.aload_n 0, 1) := by decide +kernel
theorem dX0_siteValue_66 : decode cX0_siteValue 66 = .ok (.getfield 39, 3) := by decide +kernel
theorem dX0_siteValue_69 : decode cX0_siteValue 69 = .ok (.iload_n 1, 1) := by decide +kernel
theorem dX0_siteValue_70 : decode cX0_siteValue 70 = .ok (.invokestatic 78, 3) := by decide +kernel
theorem dX0_siteValue_73 : decode cX0_siteValue 73 = .ok (.ireturn, 1) := by decide +kernel
theorem dX0_siteValue_74 : decode cX0_siteValue 74 = .ok (.aload_n 0, 1) := by decide +kernel
theorem dX0_siteValue_75 : decode cX0_siteValue 75 = .ok (.getfield 42, 3) := by decide +kernel
theorem dX0_siteValue_78 : decode cX0_siteValue 78 = .ok (.iload_n 1, 1) := by decide +kernel
theorem dX0_siteValue_79 : decode cX0_siteValue 79 = .ok (.invokestatic 78, 3) := by decide +kernel
theorem dX0_siteValue_82 : decode cX0_siteValue 82 = .ok (.ireturn, 1) := by decide +kernel
theorem dX0_siteValue_83 : decode cX0_siteValue 83 = .ok (.aload_n 0, 1) := by decide +kernel
theorem dX0_siteValue_84 : decode cX0_siteValue 84 = .ok (.getfield 45, 3) := by decide +kernel
theorem dX0_siteValue_87 : decode cX0_siteValue 87 = .ok (.iload_n 1, 1) := by decide +kernel
theorem dX0_siteValue_88 : decode cX0_siteValue 88 = .ok (.invokestatic 78, 3) := by decide +kernel
theorem dX0_siteValue_91 : decode cX0_siteValue 91 = .ok (.ireturn, 1) := by decide +kernel
theorem dX0_siteValue_92 : decode cX0_siteValue 92 = .ok (.aload_n 0, 1) := by decide +kernel
theorem dX0_siteValue_93 : decode cX0_siteValue 93 = .ok (.iload_n 1, 1) := by decide +kernel
theorem dX0_siteValue_94 : decode cX0_siteValue 94 = .ok (.invokevirtual 172, 3) := by decide +kernel
theorem dX0_siteValue_97 : decode cX0_siteValue 97 = .ok (.ireturn, 1) := by decide +kernel
theorem dX0_siteValue_98 : decode cX0_siteValue 98 = .ok (.aload_n 0, 1) := by decide +kernel
theorem dX0_siteValue_99 : decode cX0_siteValue 99 = .ok (.iload_n 1, 1) := by decide +kernel
theorem dX0_siteValue_100 : decode cX0_siteValue 100 = .ok (.invokevirtual 175, 3) := by decide +kernel
theorem dX0_siteValue_103 : decode cX0_siteValue 103 = .ok (.ireturn, 1) := by decide +kernel
theorem dX0_partsInSets_0 : decode cX0_partsInSets 0 = .ok (.iconst 0, 1) := by decide +kernel
theorem dX0_partsInSets_1 : decode cX0_partsInSets 1 = .ok (.istore_n 2, 1) := by decide +kernel
theorem dX0_partsInSets_2 : decode cX0_partsInSets 2 = .ok (.iconst 0, 1) := by decide +kernel
theorem dX0_partsInSets_3 : decode cX0_partsInSets 3 = .ok (.istore_n 3, 1) := by decide +kernel
theorem dX0_partsInSets_4 : decode cX0_partsInSets 4 = .ok (.iload_n 3, 1) := by decide +kernel
theorem dX0_partsInSets_5 : decode cX0_partsInSets 5 = .ok (.aload_n 0, 1) := by decide +kernel
theorem dX0_partsInSets_6 : decode cX0_partsInSets 6 = .ok (.getfield 54, 3) := by decide +kernel
theorem dX0_partsInSets_9 : decode cX0_partsInSets 9 = .ok (.if_icmp .ge 18, 3) := by decide +kernel
theorem dX0_partsInSets_12 : decode cX0_partsInSets 12 = .ok (.iload_n 2, 1) := by decide +kernel
theorem dX0_partsInSets_13 : decode cX0_partsInSets 13 = .ok (.aload_n 0, 1) := by decide +kernel
theorem dX0_partsInSets_14 : decode cX0_partsInSets 14 = .ok (.iload_n 3, 1) := by decide +kernel
theorem dX0_partsInSets_15 : decode cX0_partsInSets 15 = .ok (.iload_n 1, 1) := by decide +kernel
theorem dX0_partsInSets_16 : decode cX0_partsInSets 16 = .ok (.invokevirtual 88, 3) := by decide +kernel
theorem dX0_partsInSets_19 : decode cX0_partsInSets 19 = .ok (.iadd, 1) := by decide +kernel
theorem dX0_partsInSets_20 : decode cX0_partsInSets 20 = .ok (.istore_n 2, 1) := by decide +kernel
theorem dX0_partsInSets_21 : decode cX0_partsInSets 21 = .ok (.iinc 3 1, 3) := by decide +kernel
theorem dX0_partsInSets_24 : decode cX0_partsInSets 24 = .ok (.goto (-20), 3) := by decide +kernel
theorem dX0_partsInSets_27 : decode cX0_partsInSets 27 = .ok (.iload_n 2, 1) := by decide +kernel
theorem dX0_partsInSets_28 : decode cX0_partsInSets 28 = .ok (.ireturn, 1) := by decide +kernel
theorem dX0_partsValue_0 : decode cX0_partsValue 0 = .ok (.iload_n 2, 1) := by decide +kernel
theorem dX0_partsValue_1 : decode cX0_partsValue 1 = .ok (.tableswitch 79 0 3 #[31, 37, 46, 55], 31) := by decide +kernel
theorem dX0_partsValue_32 : decode cX0_partsValue 32 = .ok (.aload_n 0, 1) := by decide +kernel
theorem dX0_partsValue_33 : decode cX0_partsValue 33 = .ok (.iload_n 1, 1) := by decide +kernel
theorem dX0_partsValue_34 : decode cX0_partsValue 34 = .ok (.invokevirtual 178, 3) := by decide +kernel
theorem dX0_partsValue_37 : decode cX0_partsValue 37 = .ok (.ireturn, 1) := by decide +kernel
theorem dX0_partsValue_38 : decode cX0_partsValue 38 = .ok (.aload_n 0, 1) := by decide +kernel
theorem dX0_partsValue_39 : decode cX0_partsValue 39 = .ok (.getfield 30, 3) := by decide +kernel
theorem dX0_partsValue_42 : decode cX0_partsValue 42 = .ok (.iload_n 1, 1) := by decide +kernel
theorem dX0_partsValue_43 : decode cX0_partsValue 43 = .ok (.invokestatic 78, 3) := by decide +kernel
theorem dX0_partsValue_46 : decode cX0_partsValue 46 = .ok (.ireturn, 1) := by decide +kernel
theorem dX0_partsValue_47 : decode cX0_partsValue 47 = .ok (.aload_n 0, 1) := by decide +kernel
theorem dX0_partsValue_48 : decode cX0_partsValue 48 = .ok (.getfield 33, 3) := by decide +kernel
theorem dX0_partsValue_51 : decode cX0_partsValue 51 = .ok (.iload_n 1, 1) := by decide +kernel
theorem dX0_partsValue_52 : decode cX0_partsValue 52 = .ok (.invokestatic 78, 3) := by decide +kernel
theorem dX0_partsValue_55 : decode cX0_partsValue 55 = .ok (.ireturn, 1) := by decide +kernel
theorem dX0_partsValue_56 : decode cX0_partsValue 56 = .ok (.aload_n 0, 1) := by decide +kernel
theorem dX0_partsValue_57 : decode cX0_partsValue 57 = .ok (.iload_n 1, 1) := by decide +kernel
theorem dX0_partsValue_58 : decode cX0_partsValue 58 = .ok (.invokevirtual 178, 3) := by decide +kernel
theorem dX0_partsValue_61 : decode cX0_partsValue 61 = .ok (.aload_n 0, 1) := by decide +kernel
theorem dX0_partsValue_62 : decode cX0_partsValue 62 = .ok (.getfield 30, 3) := by decide +kernel
theorem dX0_partsValue_65 : decode cX0_partsValue 65 = .ok (.iload_n 1, 1) := by decide +kernel
theorem dX0_partsValue_66 : decode cX0_partsValue 66 = .ok (.invokestatic 78, 3) := by decide +kernel
theorem dX0_partsValue_69 : decode cX0_partsValue 69 = .ok (.iadd, 1) := by decide +kernel
theorem dX0_partsValue_70 : decode cX0_partsValue 70 = .ok (.aload_n 0, 1) := by decide +kernel
theorem dX0_partsValue_71 : decode cX0_partsValue 71 = .ok (.getfield 33, 3) := by decide +kernel
theorem dX0_partsValue_74 : decode cX0_partsValue 74 = .ok (.iload_n 1, 1) := by decide +kernel
theorem dX0_partsValue_75 : decode cX0_partsValue 75 = .ok (.invokestatic 78, 3) := by decide +kernel
theorem dX0_partsValue_78 : decode cX0_partsValue 78 = .ok (.iadd, 1) := by decide +kernel
theorem dX0_partsValue_79 : decode cX0_partsValue 79 = .ok (.ireturn, 1) := by decide +kernel
theorem dX0_partsValue_80 : decode cX0_partsValue 80 = .ok (.aload_n 0, 1) := by decide +kernel
theorem dX0_partsValue_81 : decode cX0_partsValue 81 = .ok (.getfield 54, 3) := by decide +kernel
theorem dX0_partsValue_84 : decode cX0_partsValue 84 = .ok (.getstatic 85, 3) := by decide +kernel
theorem dX0_partsValue_87 : decode cX0_partsValue 87 = .ok (.iload_n 1, 1) := by decide +kernel
theorem dX0_partsValue_88 : decode cX0_partsValue 88 = .ok (.invokestatic 78, 3) := by decide +kernel
theorem dX0_partsValue_91 : decode cX0_partsValue 91 = .ok (.imul, 1) := by decide +kernel
theorem dX0_partsValue_92 : decode cX0_partsValue 92 = .ok (.aload_n 0, 1) := by decide +kernel
theorem dX0_partsValue_93 : decode cX0_partsValue 93 = .ok (.iload_n 1, 1) := by decide +kernel
theorem dX0_partsValue_94 : decode cX0_partsValue 94 = .ok (.invokevirtual 178, 3) := by decide +kernel
theorem dX0_partsValue_97 : decode cX0_partsValue 97 = .ok (.isub, 1) := by decide +kernel
theorem dX0_partsValue_98 : decode cX0_partsValue 98 = .ok (.ireturn, 1) := by decide +kernel
theorem dX0_billedToAll_0 : decode cX0_billedToAll 0 = .ok (.iconst 0, 1) := by decide +kernel
theorem dX0_billedToAll_1 : decode cX0_billedToAll 1 = .ok (.istore_n 1, 1) := by decide +kernel
theorem dX0_billedToAll_2 : decode cX0_billedToAll 2 = .ok (.iconst 0, 1) := by decide +kernel
theorem dX0_billedToAll_3 : decode cX0_billedToAll 3 = .ok (.istore_n 2, 1) := by decide +kernel
theorem dX0_billedToAll_4 : decode cX0_billedToAll 4 = .ok (.iload_n 2, 1) := by decide +kernel
theorem dX0_billedToAll_5 : decode cX0_billedToAll 5 = .ok (.bipush 6, 2) := by decide +kernel
theorem dX0_billedToAll_7 : decode cX0_billedToAll 7 = .ok (.if_icmp .ge 17, 3) := by decide +kernel
theorem dX0_billedToAll_10 : decode cX0_billedToAll 10 = .ok (.iload_n 1, 1) := by decide +kernel
theorem dX0_billedToAll_11 : decode cX0_billedToAll 11 = .ok (.aload_n 0, 1) := by decide +kernel
theorem dX0_billedToAll_12 : decode cX0_billedToAll 12 = .ok (.iload_n 2, 1) := by decide +kernel
theorem dX0_billedToAll_13 : decode cX0_billedToAll 13 = .ok (.invokevirtual 157, 3) := by decide +kernel
theorem dX0_billedToAll_16 : decode cX0_billedToAll 16 = .ok (.iadd, 1) := by decide +kernel
theorem dX0_billedToAll_17 : decode cX0_billedToAll 17 = .ok (.istore_n 1, 1) := by decide +kernel
theorem dX0_billedToAll_18 : decode cX0_billedToAll 18 = .ok (.iinc 2 1, 3) := by decide +kernel
theorem dX0_billedToAll_21 : decode cX0_billedToAll 21 = .ok (.goto (-17), 3) := by decide +kernel
theorem dX0_billedToAll_24 : decode cX0_billedToAll 24 = .ok (.iload_n 1, 1) := by decide +kernel
theorem dX0_billedToAll_25 : decode cX0_billedToAll 25 = .ok (.ireturn, 1) := by decide +kernel
theorem dX0_paidByAll_0 : decode cX0_paidByAll 0 = .ok (.iconst 0, 1) := by decide +kernel
theorem dX0_paidByAll_1 : decode cX0_paidByAll 1 = .ok (.istore_n 1, 1) := by decide +kernel
theorem dX0_paidByAll_2 : decode cX0_paidByAll 2 = .ok (.iconst 0, 1) := by decide +kernel
theorem dX0_paidByAll_3 : decode cX0_paidByAll 3 = .ok (.istore_n 2, 1) := by decide +kernel
theorem dX0_paidByAll_4 : decode cX0_paidByAll 4 = .ok (.iload_n 2, 1) := by decide +kernel
theorem dX0_paidByAll_5 : decode cX0_paidByAll 5 = .ok (.bipush 6, 2) := by decide +kernel
theorem dX0_paidByAll_7 : decode cX0_paidByAll 7 = .ok (.if_icmp .ge 20, 3) := by decide +kernel
theorem dX0_paidByAll_10 : decode cX0_paidByAll 10 = .ok (.iload_n 1, 1) := by decide +kernel
theorem dX0_paidByAll_11 : decode cX0_paidByAll 11 = .ok (.aload_n 0, 1) := by decide +kernel
theorem dX0_paidByAll_12 : decode cX0_paidByAll 12 = .ok (.getfield 45, 3) := by decide +kernel
theorem dX0_paidByAll_15 : decode cX0_paidByAll 15 = .ok (.iload_n 2, 1) := by decide +kernel
theorem dX0_paidByAll_16 : decode cX0_paidByAll 16 = .ok (.invokestatic 78, 3) := by decide +kernel
theorem dX0_paidByAll_19 : decode cX0_paidByAll 19 = .ok (.iadd, 1) := by decide +kernel
theorem dX0_paidByAll_20 : decode cX0_paidByAll 20 = .ok (.istore_n 1, 1) := by decide +kernel
theorem dX0_paidByAll_21 : decode cX0_paidByAll 21 = .ok (.iinc 2 1, 3) := by decide +kernel
theorem dX0_paidByAll_24 : decode cX0_paidByAll 24 = .ok (.goto (-20), 3) := by decide +kernel
theorem dX0_paidByAll_27 : decode cX0_paidByAll 27 = .ok (.iload_n 1, 1) := by decide +kernel
theorem dX0_paidByAll_28 : decode cX0_paidByAll 28 = .ok (.ireturn, 1) := by decide +kernel
theorem dX0_countValue_0 : decode cX0_countValue 0 = .ok (.iload_n 1, 1) := by decide +kernel
theorem dX0_countValue_1 : decode cX0_countValue 1 = .ok (.tableswitch 87 0 7 #[47, 52, 57, 62, 67, 72, 77, 82], 47) := by decide +kernel
theorem dX0_countValue_48 : decode cX0_countValue 48 = .ok (.aload_n 0, 1) := by decide +kernel
theorem dX0_countValue_49 : decode cX0_countValue 49 = .ok (.getfield 54, 3) := by decide +kernel
theorem dX0_countValue_52 : decode cX0_countValue 52 = .ok (.ireturn, 1) := by decide +kernel
theorem dX0_countValue_53 : decode cX0_countValue 53 = .ok (.aload_n 0, 1) := by decide +kernel
theorem dX0_countValue_54 : decode cX0_countValue 54 = .ok (.invokevirtual 181, 3) := by decide +kernel
theorem dX0_countValue_57 : decode cX0_countValue 57 = .ok (.ireturn, 1) := by decide +kernel
theorem dX0_countValue_58 : decode cX0_countValue 58 = .ok (.aload_n 0, 1) := by decide +kernel
theorem dX0_countValue_59 : decode cX0_countValue 59 = .ok (.invokevirtual 185, 3) := by decide +kernel
theorem dX0_countValue_62 : decode cX0_countValue 62 = .ok (.ireturn, 1) := by decide +kernel
theorem dX0_countValue_63 : decode cX0_countValue 63 = .ok (.aload_n 0, 1) := by decide +kernel
theorem dX0_countValue_64 : decode cX0_countValue 64 = .ok (.getfield 58, 3) := by decide +kernel
theorem dX0_countValue_67 : decode cX0_countValue 67 = .ok (.ireturn, 1) := by decide +kernel
theorem dX0_countValue_68 : decode cX0_countValue 68 = .ok (.aload_n 0, 1) := by decide +kernel
theorem dX0_countValue_69 : decode cX0_countValue 69 = .ok (.invokevirtual 188, 3) := by decide +kernel
theorem dX0_countValue_72 : decode cX0_countValue 72 = .ok (.ireturn, 1) := by decide +kernel
theorem dX0_countValue_73 : decode cX0_countValue 73 = .ok (.aload_n 0, 1) := by decide +kernel
theorem dX0_countValue_74 : decode cX0_countValue 74 = .ok (.invokevirtual 191, 3) := by decide +kernel
theorem dX0_countValue_77 : decode cX0_countValue 77 = .ok (.ireturn, 1) := by decide +kernel
theorem dX0_countValue_78 : decode cX0_countValue 78 = .ok (.aload_n 0, 1) := by decide +kernel
theorem dX0_countValue_79 : decode cX0_countValue 79 = .ok (.getfield 61, 3) := by decide +kernel
theorem dX0_countValue_82 : decode cX0_countValue 82 = .ok (.ireturn, 1) := by decide +kernel
theorem dX0_countValue_83 : decode cX0_countValue 83 = .ok (.aload_n 0, 1) := by decide +kernel
theorem dX0_countValue_84 : decode cX0_countValue 84 = .ok (.getfield 64, 3) := by decide +kernel
theorem dX0_countValue_87 : decode cX0_countValue 87 = .ok (.ireturn, 1) := by decide +kernel
theorem dX0_countValue_88 : decode cX0_countValue 88 = .ok (.aload_n 0, 1) := by decide +kernel
theorem dX0_countValue_89 : decode cX0_countValue 89 = .ok (.getfield 67, 3) := by decide +kernel
theorem dX0_countValue_92 : decode cX0_countValue 92 = .ok (.ireturn, 1) := by decide +kernel
theorem dX1_init_0 : decode cX1_init 0 = .ok (.aload_n 0, 1) := by decide +kernel
theorem dX1_init_1 : decode cX1_init 1 = .ok (.invokespecial 3, 3) := by decide +kernel
theorem dX1_init_4 : decode cX1_init 4 = .ok (.aload_n 0, 1) := by decide +kernel
theorem dX1_init_5 : decode cX1_init 5 = .ok (.bipush 6, 2) := by decide +kernel
theorem dX1_init_7 : decode cX1_init 7 = .ok (.anewarray 9, 3) := by decide +kernel
theorem dX1_init_10 : decode cX1_init 10 = .ok (.putfield 11, 3) := by decide +kernel
theorem dX1_init_13 : decode cX1_init 13 = .ok (.iconst 0, 1) := by decide +kernel
theorem dX1_init_14 : decode cX1_init 14 = .ok (.istore_n 1, 1) := by decide +kernel
theorem dX1_init_15 : decode cX1_init 15 = .ok (.iload_n 1, 1) := by decide +kernel
theorem dX1_init_16 : decode cX1_init 16 = .ok (.aload_n 0, 1) := by decide +kernel
theorem dX1_init_17 : decode cX1_init 17 = .ok (.getfield 11, 3) := by decide +kernel
theorem dX1_init_20 : decode cX1_init 20 = .ok (.arraylength, 1) := by decide +kernel
theorem dX1_init_21 : decode cX1_init 21 = .ok (.if_icmp .ge 22, 3) := by decide +kernel
theorem dX1_init_24 : decode cX1_init 24 = .ok (.aload_n 0, 1) := by decide +kernel
theorem dX1_init_25 : decode cX1_init 25 = .ok (.getfield 11, 3) := by decide +kernel
theorem dX1_init_28 : decode cX1_init 28 = .ok (.iload_n 1, 1) := by decide +kernel
theorem dX1_init_29 : decode cX1_init 29 = .ok (.new 9, 3) := by decide +kernel
theorem dX1_init_32 : decode cX1_init 32 = .ok (.dup, 1) := by decide +kernel
theorem dX1_init_33 : decode cX1_init 33 = .ok (.invokespecial 17, 3) := by decide +kernel
theorem dX1_init_36 : decode cX1_init 36 = .ok (.aastore, 1) := by decide +kernel
theorem dX1_init_37 : decode cX1_init 37 = .ok (.iinc 1 1, 3) := by decide +kernel
theorem dX1_init_40 : decode cX1_init 40 = .ok (.goto (-25), 3) := by decide +kernel
theorem dX1_init_43 : decode cX1_init 43 = .ok (.return_, 1) := by decide +kernel
theorem dX1_bookAt_0 : decode cX1_bookAt 0 = .ok (.iload_n 1, 1) := by decide +kernel
theorem dX1_bookAt_1 : decode cX1_bookAt 1 = .ok (.ifCond .lt 21, 3) := by decide +kernel
theorem dX1_bookAt_4 : decode cX1_bookAt 4 = .ok (.iload_n 1, 1) := by decide +kernel
theorem dX1_bookAt_5 : decode cX1_bookAt 5 = .ok (.aload_n 0, 1) := by decide +kernel
theorem dX1_bookAt_6 : decode cX1_bookAt 6 = .ok (.getfield 11, 3) := by decide +kernel
theorem dX1_bookAt_9 : decode cX1_bookAt 9 = .ok (.arraylength, 1) := by decide +kernel
theorem dX1_bookAt_10 : decode cX1_bookAt 10 = .ok (.if_icmp .ge 12, 3) := by decide +kernel
theorem dX1_bookAt_13 : decode cX1_bookAt 13 = .ok (.aload_n 0, 1) := by decide +kernel
theorem dX1_bookAt_14 : decode cX1_bookAt 14 = .ok (.getfield 11, 3) := by decide +kernel
theorem dX1_bookAt_17 : decode cX1_bookAt 17 = .ok (.iload_n 1, 1) := by decide +kernel
theorem dX1_bookAt_18 : decode cX1_bookAt 18 = .ok (.aaload, 1) := by decide +kernel
theorem dX1_bookAt_19 : decode cX1_bookAt 19 = .ok (.goto 4, 3) := by decide +kernel
theorem dX1_bookAt_22 : decode cX1_bookAt 22 = .ok (.aconst_null, 1) := by decide +kernel
theorem dX1_bookAt_23 : decode cX1_bookAt 23 = .ok (.areturn, 1) := by decide +kernel
theorem dX1_keep_0 : decode cX1_keep 0 = .ok (.aload_n 0, 1) := by decide +kernel
theorem dX1_keep_1 : decode cX1_keep 1 = .ok (.aload_n 0, 1) := by decide +kernel
theorem dX1_keep_2 : decode cX1_keep 2 = .ok (.getfield 18, 3) := by decide +kernel
theorem dX1_keep_5 : decode cX1_keep 5 = .ok (.invokevirtual 22, 3) := by decide +kernel
theorem dX1_keep_8 : decode cX1_keep 8 = .ok (.astore_n 2, 1) := by decide +kernel
theorem dX1_keep_9 : decode cX1_keep 9 = .ok (.aload_n 2, 1) := by decide +kernel
theorem dX1_keep_10 : decode cX1_keep 10 = .ok (.ifnonnull 4, 3) := by decide +kernel
theorem dX1_keep_13 : decode cX1_keep 13 = .ok (.return_, 1) := by decide +kernel
theorem dX1_keep_14 : decode cX1_keep 14 = .ok (.aload_n 2, 1) := by decide +kernel
theorem dX1_keep_15 : decode cX1_keep 15 = .ok (.aload_n 1, 1) := by decide +kernel
theorem dX1_keep_16 : decode cX1_keep 16 = .ok (.invokevirtual 26, 3) := by decide +kernel
theorem dX1_keep_19 : decode cX1_keep 19 = .ok (.aload_n 0, 1) := by decide +kernel
theorem dX1_keep_20 : decode cX1_keep 20 = .ok (.aload_n 0, 1) := by decide +kernel
theorem dX1_keep_21 : decode cX1_keep 21 = .ok (.getfield 18, 3) := by decide +kernel
theorem dX1_keep_24 : decode cX1_keep 24 = .ok (.iconst 1, 1) := by decide +kernel
theorem dX1_keep_25 : decode cX1_keep 25 = .ok (.iadd, 1) := by decide +kernel
theorem dX1_keep_26 : decode cX1_keep 26 = .ok (.bipush 6, 2) := by decide +kernel
theorem dX1_keep_28 : decode cX1_keep 28 = .ok (.irem, 1) := by decide +kernel
theorem dX1_keep_29 : decode cX1_keep 29 = .ok (.putfield 18, 3) := by decide +kernel
theorem dX1_keep_32 : decode cX1_keep 32 = .ok (.aload_n 0, 1) := by decide +kernel
theorem dX1_keep_33 : decode cX1_keep 33 = .ok (.aload_n 0, 1) := by decide +kernel
theorem dX1_keep_34 : decode cX1_keep 34 = .ok (.getfield 30, 3) := by decide +kernel
theorem dX1_keep_37 : decode cX1_keep 37 = .ok (.iconst 1, 1) := by decide +kernel
theorem dX1_keep_38 : decode cX1_keep 38 = .ok (.iadd, 1) := by decide +kernel
theorem dX1_keep_39 : decode cX1_keep 39 = .ok (.bipush 6, 2) := by decide +kernel
theorem dX1_keep_41 : decode cX1_keep 41 = .ok (.invokestatic 33, 3) := by decide +kernel
theorem dX1_keep_44 : decode cX1_keep 44 = .ok (.putfield 30, 3) := by decide +kernel
theorem dX1_keep_47 : decode cX1_keep 47 = .ok (.return_, 1) := by decide +kernel
theorem dX1_giveBack_0 : decode cX1_giveBack 0 = .ok (.aload_n 1, 1) := by decide +kernel
theorem dX1_giveBack_1 : decode cX1_giveBack 1 = .ok (.ifnull 11, 3) := by decide +kernel
theorem dX1_giveBack_4 : decode cX1_giveBack 4 = .ok (.aload_n 0, 1) := by decide +kernel
theorem dX1_giveBack_5 : decode cX1_giveBack 5 = .ok (.getfield 30, 3) := by decide +kernel
theorem dX1_giveBack_8 : decode cX1_giveBack 8 = .ok (.iconst 1, 1) := by decide +kernel
theorem dX1_giveBack_9 : decode cX1_giveBack 9 = .ok (.if_icmp .ge 4, 3) := by decide +kernel
theorem dX1_giveBack_12 : decode cX1_giveBack 12 = .ok (.return_, 1) := by decide +kernel
theorem dX1_giveBack_13 : decode cX1_giveBack 13 = .ok (.aload_n 0, 1) := by decide +kernel
theorem dX1_giveBack_14 : decode cX1_giveBack 14 = .ok (.aload_n 0, 1) := by decide +kernel
theorem dX1_giveBack_15 : decode cX1_giveBack 15 = .ok (.getfield 18, 3) := by decide +kernel
theorem dX1_giveBack_18 : decode cX1_giveBack 18 = .ok (.bipush 6, 2) := by decide +kernel
theorem dX1_giveBack_20 : decode cX1_giveBack 20 = .ok (.iadd, 1) := by decide +kernel
theorem dX1_giveBack_21 : decode cX1_giveBack 21 = .ok (.iconst 1, 1) := by decide +kernel
theorem dX1_giveBack_22 : decode cX1_giveBack 22 = .ok (.isub, 1) := by decide +kernel
theorem dX1_giveBack_23 : decode cX1_giveBack 23 = .ok (.bipush 6, 2) := by decide +kernel
theorem dX1_giveBack_25 : decode cX1_giveBack 25 = .ok (.irem, 1) := by decide +kernel
theorem dX1_giveBack_26 : decode cX1_giveBack 26 = .ok (.putfield 18, 3) := by decide +kernel
theorem dX1_giveBack_29 : decode cX1_giveBack 29 = .ok (.aload_n 1, 1) := by decide +kernel
theorem dX1_giveBack_30 : decode cX1_giveBack 30 = .ok (.aload_n 0, 1) := by decide +kernel
theorem dX1_giveBack_31 : decode cX1_giveBack 31 = .ok (.aload_n 0, 1) := by decide +kernel
theorem dX1_giveBack_32 : decode cX1_giveBack 32 = .ok (.getfield 18, 3) := by decide +kernel
theorem dX1_giveBack_35 : decode cX1_giveBack 35 = .ok (.invokevirtual 22, 3) := by decide +kernel
theorem dX1_giveBack_38 : decode cX1_giveBack 38 = .ok (.invokevirtual 26, 3) := by decide +kernel
theorem dX1_giveBack_41 : decode cX1_giveBack 41 = .ok (.aload_n 0, 1) := by decide +kernel
theorem dX1_giveBack_42 : decode cX1_giveBack 42 = .ok (.dup, 1) := by decide +kernel
theorem dX1_giveBack_43 : decode cX1_giveBack 43 = .ok (.getfield 30, 3) := by decide +kernel
theorem dX1_giveBack_46 : decode cX1_giveBack 46 = .ok (.iconst 1, 1) := by decide +kernel
theorem dX1_giveBack_47 : decode cX1_giveBack 47 = .ok (.isub, 1) := by decide +kernel
theorem dX1_giveBack_48 : decode cX1_giveBack 48 = .ok (.putfield 30, 3) := by decide +kernel
theorem dX1_giveBack_51 : decode cX1_giveBack 51 = .ok (.return_, 1) := by decide +kernel
theorem dX2_init_0 : decode cX2_init 0 = .ok (.aload_n 0, 1) := by decide +kernel
theorem dX2_init_1 : decode cX2_init 1 = .ok (.invokespecial 3, 3) := by decide +kernel
theorem dX2_init_4 : decode cX2_init 4 = .ok (.aload_n 0, 1) := by decide +kernel
theorem dX2_init_5 : decode cX2_init 5 = .ok (.bipush 60, 2) := by decide +kernel
theorem dX2_init_7 : decode cX2_init 7 = .ok (.newarray .int, 2) := by decide +kernel
theorem dX2_init_9 : decode cX2_init 9 = .ok (.putfield 9, 3) := by decide +kernel
theorem dX2_init_12 : decode cX2_init 12 = .ok (.return_, 1) := by decide +kernel
theorem dX2_write_0 : decode cX2_write 0 = .ok (.aload_n 0, 1) := by decide +kernel
theorem dX2_write_1 : decode cX2_write 1 = .ok (.getfield 15, 3) := by decide +kernel
theorem dX2_write_4 : decode cX2_write 4 = .ok (.bipush 60, 2) := by decide +kernel
theorem dX2_write_6 : decode cX2_write 6 = .ok (.if_icmp .ge 25, 3) := by decide +kernel
theorem dX2_write_9 : decode cX2_write 9 = .ok (.aload_n 0, 1) := by decide +kernel
theorem dX2_write_10 : decode cX2_write 10 = .ok (.getfield 9, 3) := by decide +kernel
theorem dX2_write_13 : decode cX2_write 13 = .ok (.aload_n 0, 1) := by decide +kernel
theorem dX2_write_14 : decode cX2_write 14 = .ok (.getfield 15, 3) := by decide +kernel
theorem dX2_write_17 : decode cX2_write 17 = .ok (.iload_n 1, 1) := by decide +kernel
theorem dX2_write_18 : decode cX2_write 18 = .ok (.invokestatic 19, 3) := by decide +kernel
theorem dX2_write_21 : decode cX2_write 21 = .ok (.aload_n 0, 1) := by decide +kernel
theorem dX2_write_22 : decode cX2_write 22 = .ok (.dup, 1) := by decide +kernel
theorem dX2_write_23 : decode cX2_write 23 = .ok (.getfield 15, 3) := by decide +kernel
theorem dX2_write_26 : decode cX2_write 26 = .ok (.iconst 1, 1) := by decide +kernel
theorem dX2_write_27 : decode cX2_write 27 = .ok (.iadd, 1) := by decide +kernel
theorem dX2_write_28 : decode cX2_write 28 = .ok (.putfield 15, 3) := by decide +kernel
theorem dX2_write_31 : decode cX2_write 31 = .ok (.return_, 1) := by decide +kernel
theorem dX2_wipe_0 : decode cX2_wipe 0 = .ok (.aload_n 0, 1) := by decide +kernel
theorem dX2_wipe_1 : decode cX2_wipe 1 = .ok (.iconst 0, 1) := by decide +kernel
theorem dX2_wipe_2 : decode cX2_wipe 2 = .ok (.putfield 15, 3) := by decide +kernel
theorem dX2_wipe_5 : decode cX2_wipe 5 = .ok (.return_, 1) := by decide +kernel
theorem dX2_rewind_0 : decode cX2_rewind 0 = .ok (.aload_n 0, 1) := by decide +kernel
theorem dX2_rewind_1 : decode cX2_rewind 1 = .ok (.iconst 0, 1) := by decide +kernel
theorem dX2_rewind_2 : decode cX2_rewind 2 = .ok (.putfield 23, 3) := by decide +kernel
theorem dX2_rewind_5 : decode cX2_rewind 5 = .ok (.return_, 1) := by decide +kernel
theorem dX2_sign_0 : decode cX2_sign 0 = .ok (.aload_n 0, 1) := by decide +kernel
theorem dX2_sign_1 : decode cX2_sign 1 = .ok (.getfield 23, 3) := by decide +kernel
theorem dX2_sign_4 : decode cX2_sign 4 = .ok (.aload_n 0, 1) := by decide +kernel
theorem dX2_sign_5 : decode cX2_sign 5 = .ok (.getfield 15, 3) := by decide +kernel
theorem dX2_sign_8 : decode cX2_sign 8 = .ok (.if_icmp .ge 17, 3) := by decide +kernel
theorem dX2_sign_11 : decode cX2_sign 11 = .ok (.aload_n 0, 1) := by decide +kernel
theorem dX2_sign_12 : decode cX2_sign 12 = .ok (.getfield 9, 3) := by decide +kernel
theorem dX2_sign_15 : decode cX2_sign 15 = .ok (.aload_n 0, 1) := by decide +kernel
theorem dX2_sign_16 : decode cX2_sign 16 = .ok (.getfield 23, 3) := by decide +kernel
theorem dX2_sign_19 : decode cX2_sign 19 = .ok (.invokestatic 26, 3) := by decide +kernel
theorem dX2_sign_22 : decode cX2_sign 22 = .ok (.goto 4, 3) := by decide +kernel
theorem dX2_sign_25 : decode cX2_sign 25 = .ok (.iconst (-1), 1) := by decide +kernel
theorem dX2_sign_26 : decode cX2_sign 26 = .ok (.ireturn, 1) := by decide +kernel
theorem dX2_digit_0 : decode cX2_digit 0 = .ok (.aload_n 0, 1) := by decide +kernel
theorem dX2_digit_1 : decode cX2_digit 1 = .ok (.getfield 23, 3) := by decide +kernel
theorem dX2_digit_4 : decode cX2_digit 4 = .ok (.aload_n 0, 1) := by decide +kernel
theorem dX2_digit_5 : decode cX2_digit 5 = .ok (.getfield 15, 3) := by decide +kernel
theorem dX2_digit_8 : decode cX2_digit 8 = .ok (.if_icmp .ge 17, 3) := by decide +kernel
theorem dX2_digit_11 : decode cX2_digit 11 = .ok (.aload_n 0, 1) := by decide +kernel
theorem dX2_digit_12 : decode cX2_digit 12 = .ok (.getfield 9, 3) := by decide +kernel
theorem dX2_digit_15 : decode cX2_digit 15 = .ok (.aload_n 0, 1) := by decide +kernel
theorem dX2_digit_16 : decode cX2_digit 16 = .ok (.getfield 23, 3) := by decide +kernel
theorem dX2_digit_19 : decode cX2_digit 19 = .ok (.invokestatic 26, 3) := by decide +kernel
theorem dX2_digit_22 : decode cX2_digit 22 = .ok (.goto 4, 3) := by decide +kernel
theorem dX2_digit_25 : decode cX2_digit 25 = .ok (.iconst (-1), 1) := by decide +kernel
theorem dX2_digit_26 : decode cX2_digit 26 = .ok (.istore_n 1, 1) := by decide +kernel
theorem dX2_digit_27 : decode cX2_digit 27 = .ok (.iload_n 1, 1) := by decide +kernel
theorem dX2_digit_28 : decode cX2_digit 28 = .ok (.bipush 48, 2) := by decide +kernel
theorem dX2_digit_30 : decode cX2_digit 30 = .ok (.if_icmp .lt 16, 3) := by decide +kernel
theorem dX2_digit_33 : decode cX2_digit 33 = .ok (.iload_n 1, 1) := by decide +kernel
theorem dX2_digit_34 : decode cX2_digit 34 = .ok (.bipush 57, 2) := by decide +kernel
theorem dX2_digit_36 : decode cX2_digit 36 = .ok (.if_icmp .gt 10, 3) := by decide +kernel
theorem dX2_digit_39 : decode cX2_digit 39 = .ok (.iload_n 1, 1) := by decide +kernel
theorem dX2_digit_40 : decode cX2_digit 40 = .ok (.bipush 48, 2) := by decide +kernel
theorem dX2_digit_42 : decode cX2_digit 42 = .ok (.isub, 1) := by decide +kernel
theorem dX2_digit_43 : decode cX2_digit 43 = .ok (.goto 4, 3) := by decide +kernel
theorem dX2_digit_46 : decode cX2_digit 46 = .ok (.iconst (-1), 1) := by decide +kernel
theorem dX2_digit_47 : decode cX2_digit 47 = .ok (.ireturn, 1) := by decide +kernel
theorem dX2_readSign_0 : decode cX2_readSign 0 = .ok (.aload_n 0, 1) := by decide +kernel
theorem dX2_readSign_1 : decode cX2_readSign 1 = .ok (.invokevirtual 30, 3) := by decide +kernel
theorem dX2_readSign_4 : decode cX2_readSign 4 = .ok (.iload_n 1, 1) := by decide +kernel
theorem dX2_readSign_5 : decode cX2_readSign 5 = .ok (.if_icmp .eq 5, 3) := by decide +kernel
theorem dX2_readSign_8 : decode cX2_readSign 8 = .ok (.iconst 0, 1) := by decide +kernel
theorem dX2_readSign_9 : decode cX2_readSign 9 = .ok (.ireturn, 1) := by decide +kernel
theorem dX2_readSign_10 : decode cX2_readSign 10 = .ok (.aload_n 0, 1) := by decide +kernel
theorem dX2_readSign_11 : decode cX2_readSign 11 = .ok (.dup, 1) := by decide +kernel
theorem dX2_readSign_12 : decode cX2_readSign 12 = .ok (.getfield 23, 3) := by decide +kernel
theorem dX2_readSign_15 : decode cX2_readSign 15 = .ok (.iconst 1, 1) := by decide +kernel
theorem dX2_readSign_16 : decode cX2_readSign 16 = .ok (.iadd, 1) := by decide +kernel
theorem dX2_readSign_17 : decode cX2_readSign 17 = .ok (.putfield 23, 3) := by decide +kernel
theorem dX2_readSign_20 : decode cX2_readSign 20 = .ok (.iconst 1, 1) := by decide +kernel
theorem dX2_readSign_21 : decode cX2_readSign 21 = .ok (.ireturn, 1) := by decide +kernel
theorem dX2_readNumber_0 : decode cX2_readNumber 0 = .ok (.aload_n 0, 1) := by decide +kernel
theorem dX2_readNumber_1 : decode cX2_readNumber 1 = .ok (.invokevirtual 34, 3) := by decide +kernel
theorem dX2_readNumber_4 : decode cX2_readNumber 4 = .ok (.istore_n 3, 1) := by decide +kernel
theorem dX2_readNumber_5 : decode cX2_readNumber 5 = .ok (.iload_n 3, 1) := by decide +kernel
theorem dX2_readNumber_6 : decode cX2_readNumber 6 = .ok (.iconst (-1), 1) := by decide +kernel
theorem dX2_readNumber_7 : decode cX2_readNumber 7 = .ok (.if_icmp .eq 13, 3) := by decide +kernel
theorem dX2_readNumber_10 : decode cX2_readNumber 10 = .ok (.iload_n 3, 1) := by decide +kernel
theorem dX2_readNumber_11 : decode cX2_readNumber 11 = .ok (.iload_n 1, 1) := by decide +kernel
theorem dX2_readNumber_12 : decode cX2_readNumber 12 = .ok (.if_icmp .lt 8, 3) := by decide +kernel
theorem dX2_readNumber_15 : decode cX2_readNumber 15 = .ok (.iload_n 3, 1) := by decide +kernel
theorem dX2_readNumber_16 : decode cX2_readNumber 16 = .ok (.iload_n 2, 1) := by decide +kernel
theorem dX2_readNumber_17 : decode cX2_readNumber 17 = .ok (.if_icmp .le 5, 3) := by decide +kernel
theorem dX2_readNumber_20 : decode cX2_readNumber 20 = .ok (.iconst (-1), 1) := by decide +kernel
theorem dX2_readNumber_21 : decode cX2_readNumber 21 = .ok (.ireturn, 1) := by decide +kernel
theorem dX2_readNumber_22 : decode cX2_readNumber 22 = .ok (.aload_n 0, 1) := by decide +kernel
theorem dX2_readNumber_23 : decode cX2_readNumber 23 = .ok (.dup, 1) := by decide +kernel
theorem dX2_readNumber_24 : decode cX2_readNumber 24 = .ok (.getfield 23, 3) := by decide +kernel
theorem dX2_readNumber_27 : decode cX2_readNumber 27 = .ok (.iconst 1, 1) := by decide +kernel
theorem dX2_readNumber_28 : decode cX2_readNumber 28 = .ok (.iadd, 1) := by decide +kernel
theorem dX2_readNumber_29 : decode cX2_readNumber 29 = .ok (.putfield 23, 3) := by decide +kernel
theorem dX2_readNumber_32 : decode cX2_readNumber 32 = .ok (.aload_n 0, 1) := by decide +kernel
theorem dX2_readNumber_33 : decode cX2_readNumber 33 = .ok (.invokevirtual 34, 3) := by decide +kernel
theorem dX2_readNumber_36 : decode cX2_readNumber 36 = .ok (.istore 4, 2) := by decide +kernel
theorem dX2_readNumber_38 : decode cX2_readNumber 38 = .ok (.iload_n 3, 1) := by decide +kernel
theorem dX2_readNumber_39 : decode cX2_readNumber 39 = .ok (.ifCond .eq 20, 3) := by decide +kernel
theorem dX2_readNumber_42 : decode cX2_readNumber 42 = .ok (.iload 4, 2) := by decide +kernel
theorem dX2_readNumber_44 : decode cX2_readNumber 44 = .ok (.iconst (-1), 1) := by decide +kernel
theorem dX2_readNumber_45 : decode cX2_readNumber 45 = .ok (.if_icmp .eq 14, 3) := by decide +kernel
theorem dX2_readNumber_48 : decode cX2_readNumber 48 = .ok (.iload_n 3, 1) := by decide +kernel
theorem dX2_readNumber_49 : decode cX2_readNumber 49 = .ok (.bipush 10, 2) := by decide +kernel
theorem dX2_readNumber_51 : decode cX2_readNumber 51 = .ok (.imul, 1) := by decide +kernel
theorem dX2_readNumber_52 : decode cX2_readNumber 52 = .ok (.iload 4, 2) := by decide +kernel
theorem dX2_readNumber_54 : decode cX2_readNumber 54 = .ok (.iadd, 1) := by decide +kernel
theorem dX2_readNumber_55 : decode cX2_readNumber 55 = .ok (.iload_n 2, 1) := by decide +kernel
theorem dX2_readNumber_56 : decode cX2_readNumber 56 = .ok (.if_icmp .le 5, 3) := by decide +kernel
theorem dX2_readNumber_59 : decode cX2_readNumber 59 = .ok (.iload_n 3, 1) := by decide +kernel
theorem dX2_readNumber_60 : decode cX2_readNumber 60 = .ok (.ireturn, 1) := by decide +kernel
theorem dX2_readNumber_61 : decode cX2_readNumber 61 = .ok (.aload_n 0, 1) := by decide +kernel
theorem dX2_readNumber_62 : decode cX2_readNumber 62 = .ok (.dup, 1) := by decide +kernel
theorem dX2_readNumber_63 : decode cX2_readNumber 63 = .ok (.getfield 23, 3) := by decide +kernel
theorem dX2_readNumber_66 : decode cX2_readNumber 66 = .ok (.iconst 1, 1) := by decide +kernel
theorem dX2_readNumber_67 : decode cX2_readNumber 67 = .ok (.iadd, 1) := by decide +kernel
theorem dX2_readNumber_68 : decode cX2_readNumber 68 = .ok (.putfield 23, 3) := by decide +kernel
theorem dX2_readNumber_71 : decode cX2_readNumber 71 = .ok (.iload_n 3, 1) := by decide +kernel
theorem dX2_readNumber_72 : decode cX2_readNumber 72 = .ok (.bipush 10, 2) := by decide +kernel
theorem dX2_readNumber_74 : decode cX2_readNumber 74 = .ok (.imul, 1) := by decide +kernel
theorem dX2_readNumber_75 : decode cX2_readNumber 75 = .ok (.iload 4, 2) := by decide +kernel
theorem dX2_readNumber_77 : decode cX2_readNumber 77 = .ok (.iadd, 1) := by decide +kernel
theorem dX2_readNumber_78 : decode cX2_readNumber 78 = .ok (.ireturn, 1) := by decide +kernel
theorem dX2_readOrder_0 : decode cX2_readOrder 0 = .ok (.aload_n 0, 1) := by decide +kernel
theorem dX2_readOrder_1 : decode cX2_readOrder 1 = .ok (.aload_n 0, 1) := by decide +kernel
theorem dX2_readOrder_2 : decode cX2_readOrder 2 = .ok (.invokevirtual 30, 3) := by decide +kernel
theorem dX2_readOrder_5 : decode cX2_readOrder 5 = .ok (.putfield 37, 3) := by decide +kernel
theorem dX2_readOrder_8 : decode cX2_readOrder 8 = .ok (.aload_n 0, 1) := by decide +kernel
theorem dX2_readOrder_9 : decode cX2_readOrder 9 = .ok (.getfield 37, 3) := by decide +kernel
theorem dX2_readOrder_12 : decode cX2_readOrder 12 = .ok (.lookupswitch 158 #[(98, 88), (100, 123), (104, 44), (109, 66)], 44) := by decide +kernel
theorem dX2_readOrder_56 : decode cX2_readOrder 56 = .ok (.aload_n 0, 1) := by decide +kernel
theorem dX2_readOrder_57 : decode cX2_readOrder 57 = .ok (.dup, 1) := by decide +kernel
theorem dX2_readOrder_58 : decode cX2_readOrder 58 = .ok (.getfield 23, 3) := by decide +kernel
theorem dX2_readOrder_61 : decode cX2_readOrder 61 = .ok (.iconst 1, 1) := by decide +kernel
theorem dX2_readOrder_62 : decode cX2_readOrder 62 = .ok (.iadd, 1) := by decide +kernel
theorem dX2_readOrder_63 : decode cX2_readOrder 63 = .ok (.putfield 23, 3) := by decide +kernel
theorem dX2_readOrder_66 : decode cX2_readOrder 66 = .ok (.aload_n 0, 1) := by decide +kernel
theorem dX2_readOrder_67 : decode cX2_readOrder 67 = .ok (.iconst 0, 1) := by decide +kernel
theorem dX2_readOrder_68 : decode cX2_readOrder 68 = .ok (.iconst 5, 1) := by decide +kernel
theorem dX2_readOrder_69 : decode cX2_readOrder 69 = .ok (.bipush 42, 2) := by decide +kernel
theorem dX2_readOrder_71 : decode cX2_readOrder 71 = .ok (.iconst 1, 1) := by decide +kernel
theorem dX2_readOrder_72 : decode cX2_readOrder 72 = .ok (.bipush 24, 2) := by decide +kernel
theorem dX2_readOrder_74 : decode cX2_readOrder 74 = .ok (.invokevirtual 40, 3) := by decide +kernel
theorem dX2_readOrder_77 : decode cX2_readOrder 77 = .ok (.ireturn, 1) := by decide +kernel
theorem dX2_readOrder_78 : decode cX2_readOrder 78 = .ok (.aload_n 0, 1) := by decide +kernel
theorem dX2_readOrder_79 : decode cX2_readOrder 79 = .ok (.dup, 1) := by decide +kernel
theorem dX2_readOrder_80 : decode cX2_readOrder 80 = .ok (.getfield 23, 3) := by decide +kernel
theorem dX2_readOrder_83 : decode cX2_readOrder 83 = .ok (.iconst 1, 1) := by decide +kernel
theorem dX2_readOrder_84 : decode cX2_readOrder 84 = .ok (.iadd, 1) := by decide +kernel
theorem dX2_readOrder_85 : decode cX2_readOrder 85 = .ok (.putfield 23, 3) := by decide +kernel
theorem dX2_readOrder_88 : decode cX2_readOrder 88 = .ok (.aload_n 0, 1) := by decide +kernel
theorem dX2_readOrder_89 : decode cX2_readOrder 89 = .ok (.iconst 0, 1) := by decide +kernel
theorem dX2_readOrder_90 : decode cX2_readOrder 90 = .ok (.bipush 23, 2) := by decide +kernel
theorem dX2_readOrder_92 : decode cX2_readOrder 92 = .ok (.bipush 62, 2) := by decide +kernel
theorem dX2_readOrder_94 : decode cX2_readOrder 94 = .ok (.iconst 0, 1) := by decide +kernel
theorem dX2_readOrder_95 : decode cX2_readOrder 95 = .ok (.iconst 5, 1) := by decide +kernel
theorem dX2_readOrder_96 : decode cX2_readOrder 96 = .ok (.invokevirtual 40, 3) := by decide +kernel
theorem dX2_readOrder_99 : decode cX2_readOrder 99 = .ok (.ireturn, 1) := by decide +kernel
theorem dX2_readOrder_100 : decode cX2_readOrder 100 = .ok (.aload_n 0, 1) := by decide +kernel
theorem dX2_readOrder_101 : decode cX2_readOrder 101 = .ok (.dup, 1) := by decide +kernel
theorem dX2_readOrder_102 : decode cX2_readOrder 102 = .ok (.getfield 23, 3) := by decide +kernel
theorem dX2_readOrder_105 : decode cX2_readOrder 105 = .ok (.iconst 1, 1) := by decide +kernel
theorem dX2_readOrder_106 : decode cX2_readOrder 106 = .ok (.iadd, 1) := by decide +kernel
theorem dX2_readOrder_107 : decode cX2_readOrder 107 = .ok (.putfield 23, 3) := by decide +kernel
theorem dX2_readOrder_110 : decode cX2_readOrder 110 = .ok (.aload_n 0, 1) := by decide +kernel
theorem dX2_readOrder_111 : decode cX2_readOrder 111 = .ok (.aload_n 0, 1) := by decide +kernel
theorem dX2_readOrder_112 : decode cX2_readOrder 112 = .ok (.iconst 0, 1) := by decide +kernel
theorem dX2_readOrder_113 : decode cX2_readOrder 113 = .ok (.bipush 23, 2) := by decide +kernel
theorem dX2_readOrder_115 : decode cX2_readOrder 115 = .ok (.invokevirtual 44, 3) := by decide +kernel
theorem dX2_readOrder_118 : decode cX2_readOrder 118 = .ok (.putfield 48, 3) := by decide +kernel
theorem dX2_readOrder_121 : decode cX2_readOrder 121 = .ok (.aload_n 0, 1) := by decide +kernel
theorem dX2_readOrder_122 : decode cX2_readOrder 122 = .ok (.getfield 48, 3) := by decide +kernel
theorem dX2_readOrder_125 : decode cX2_readOrder 125 = .ok (.iconst (-1), 1) := by decide +kernel
theorem dX2_readOrder_126 : decode cX2_readOrder 126 = .ok (.if_icmp .eq 7, 3) := by decide +kernel
theorem dX2_readOrder_129 : decode cX2_readOrder 129 = .ok (.iconst 1, 1) := by decide +kernel
theorem dX2_readOrder_130 : decode cX2_readOrder 130 = .ok (.goto 4, 3) := by decide +kernel
theorem dX2_readOrder_133 : decode cX2_readOrder 133 = .ok (.iconst 0, 1) := by decide +kernel
theorem dX2_readOrder_134 : decode cX2_readOrder 134 = .ok (.ireturn, 1) := by decide +kernel
theorem dX2_readOrder_135 : decode cX2_readOrder 135 = .ok (.aload_n 0, 1) := by decide +kernel
theorem dX2_readOrder_136 : decode cX2_readOrder 136 = .ok (.dup, 1) := by decide +kernel
theorem dX2_readOrder_137 : decode cX2_readOrder 137 = .ok (.getfield 23, 3) := by decide +kernel
theorem dX2_readOrder_140 : decode cX2_readOrder 140 = .ok (.iconst 1, 1) := by decide +kernel
theorem dX2_readOrder_141 : decode cX2_readOrder 141 = .ok (.iadd, 1) := by decide +kernel
theorem dX2_readOrder_142 : decode cX2_readOrder 142 = .ok (.putfield 23, 3) := by decide +kernel
theorem dX2_readOrder_145 : decode cX2_readOrder 145 = .ok (.aload_n 0, 1) := by decide +kernel
theorem dX2_readOrder_146 : decode cX2_readOrder 146 = .ok (.aload_n 0, 1) := by decide +kernel
theorem dX2_readOrder_147 : decode cX2_readOrder 147 = .ok (.iconst 1, 1) := by decide +kernel
theorem dX2_readOrder_148 : decode cX2_readOrder 148 = .ok (.bipush 99, 2) := by decide +kernel
theorem dX2_readOrder_150 : decode cX2_readOrder 150 = .ok (.invokevirtual 44, 3) := by decide +kernel
theorem dX2_readOrder_153 : decode cX2_readOrder 153 = .ok (.putfield 48, 3) := by decide +kernel
theorem dX2_readOrder_156 : decode cX2_readOrder 156 = .ok (.aload_n 0, 1) := by decide +kernel
theorem dX2_readOrder_157 : decode cX2_readOrder 157 = .ok (.getfield 48, 3) := by decide +kernel
theorem dX2_readOrder_160 : decode cX2_readOrder 160 = .ok (.iconst (-1), 1) := by decide +kernel
theorem dX2_readOrder_161 : decode cX2_readOrder 161 = .ok (.if_icmp .eq 7, 3) := by decide +kernel
theorem dX2_readOrder_164 : decode cX2_readOrder 164 = .ok (.iconst 1, 1) := by decide +kernel
theorem dX2_readOrder_165 : decode cX2_readOrder 165 = .ok (.goto 4, 3) := by decide +kernel
theorem dX2_readOrder_168 : decode cX2_readOrder 168 = .ok (.iconst 0, 1) := by decide +kernel
theorem dX2_readOrder_169 : decode cX2_readOrder 169 = .ok (.ireturn, 1) := by decide +kernel
theorem dX2_readOrder_170 : decode cX2_readOrder 170 = .ok (.iconst 0, 1) := by decide +kernel
theorem dX2_readOrder_171 : decode cX2_readOrder 171 = .ok (.ireturn, 1) := by decide +kernel
theorem dX2_readPair_0 : decode cX2_readPair 0 = .ok (.aload_n 0, 1) := by decide +kernel
theorem dX2_readPair_1 : decode cX2_readPair 1 = .ok (.aload_n 0, 1) := by decide +kernel
theorem dX2_readPair_2 : decode cX2_readPair 2 = .ok (.iload_n 1, 1) := by decide +kernel
theorem dX2_readPair_3 : decode cX2_readPair 3 = .ok (.iload_n 2, 1) := by decide +kernel
theorem dX2_readPair_4 : decode cX2_readPair 4 = .ok (.invokevirtual 44, 3) := by decide +kernel
theorem dX2_readPair_7 : decode cX2_readPair 7 = .ok (.putfield 48, 3) := by decide +kernel
theorem dX2_readPair_10 : decode cX2_readPair 10 = .ok (.aload_n 0, 1) := by decide +kernel
theorem dX2_readPair_11 : decode cX2_readPair 11 = .ok (.getfield 48, 3) := by decide +kernel
theorem dX2_readPair_14 : decode cX2_readPair 14 = .ok (.iconst (-1), 1) := by decide +kernel
theorem dX2_readPair_15 : decode cX2_readPair 15 = .ok (.if_icmp .eq 11, 3) := by decide +kernel
theorem dX2_readPair_18 : decode cX2_readPair 18 = .ok (.aload_n 0, 1) := by decide +kernel
theorem dX2_readPair_19 : decode cX2_readPair 19 = .ok (.iload_n 3, 1) := by decide +kernel
theorem dX2_readPair_20 : decode cX2_readPair 20 = .ok (.invokevirtual 51, 3) := by decide +kernel
theorem dX2_readPair_23 : decode cX2_readPair 23 = .ok (.ifCond .ne 5, 3) := by decide +kernel
theorem dX2_readPair_26 : decode cX2_readPair 26 = .ok (.iconst 0, 1) := by decide +kernel
theorem dX2_readPair_27 : decode cX2_readPair 27 = .ok (.ireturn, 1) := by decide +kernel
theorem dX2_readPair_28 : decode cX2_readPair 28 = .ok (.aload_n 0, 1) := by decide +kernel
theorem dX2_readPair_29 : decode cX2_readPair 29 = .ok (.aload_n 0, 1) := by decide +kernel
theorem dX2_readPair_30 : decode cX2_readPair 30 = .ok (.iload 4, 2) := by decide +kernel
theorem dX2_readPair_32 : decode cX2_readPair 32 = .ok (.iload 5, 2) := by decide +kernel
theorem dX2_readPair_34 : decode cX2_readPair 34 = .ok (.invokevirtual 44, 3) := by decide +kernel
theorem dX2_readPair_37 : decode cX2_readPair 37 = .ok (.putfield 55, 3) := by decide +kernel
theorem dX2_readPair_40 : decode cX2_readPair 40 = .ok (.aload_n 0, 1) := by decide +kernel
theorem dX2_readPair_41 : decode cX2_readPair 41 = .ok (.getfield 55, 3) := by decide +kernel
theorem dX2_readPair_44 : decode cX2_readPair 44 = .ok (.iconst (-1), 1) := by decide +kernel
theorem dX2_readPair_45 : decode cX2_readPair 45 = .ok (.if_icmp .eq 7, 3) := by decide +kernel
theorem dX2_readPair_48 : decode cX2_readPair 48 = .ok (.iconst 1, 1) := by decide +kernel
theorem dX2_readPair_49 : decode cX2_readPair 49 = .ok (.goto 4, 3) := by decide +kernel
theorem dX2_readPair_52 : decode cX2_readPair 52 = .ok (.iconst 0, 1) := by decide +kernel
theorem dX2_readPair_53 : decode cX2_readPair 53 = .ok (.ireturn, 1) := by decide +kernel
theorem dX2_firstFault_0 : decode cX2_firstFault 0 = .ok (.aload_n 0, 1) := by decide +kernel
theorem dX2_firstFault_1 : decode cX2_firstFault 1 = .ok (.invokevirtual 58, 3) := by decide +kernel
theorem dX2_firstFault_4 : decode cX2_firstFault 4 = .ok (.iconst 0, 1) := by decide +kernel
theorem dX2_firstFault_5 : decode cX2_firstFault 5 = .ok (.istore_n 1, 1) := by decide +kernel
theorem dX2_firstFault_6 : decode cX2_firstFault 6 = .ok (.iload_n 1, 1) := by decide +kernel
theorem dX2_firstFault_7 : decode cX2_firstFault 7 = .ok (.bipush 60, 2) := by decide +kernel
theorem dX2_firstFault_9 : decode cX2_firstFault 9 = .ok (.if_icmp .ge 30, 3) := by decide +kernel
theorem dX2_firstFault_12 : decode cX2_firstFault 12 = .ok (.aload_n 0, 1) := by decide +kernel
theorem dX2_firstFault_13 : decode cX2_firstFault 13 = .ok (.invokevirtual 61, 3) := by decide +kernel
theorem dX2_firstFault_16 : decode cX2_firstFault 16 = .ok (.ifCond .eq 12, 3) := by decide +kernel
theorem dX2_firstFault_19 : decode cX2_firstFault 19 = .ok (.aload_n 0, 1) := by decide +kernel
theorem dX2_firstFault_20 : decode cX2_firstFault 20 = .ok (.bipush 59, 2) := by decide +kernel
theorem dX2_firstFault_22 : decode cX2_firstFault 22 = .ok (.invokevirtual 51, 3) := by decide +kernel
theorem dX2_firstFault_25 : decode cX2_firstFault 25 = .ok (.ifCond .ne 8, 3) := by decide +kernel
theorem dX2_firstFault_28 : decode cX2_firstFault 28 = .ok (.aload_n 0, 1) := by decide +kernel
theorem dX2_firstFault_29 : decode cX2_firstFault 29 = .ok (.getfield 23, 3) := by decide +kernel
theorem dX2_firstFault_32 : decode cX2_firstFault 32 = .ok (.ireturn, 1) := by decide +kernel
theorem dX2_firstFault_33 : decode cX2_firstFault 33 = .ok (.iinc 1 1, 3) := by decide +kernel
theorem dX2_firstFault_36 : decode cX2_firstFault 36 = .ok (.goto (-30), 3) := by decide +kernel
theorem dX2_firstFault_39 : decode cX2_firstFault 39 = .ok (.aload_n 0, 1) := by decide +kernel
theorem dX2_firstFault_40 : decode cX2_firstFault 40 = .ok (.getfield 23, 3) := by decide +kernel
theorem dX2_firstFault_43 : decode cX2_firstFault 43 = .ok (.ireturn, 1) := by decide +kernel
theorem dX2_isRowOfOrders_0 : decode cX2_isRowOfOrders 0 = .ok (.aload_n 0, 1) := by decide +kernel
theorem dX2_isRowOfOrders_1 : decode cX2_isRowOfOrders 1 = .ok (.invokevirtual 58, 3) := by decide +kernel
theorem dX2_isRowOfOrders_4 : decode cX2_isRowOfOrders 4 = .ok (.iconst 0, 1) := by decide +kernel
theorem dX2_isRowOfOrders_5 : decode cX2_isRowOfOrders 5 = .ok (.istore_n 1, 1) := by decide +kernel
theorem dX2_isRowOfOrders_6 : decode cX2_isRowOfOrders 6 = .ok (.iload_n 1, 1) := by decide +kernel
theorem dX2_isRowOfOrders_7 : decode cX2_isRowOfOrders 7 = .ok (.bipush 60, 2) := by decide +kernel
theorem dX2_isRowOfOrders_9 : decode cX2_isRowOfOrders 9 = .ok (.if_icmp .ge 44, 3) := by decide +kernel
theorem dX2_isRowOfOrders_12 : decode cX2_isRowOfOrders 12 = .ok (.aload_n 0, 1) := by decide +kernel
theorem dX2_isRowOfOrders_13 : decode cX2_isRowOfOrders 13 = .ok (.invokevirtual 61, 3) := by decide +kernel
theorem dX2_isRowOfOrders_16 : decode cX2_isRowOfOrders 16 = .ok (.ifCond .ne 5, 3) := by decide +kernel
theorem dX2_isRowOfOrders_19 : decode cX2_isRowOfOrders 19 = .ok (.iconst 0, 1) := by decide +kernel
theorem dX2_isRowOfOrders_20 : decode cX2_isRowOfOrders 20 = .ok (.ireturn, 1) := by decide +kernel
theorem dX2_isRowOfOrders_21 : decode cX2_isRowOfOrders 21 = .ok (.aload_n 0, 1) := by decide +kernel
theorem dX2_isRowOfOrders_22 : decode cX2_isRowOfOrders 22 = .ok (.bipush 59, 2) := by decide +kernel
theorem dX2_isRowOfOrders_24 : decode cX2_isRowOfOrders 24 = .ok (.invokevirtual 51, 3) := by decide +kernel
theorem dX2_isRowOfOrders_27 : decode cX2_isRowOfOrders 27 = .ok (.ifCond .ne 20, 3) := by decide +kernel
theorem dX2_isRowOfOrders_30 : decode cX2_isRowOfOrders 30 = .ok (.aload_n 0, 1) := by decide +kernel
theorem dX2_isRowOfOrders_31 : decode cX2_isRowOfOrders 31 = .ok (.getfield 23, 3) := by decide +kernel
theorem dX2_isRowOfOrders_34 : decode cX2_isRowOfOrders 34 = .ok (.aload_n 0, 1) := by decide +kernel
theorem dX2_isRowOfOrders_35 : decode cX2_isRowOfOrders 35 = .ok (.getfield 15, 3) := by decide +kernel
theorem dX2_isRowOfOrders_38 : decode cX2_isRowOfOrders 38 = .ok (.if_icmp .lt 7, 3) := by decide +kernel
theorem dX2_isRowOfOrders_41 : decode cX2_isRowOfOrders 41 = .ok (.iconst 1, 1) := by decide +kernel
theorem dX2_isRowOfOrders_42 : decode cX2_isRowOfOrders 42 = .ok (.goto 4, 3) := by decide +kernel
theorem dX2_isRowOfOrders_45 : decode cX2_isRowOfOrders 45 = .ok (.iconst 0, 1) := by decide +kernel
theorem dX2_isRowOfOrders_46 : decode cX2_isRowOfOrders 46 = .ok (.ireturn, 1) := by decide +kernel
theorem dX2_isRowOfOrders_47 : decode cX2_isRowOfOrders 47 = .ok (.iinc 1 1, 3) := by decide +kernel
theorem dX2_isRowOfOrders_50 : decode cX2_isRowOfOrders 50 = .ok (.goto (-44), 3) := by decide +kernel
theorem dX2_isRowOfOrders_53 : decode cX2_isRowOfOrders 53 = .ok (.iconst 0, 1) := by decide +kernel
theorem dX2_isRowOfOrders_54 : decode cX2_isRowOfOrders 54 = .ok (.ireturn, 1) := by decide +kernel
theorem dJxe99ae_isNaN_b9ae7_0 : decode cJxe99ae_isNaN_b9ae7 0 = .ok (.dload_n 0, 1) := by decide +kernel
theorem dJxe99ae_isNaN_b9ae7_1 : decode cJxe99ae_isNaN_b9ae7 1 = .ok (.dload_n 0, 1) := by decide +kernel
theorem dJxe99ae_isNaN_b9ae7_2 : decode cJxe99ae_isNaN_b9ae7 2 = .ok (.dcmp .l, 1) := by decide +kernel
theorem dJxe99ae_isNaN_b9ae7_3 : decode cJxe99ae_isNaN_b9ae7 3 = .ok (.ifCond .eq 7, 3) := by decide +kernel
theorem dJxe99ae_isNaN_b9ae7_6 : decode cJxe99ae_isNaN_b9ae7 6 = .ok (.iconst 1, 1) := by decide +kernel
theorem dJxe99ae_isNaN_b9ae7_7 : decode cJxe99ae_isNaN_b9ae7 7 = .ok (.goto 4, 3) := by decide +kernel
theorem dJxe99ae_isNaN_b9ae7_10 : decode cJxe99ae_isNaN_b9ae7 10 = .ok (.iconst 0, 1) := by decide +kernel
theorem dJxe99ae_isNaN_b9ae7_11 : decode cJxe99ae_isNaN_b9ae7 11 = .ok (.ireturn, 1) := by decide +kernel
theorem dJxe99ae_doubleToLongBits_ccdee_0 : decode cJxe99ae_doubleToLongBits_ccdee 0 = .ok (.dload_n 0, 1) := by decide +kernel
theorem dJxe99ae_doubleToLongBits_ccdee_1 : decode cJxe99ae_doubleToLongBits_ccdee 1 = .ok (.invokestatic 122, 3) := by decide +kernel
theorem dJxe99ae_doubleToLongBits_ccdee_4 : decode cJxe99ae_doubleToLongBits_ccdee 4 = .ok (.ifCond .ne 8, 3) := by decide +kernel
theorem dJxe99ae_doubleToLongBits_ccdee_7 : decode cJxe99ae_doubleToLongBits_ccdee 7 = .ok (.dload_n 0, 1) := by decide +kernel
theorem dJxe99ae_doubleToLongBits_ccdee_8 : decode cJxe99ae_doubleToLongBits_ccdee 8 = .ok (.invokestatic 134, 3) := by decide +kernel
theorem dJxe99ae_doubleToLongBits_ccdee_11 : decode cJxe99ae_doubleToLongBits_ccdee 11 = .ok (.lreturn, 1) := by decide +kernel
theorem dJxe99ae_doubleToLongBits_ccdee_12 : decode cJxe99ae_doubleToLongBits_ccdee 12 = .ok (.ldc2_w 137, 3) := by decide +kernel
theorem dJxe99ae_doubleToLongBits_ccdee_15 : decode cJxe99ae_doubleToLongBits_ccdee 15 = .ok (.lreturn, 1) := by decide +kernel
theorem dJ9_max_7cf53_0 : decode cJ9_max_7cf53 0 = .ok (.iload_n 0, 1) := by decide +kernel
theorem dJ9_max_7cf53_1 : decode cJ9_max_7cf53 1 = .ok (.iload_n 1, 1) := by decide +kernel
theorem dJ9_max_7cf53_2 : decode cJ9_max_7cf53 2 = .ok (.if_icmp .lt 7, 3) := by decide +kernel
theorem dJ9_max_7cf53_5 : decode cJ9_max_7cf53 5 = .ok (.iload_n 0, 1) := by decide +kernel
theorem dJ9_max_7cf53_6 : decode cJ9_max_7cf53 6 = .ok (.goto 4, 3) := by decide +kernel
theorem dJ9_max_7cf53_9 : decode cJ9_max_7cf53 9 = .ok (.iload_n 1, 1) := by decide +kernel
theorem dJ9_max_7cf53_10 : decode cJ9_max_7cf53 10 = .ok (.ireturn, 1) := by decide +kernel
theorem dJ9_min_7cf53_0 : decode cJ9_min_7cf53 0 = .ok (.iload_n 0, 1) := by decide +kernel
theorem dJ9_min_7cf53_1 : decode cJ9_min_7cf53 1 = .ok (.iload_n 1, 1) := by decide +kernel
theorem dJ9_min_7cf53_2 : decode cJ9_min_7cf53 2 = .ok (.if_icmp .gt 7, 3) := by decide +kernel
theorem dJ9_min_7cf53_5 : decode cJ9_min_7cf53 5 = .ok (.iload_n 0, 1) := by decide +kernel
theorem dJ9_min_7cf53_6 : decode cJ9_min_7cf53 6 = .ok (.goto 4, 3) := by decide +kernel
theorem dJ9_min_7cf53_9 : decode cJ9_min_7cf53 9 = .ok (.iload_n 1, 1) := by decide +kernel
theorem dJ9_min_7cf53_10 : decode cJ9_min_7cf53 10 = .ok (.ireturn, 1) := by decide +kernel
theorem dJ7_fill_53178_0 : decode cJ7_fill_53178 0 = .ok (.iconst 0, 1) := by decide +kernel
theorem dJ7_fill_53178_1 : decode cJ7_fill_53178 1 = .ok (.istore_n 2, 1) := by decide +kernel
theorem dJ7_fill_53178_2 : decode cJ7_fill_53178 2 = .ok (.aload_n 0, 1) := by decide +kernel
theorem dJ7_fill_53178_3 : decode cJ7_fill_53178 3 = .ok (.arraylength, 1) := by decide +kernel
theorem dJ7_fill_53178_4 : decode cJ7_fill_53178 4 = .ok (.istore_n 3, 1) := by decide +kernel
theorem dJ7_fill_53178_5 : decode cJ7_fill_53178 5 = .ok (.iload_n 2, 1) := by decide +kernel
theorem dJ7_fill_53178_6 : decode cJ7_fill_53178 6 = .ok (.iload_n 3, 1) := by decide +kernel
theorem dJ7_fill_53178_7 : decode cJ7_fill_53178 7 = .ok (.if_icmp .ge 13, 3) := by decide +kernel
theorem dJ7_fill_53178_10 : decode cJ7_fill_53178 10 = .ok (.aload_n 0, 1) := by decide +kernel
theorem dJ7_fill_53178_11 : decode cJ7_fill_53178 11 = .ok (.iload_n 2, 1) := by decide +kernel
theorem dJ7_fill_53178_12 : decode cJ7_fill_53178 12 = .ok (.iload_n 1, 1) := by decide +kernel
theorem dJ7_fill_53178_13 : decode cJ7_fill_53178 13 = .ok (.iastore, 1) := by decide +kernel
theorem dJ7_fill_53178_14 : decode cJ7_fill_53178 14 = .ok (.iinc 2 1, 3) := by decide +kernel
theorem dJ7_fill_53178_17 : decode cJ7_fill_53178 17 = .ok (.goto (-12), 3) := by decide +kernel
theorem dJ7_fill_53178_20 : decode cJ7_fill_53178 20 = .ok (.return_, 1) := by decide +kernel
end
section
theorem dX3_init_0 : decode cX3_init 0 = .ok (.aload_n 0, 1) := by decide +kernel
theorem dX3_init_1 : decode cX3_init 1 = .ok (.invokespecial 1, 3) := by decide +kernel
theorem dX3_init_4 : decode cX3_init 4 = .ok (.aload_n 0, 1) := by decide +kernel
theorem dX3_init_5 : decode cX3_init 5 = .ok (.new 7, 3) := by decide +kernel
theorem dX3_init_8 : decode cX3_init 8 = .ok (.dup, 1) := by decide +kernel
theorem dX3_init_9 : decode cX3_init 9 = .ok (.invokespecial 9, 3) := by decide +kernel
theorem dX3_init_12 : decode cX3_init 12 = .ok (.putfield 10, 3) := by decide +kernel
theorem dX3_init_15 : decode cX3_init 15 = .ok (.aload_n 0, 1) := by decide +kernel
theorem dX3_init_16 : decode cX3_init 16 = .ok (.new 16, 3) := by decide +kernel
theorem dX3_init_19 : decode cX3_init 19 = .ok (.dup, 1) := by decide +kernel
theorem dX3_init_20 : decode cX3_init 20 = .ok (.invokespecial 18, 3) := by decide +kernel
theorem dX3_init_23 : decode cX3_init 23 = .ok (.putfield 19, 3) := by decide +kernel
theorem dX3_init_26 : decode cX3_init 26 = .ok (.aload_n 0, 1) := by decide +kernel
theorem dX3_init_27 : decode cX3_init 27 = .ok (.new 23, 3) := by decide +kernel
theorem dX3_init_30 : decode cX3_init 30 = .ok (.dup, 1) := by decide +kernel
theorem dX3_init_31 : decode cX3_init 31 = .ok (.invokespecial 25, 3) := by decide +kernel
theorem dX3_init_34 : decode cX3_init 34 = .ok (.putfield 26, 3) := by decide +kernel
theorem dX3_init_37 : decode cX3_init 37 = .ok (.aload_n 0, 1) := by decide +kernel
theorem dX3_init_38 : decode cX3_init 38 = .ok (.iconst 4, 1) := by decide +kernel
theorem dX3_init_39 : decode cX3_init 39 = .ok (.newarray .int, 2) := by decide +kernel
theorem dX3_init_41 : decode cX3_init 41 = .ok (.putfield 30, 3) := by decide +kernel
theorem dX3_init_44 : decode cX3_init 44 = .ok (.return_, 1) := by decide +kernel
theorem dX3_buySets_0 : decode cX3_buySets 0 = .ok (.iload_n 1, 1) := by decide +kernel
theorem dX3_buySets_1 : decode cX3_buySets 1 = .ok (.iconst 1, 1) := by decide +kernel
theorem dX3_buySets_2 : decode cX3_buySets 2 = .ok (.if_icmp .lt 9, 3) := by decide +kernel
theorem dX3_buySets_5 : decode cX3_buySets 5 = .ok (.iload_n 1, 1) := by decide +kernel
theorem dX3_buySets_6 : decode cX3_buySets 6 = .ok (.bipush 24, 2) := by decide +kernel
theorem dX3_buySets_8 : decode cX3_buySets 8 = .ok (.if_icmp .le 13, 3) := by decide +kernel
theorem dX3_buySets_11 : decode cX3_buySets 11 = .ok (.new 34, 3) := by decide +kernel
theorem dX3_buySets_14 : decode cX3_buySets 14 = .ok (.dup, 1) := by decide +kernel
theorem dX3_buySets_15 : decode cX3_buySets 15 = .ok (.ldc 36, 2) := by decide +kernel
theorem dX3_buySets_17 : decode cX3_buySets 17 = .ok (.invokespecial 38, 3) := by decide +kernel
theorem dX3_buySets_20 : decode cX3_buySets 20 = .ok (.athrow, 1) := by decide +kernel
theorem dX3_buySets_21 : decode cX3_buySets 21 = .ok (.aload_n 0, 1) := by decide +kernel
theorem dX3_buySets_22 : decode cX3_buySets 22 = .ok (.getfield 10, 3) := by decide +kernel
theorem dX3_buySets_25 : decode cX3_buySets 25 = .ok (.getfield 41, 3) := by decide +kernel
theorem dX3_buySets_28 : decode cX3_buySets 28 = .ok (.iload_n 1, 1) := by decide +kernel
theorem dX3_buySets_29 : decode cX3_buySets 29 = .ok (.iadd, 1) := by decide +kernel
theorem dX3_buySets_30 : decode cX3_buySets 30 = .ok (.bipush 24, 2) := by decide +kernel
theorem dX3_buySets_32 : decode cX3_buySets 32 = .ok (.if_icmp .le 13, 3) := by decide +kernel
theorem dX3_buySets_35 : decode cX3_buySets 35 = .ok (.new 45, 3) := by decide +kernel
theorem dX3_buySets_38 : decode cX3_buySets 38 = .ok (.dup, 1) := by decide +kernel
theorem dX3_buySets_39 : decode cX3_buySets 39 = .ok (.ldc 47, 2) := by decide +kernel
theorem dX3_buySets_41 : decode cX3_buySets 41 = .ok (.invokespecial 49, 3) := by decide +kernel
theorem dX3_buySets_44 : decode cX3_buySets 44 = .ok (.athrow, 1) := by decide +kernel
theorem dX3_buySets_45 : decode cX3_buySets 45 = .ok (.aload_n 0, 1) := by decide +kernel
theorem dX3_buySets_46 : decode cX3_buySets 46 = .ok (.getfield 19, 3) := by decide +kernel
theorem dX3_buySets_49 : decode cX3_buySets 49 = .ok (.aload_n 0, 1) := by decide +kernel
theorem dX3_buySets_50 : decode cX3_buySets 50 = .ok (.getfield 10, 3) := by decide +kernel
theorem dX3_buySets_53 : decode cX3_buySets 53 = .ok (.invokevirtual 50, 3) := by decide +kernel
theorem dX3_buySets_56 : decode cX3_buySets 56 = .ok (.aload_n 0, 1) := by decide +kernel
theorem dX3_buySets_57 : decode cX3_buySets 57 = .ok (.getfield 10, 3) := by decide +kernel
theorem dX3_buySets_60 : decode cX3_buySets 60 = .ok (.iload_n 1, 1) := by decide +kernel
theorem dX3_buySets_61 : decode cX3_buySets 61 = .ok (.invokevirtual 54, 3) := by decide +kernel
theorem dX3_buySets_64 : decode cX3_buySets 64 = .ok (.aload_n 0, 1) := by decide +kernel
theorem dX3_buySets_65 : decode cX3_buySets 65 = .ok (.getfield 10, 3) := by decide +kernel
theorem dX3_buySets_68 : decode cX3_buySets 68 = .ok (.getfield 41, 3) := by decide +kernel
theorem dX3_buySets_71 : decode cX3_buySets 71 = .ok (.ireturn, 1) := by decide +kernel
theorem dX3_buySpare_0 : decode cX3_buySpare 0 = .ok (.iload_n 1, 1) := by decide +kernel
theorem dX3_buySpare_1 : decode cX3_buySpare 1 = .ok (.invokestatic 58, 3) := by decide +kernel
theorem dX3_buySpare_4 : decode cX3_buySpare 4 = .ok (.iload_n 2, 1) := by decide +kernel
theorem dX3_buySpare_5 : decode cX3_buySpare 5 = .ok (.iconst 1, 1) := by decide +kernel
theorem dX3_buySpare_6 : decode cX3_buySpare 6 = .ok (.if_icmp .lt 10, 3) := by decide +kernel
theorem dX3_buySpare_9 : decode cX3_buySpare 9 = .ok (.iload_n 2, 1) := by decide +kernel
theorem dX3_buySpare_10 : decode cX3_buySpare 10 = .ok (.sipush 200, 3) := by decide +kernel
theorem dX3_buySpare_13 : decode cX3_buySpare 13 = .ok (.if_icmp .le 13, 3) := by decide +kernel
theorem dX3_buySpare_16 : decode cX3_buySpare 16 = .ok (.new 34, 3) := by decide +kernel
theorem dX3_buySpare_19 : decode cX3_buySpare 19 = .ok (.dup, 1) := by decide +kernel
theorem dX3_buySpare_20 : decode cX3_buySpare 20 = .ok (.ldc 36, 2) := by decide +kernel
theorem dX3_buySpare_22 : decode cX3_buySpare 22 = .ok (.invokespecial 38, 3) := by decide +kernel
theorem dX3_buySpare_25 : decode cX3_buySpare 25 = .ok (.athrow, 1) := by decide +kernel
theorem dX3_buySpare_26 : decode cX3_buySpare 26 = .ok (.aload_n 0, 1) := by decide +kernel
theorem dX3_buySpare_27 : decode cX3_buySpare 27 = .ok (.getfield 10, 3) := by decide +kernel
theorem dX3_buySpare_30 : decode cX3_buySpare 30 = .ok (.getfield 61, 3) := by decide +kernel
theorem dX3_buySpare_33 : decode cX3_buySpare 33 = .ok (.iload_n 1, 1) := by decide +kernel
theorem dX3_buySpare_34 : decode cX3_buySpare 34 = .ok (.invokestatic 64, 3) := by decide +kernel
theorem dX3_buySpare_37 : decode cX3_buySpare 37 = .ok (.iload_n 2, 1) := by decide +kernel
theorem dX3_buySpare_38 : decode cX3_buySpare 38 = .ok (.iadd, 1) := by decide +kernel
theorem dX3_buySpare_39 : decode cX3_buySpare 39 = .ok (.sipush 999, 3) := by decide +kernel
theorem dX3_buySpare_42 : decode cX3_buySpare 42 = .ok (.if_icmp .le 13, 3) := by decide +kernel
theorem dX3_buySpare_45 : decode cX3_buySpare 45 = .ok (.new 45, 3) := by decide +kernel
theorem dX3_buySpare_48 : decode cX3_buySpare 48 = .ok (.dup, 1) := by decide +kernel
theorem dX3_buySpare_49 : decode cX3_buySpare 49 = .ok (.ldc 68, 2) := by decide +kernel
theorem dX3_buySpare_51 : decode cX3_buySpare 51 = .ok (.invokespecial 49, 3) := by decide +kernel
theorem dX3_buySpare_54 : decode cX3_buySpare 54 = .ok (.athrow, 1) := by decide +kernel
theorem dX3_buySpare_55 : decode cX3_buySpare 55 = .ok (.aload_n 0, 1) := by decide +kernel
theorem dX3_buySpare_56 : decode cX3_buySpare 56 = .ok (.getfield 19, 3) := by decide +kernel
theorem dX3_buySpare_59 : decode cX3_buySpare 59 = .ok (.aload_n 0, 1) := by decide +kernel
theorem dX3_buySpare_60 : decode cX3_buySpare 60 = .ok (.getfield 10, 3) := by decide +kernel
theorem dX3_buySpare_63 : decode cX3_buySpare 63 = .ok (.invokevirtual 50, 3) := by decide +kernel
theorem dX3_buySpare_66 : decode cX3_buySpare 66 = .ok (.aload_n 0, 1) := by decide +kernel
theorem dX3_buySpare_67 : decode cX3_buySpare 67 = .ok (.getfield 10, 3) := by decide +kernel
theorem dX3_buySpare_70 : decode cX3_buySpare 70 = .ok (.iload_n 1, 1) := by decide +kernel
theorem dX3_buySpare_71 : decode cX3_buySpare 71 = .ok (.iload_n 2, 1) := by decide +kernel
theorem dX3_buySpare_72 : decode cX3_buySpare 72 = .ok (.invokevirtual 70, 3) := by decide +kernel
theorem dX3_buySpare_75 : decode cX3_buySpare 75 = .ok (.aload_n 0, 1) := by decide +kernel
theorem dX3_buySpare_76 : decode cX3_buySpare 76 = .ok (.getfield 10, 3) := by decide +kernel
theorem dX3_buySpare_79 : decode cX3_buySpare 79 = .ok (.getfield 61, 3) := by decide +kernel
theorem dX3_buySpare_82 : decode cX3_buySpare 82 = .ok (.iload_n 1, 1) := by decide +kernel
theorem dX3_buySpare_83 : decode cX3_buySpare 83 = .ok (.invokestatic 64, 3) := by decide +kernel
theorem dX3_buySpare_86 : decode cX3_buySpare 86 = .ok (.ireturn, 1) := by decide +kernel
theorem dX3_repair_0 : decode cX3_repair 0 = .ok (.aload_n 0, 1) := by decide +kernel
theorem dX3_repair_1 : decode cX3_repair 1 = .ok (.iload_n 1, 1) := by decide +kernel
theorem dX3_repair_2 : decode cX3_repair 2 = .ok (.invokevirtual 74, 3) := by decide +kernel
theorem dX3_repair_5 : decode cX3_repair 5 = .ok (.aload_n 0, 1) := by decide +kernel
theorem dX3_repair_6 : decode cX3_repair 6 = .ok (.iload_n 1, 1) := by decide +kernel
theorem dX3_repair_7 : decode cX3_repair 7 = .ok (.invokevirtual 77, 3) := by decide +kernel
theorem dX3_repair_10 : decode cX3_repair 10 = .ok (.aload_n 0, 1) := by decide +kernel
theorem dX3_repair_11 : decode cX3_repair 11 = .ok (.getfield 19, 3) := by decide +kernel
theorem dX3_repair_14 : decode cX3_repair 14 = .ok (.aload_n 0, 1) := by decide +kernel
theorem dX3_repair_15 : decode cX3_repair 15 = .ok (.getfield 10, 3) := by decide +kernel
theorem dX3_repair_18 : decode cX3_repair 18 = .ok (.invokevirtual 50, 3) := by decide +kernel
theorem dX3_repair_21 : decode cX3_repair 21 = .ok (.aload_n 0, 1) := by decide +kernel
theorem dX3_repair_22 : decode cX3_repair 22 = .ok (.getfield 10, 3) := by decide +kernel
theorem dX3_repair_25 : decode cX3_repair 25 = .ok (.iload_n 1, 1) := by decide +kernel
theorem dX3_repair_26 : decode cX3_repair 26 = .ok (.invokevirtual 80, 3) := by decide +kernel
theorem dX3_repair_29 : decode cX3_repair 29 = .ok (.ireturn, 1) := by decide +kernel
theorem dX3_damage_0 : decode cX3_damage 0 = .ok (.aload_n 0, 1) := by decide +kernel
theorem dX3_damage_1 : decode cX3_damage 1 = .ok (.iload_n 1, 1) := by decide +kernel
theorem dX3_damage_2 : decode cX3_damage 2 = .ok (.invokevirtual 74, 3) := by decide +kernel
theorem dX3_damage_5 : decode cX3_damage 5 = .ok (.iload_n 2, 1) := by decide +kernel
theorem dX3_damage_6 : decode cX3_damage 6 = .ok (.invokestatic 58, 3) := by decide +kernel
theorem dX3_damage_9 : decode cX3_damage 9 = .ok (.iload_n 3, 1) := by decide +kernel
theorem dX3_damage_10 : decode cX3_damage 10 = .ok (.invokestatic 84, 3) := by decide +kernel
theorem dX3_damage_13 : decode cX3_damage 13 = .ok (.aload_n 0, 1) := by decide +kernel
theorem dX3_damage_14 : decode cX3_damage 14 = .ok (.iload_n 1, 1) := by decide +kernel
theorem dX3_damage_15 : decode cX3_damage 15 = .ok (.invokevirtual 77, 3) := by decide +kernel
theorem dX3_damage_18 : decode cX3_damage 18 = .ok (.aload_n 0, 1) := by decide +kernel
theorem dX3_damage_19 : decode cX3_damage 19 = .ok (.iload_n 1, 1) := by decide +kernel
theorem dX3_damage_20 : decode cX3_damage 20 = .ok (.iload_n 2, 1) := by decide +kernel
theorem dX3_damage_21 : decode cX3_damage 21 = .ok (.iload_n 3, 1) := by decide +kernel
theorem dX3_damage_22 : decode cX3_damage 22 = .ok (.invokevirtual 87, 3) := by decide +kernel
theorem dX3_damage_25 : decode cX3_damage 25 = .ok (.aload_n 0, 1) := by decide +kernel
theorem dX3_damage_26 : decode cX3_damage 26 = .ok (.getfield 19, 3) := by decide +kernel
theorem dX3_damage_29 : decode cX3_damage 29 = .ok (.aload_n 0, 1) := by decide +kernel
theorem dX3_damage_30 : decode cX3_damage 30 = .ok (.getfield 10, 3) := by decide +kernel
theorem dX3_damage_33 : decode cX3_damage 33 = .ok (.invokevirtual 50, 3) := by decide +kernel
theorem dX3_damage_36 : decode cX3_damage 36 = .ok (.aload_n 0, 1) := by decide +kernel
theorem dX3_damage_37 : decode cX3_damage 37 = .ok (.getfield 10, 3) := by decide +kernel
theorem dX3_damage_40 : decode cX3_damage 40 = .ok (.iload_n 1, 1) := by decide +kernel
theorem dX3_damage_41 : decode cX3_damage 41 = .ok (.iload_n 2, 1) := by decide +kernel
theorem dX3_damage_42 : decode cX3_damage 42 = .ok (.iload_n 3, 1) := by decide +kernel
theorem dX3_damage_43 : decode cX3_damage 43 = .ok (.invokevirtual 91, 3) := by decide +kernel
theorem dX3_damage_46 : decode cX3_damage 46 = .ok (.ireturn, 1) := by decide +kernel
theorem dX3_swap_0 : decode cX3_swap 0 = .ok (.aload_n 0, 1) := by decide +kernel
theorem dX3_swap_1 : decode cX3_swap 1 = .ok (.iload_n 1, 1) := by decide +kernel
theorem dX3_swap_2 : decode cX3_swap 2 = .ok (.invokevirtual 74, 3) := by decide +kernel
theorem dX3_swap_5 : decode cX3_swap 5 = .ok (.aload_n 0, 1) := by decide +kernel
theorem dX3_swap_6 : decode cX3_swap 6 = .ok (.iload_n 2, 1) := by decide +kernel
theorem dX3_swap_7 : decode cX3_swap 7 = .ok (.invokevirtual 74, 3) := by decide +kernel
theorem dX3_swap_10 : decode cX3_swap 10 = .ok (.aload_n 0, 1) := by decide +kernel
theorem dX3_swap_11 : decode cX3_swap 11 = .ok (.iload_n 1, 1) := by decide +kernel
theorem dX3_swap_12 : decode cX3_swap 12 = .ok (.invokevirtual 77, 3) := by decide +kernel
theorem dX3_swap_15 : decode cX3_swap 15 = .ok (.aload_n 0, 1) := by decide +kernel
theorem dX3_swap_16 : decode cX3_swap 16 = .ok (.iload_n 2, 1) := by decide +kernel
theorem dX3_swap_17 : decode cX3_swap 17 = .ok (.invokevirtual 77, 3) := by decide +kernel
theorem dX3_swap_20 : decode cX3_swap 20 = .ok (.aload_n 0, 1) := by decide +kernel
theorem dX3_swap_21 : decode cX3_swap 21 = .ok (.getfield 19, 3) := by decide +kernel
theorem dX3_swap_24 : decode cX3_swap 24 = .ok (.aload_n 0, 1) := by decide +kernel
theorem dX3_swap_25 : decode cX3_swap 25 = .ok (.getfield 10, 3) := by decide +kernel
theorem dX3_swap_28 : decode cX3_swap 28 = .ok (.invokevirtual 50, 3) := by decide +kernel
theorem dX3_swap_31 : decode cX3_swap 31 = .ok (.aload_n 0, 1) := by decide +kernel
theorem dX3_swap_32 : decode cX3_swap 32 = .ok (.getfield 10, 3) := by decide +kernel
theorem dX3_swap_35 : decode cX3_swap 35 = .ok (.iload_n 1, 1) := by decide +kernel
theorem dX3_swap_36 : decode cX3_swap 36 = .ok (.iload_n 2, 1) := by decide +kernel
theorem dX3_swap_37 : decode cX3_swap 37 = .ok (.invokevirtual 95, 3) := by decide +kernel
theorem dX3_swap_40 : decode cX3_swap 40 = .ok (.aload_n 0, 1) := by decide +kernel
theorem dX3_swap_41 : decode cX3_swap 41 = .ok (.getfield 10, 3) := by decide +kernel
theorem dX3_swap_44 : decode cX3_swap 44 = .ok (.iload_n 1, 1) := by decide +kernel
theorem dX3_swap_45 : decode cX3_swap 45 = .ok (.invokevirtual 98, 3) := by decide +kernel
theorem dX3_swap_48 : decode cX3_swap 48 = .ok (.ireturn, 1) := by decide +kernel
theorem dX3_hire_0 : decode cX3_hire 0 = .ok (.iload_n 1, 1) := by decide +kernel
theorem dX3_hire_1 : decode cX3_hire 1 = .ok (.invokestatic 101, 3) := by decide +kernel
theorem dX3_hire_4 : decode cX3_hire 4 = .ok (.iload_n 2, 1) := by decide +kernel
theorem dX3_hire_5 : decode cX3_hire 5 = .ok (.iconst 1, 1) := by decide +kernel
theorem dX3_hire_6 : decode cX3_hire 6 = .ok (.if_icmp .lt 9, 3) := by decide +kernel
theorem dX3_hire_9 : decode cX3_hire 9 = .ok (.iload_n 2, 1) := by decide +kernel
theorem dX3_hire_10 : decode cX3_hire 10 = .ok (.bipush 24, 2) := by decide +kernel
theorem dX3_hire_12 : decode cX3_hire 12 = .ok (.if_icmp .le 13, 3) := by decide +kernel
theorem dX3_hire_15 : decode cX3_hire 15 = .ok (.new 34, 3) := by decide +kernel
theorem dX3_hire_18 : decode cX3_hire 18 = .ok (.dup, 1) := by decide +kernel
theorem dX3_hire_19 : decode cX3_hire 19 = .ok (.ldc 36, 2) := by decide +kernel
theorem dX3_hire_21 : decode cX3_hire 21 = .ok (.invokespecial 38, 3) := by decide +kernel
theorem dX3_hire_24 : decode cX3_hire 24 = .ok (.athrow, 1) := by decide +kernel
theorem dX3_hire_25 : decode cX3_hire 25 = .ok (.aload_n 0, 1) := by decide +kernel
theorem dX3_hire_26 : decode cX3_hire 26 = .ok (.getfield 10, 3) := by decide +kernel
theorem dX3_hire_29 : decode cX3_hire 29 = .ok (.invokevirtual 104, 3) := by decide +kernel
theorem dX3_hire_32 : decode cX3_hire 32 = .ok (.iload_n 2, 1) := by decide +kernel
theorem dX3_hire_33 : decode cX3_hire 33 = .ok (.if_icmp .ge 13, 3) := by decide +kernel
theorem dX3_hire_36 : decode cX3_hire 36 = .ok (.new 45, 3) := by decide +kernel
theorem dX3_hire_39 : decode cX3_hire 39 = .ok (.dup, 1) := by decide +kernel
theorem dX3_hire_40 : decode cX3_hire 40 = .ok (.ldc 108, 2) := by decide +kernel
theorem dX3_hire_42 : decode cX3_hire 42 = .ok (.invokespecial 49, 3) := by decide +kernel
theorem dX3_hire_45 : decode cX3_hire 45 = .ok (.athrow, 1) := by decide +kernel
theorem dX3_hire_46 : decode cX3_hire 46 = .ok (.aload_n 0, 1) := by decide +kernel
theorem dX3_hire_47 : decode cX3_hire 47 = .ok (.getfield 19, 3) := by decide +kernel
theorem dX3_hire_50 : decode cX3_hire 50 = .ok (.aload_n 0, 1) := by decide +kernel
theorem dX3_hire_51 : decode cX3_hire 51 = .ok (.getfield 10, 3) := by decide +kernel
theorem dX3_hire_54 : decode cX3_hire 54 = .ok (.invokevirtual 50, 3) := by decide +kernel
theorem dX3_hire_57 : decode cX3_hire 57 = .ok (.aload_n 0, 1) := by decide +kernel
theorem dX3_hire_58 : decode cX3_hire 58 = .ok (.getfield 10, 3) := by decide +kernel
theorem dX3_hire_61 : decode cX3_hire 61 = .ok (.iload_n 1, 1) := by decide +kernel
theorem dX3_hire_62 : decode cX3_hire 62 = .ok (.iload_n 2, 1) := by decide +kernel
theorem dX3_hire_63 : decode cX3_hire 63 = .ok (.invokevirtual 110, 3) := by decide +kernel
theorem dX3_hire_66 : decode cX3_hire 66 = .ok (.aload_n 0, 1) := by decide +kernel
theorem dX3_hire_67 : decode cX3_hire 67 = .ok (.getfield 10, 3) := by decide +kernel
theorem dX3_hire_70 : decode cX3_hire 70 = .ok (.invokevirtual 104, 3) := by decide +kernel
theorem dX3_hire_73 : decode cX3_hire 73 = .ok (.ireturn, 1) := by decide +kernel
theorem dX3_moveOn_0 : decode cX3_moveOn 0 = .ok (.aload_n 0, 1) := by decide +kernel
theorem dX3_moveOn_1 : decode cX3_moveOn 1 = .ok (.iload_n 1, 1) := by decide +kernel
theorem dX3_moveOn_2 : decode cX3_moveOn 2 = .ok (.invokevirtual 74, 3) := by decide +kernel
theorem dX3_moveOn_5 : decode cX3_moveOn 5 = .ok (.iload_n 2, 1) := by decide +kernel
theorem dX3_moveOn_6 : decode cX3_moveOn 6 = .ok (.invokestatic 101, 3) := by decide +kernel
theorem dX3_moveOn_9 : decode cX3_moveOn 9 = .ok (.aload_n 0, 1) := by decide +kernel
theorem dX3_moveOn_10 : decode cX3_moveOn 10 = .ok (.getfield 10, 3) := by decide +kernel
theorem dX3_moveOn_13 : decode cX3_moveOn 13 = .ok (.iload_n 1, 1) := by decide +kernel
theorem dX3_moveOn_14 : decode cX3_moveOn 14 = .ok (.iload_n 2, 1) := by decide +kernel
theorem dX3_moveOn_15 : decode cX3_moveOn 15 = .ok (.invokevirtual 113, 3) := by decide +kernel
theorem dX3_moveOn_18 : decode cX3_moveOn 18 = .ok (.ifCond .ne 13, 3) := by decide +kernel
theorem dX3_moveOn_21 : decode cX3_moveOn 21 = .ok (.new 45, 3) := by decide +kernel
theorem dX3_moveOn_24 : decode cX3_moveOn 24 = .ok (.dup, 1) := by decide +kernel
theorem dX3_moveOn_25 : decode cX3_moveOn 25 = .ok (.ldc 117, 2) := by decide +kernel
theorem dX3_moveOn_27 : decode cX3_moveOn 27 = .ok (.invokespecial 49, 3) := by decide +kernel
theorem dX3_moveOn_30 : decode cX3_moveOn 30 = .ok (.athrow, 1) := by decide +kernel
theorem dX3_moveOn_31 : decode cX3_moveOn 31 = .ok (.aload_n 0, 1) := by decide +kernel
theorem dX3_moveOn_32 : decode cX3_moveOn 32 = .ok (.getfield 19, 3) := by decide +kernel
theorem dX3_moveOn_35 : decode cX3_moveOn 35 = .ok (.aload_n 0, 1) := by decide +kernel
theorem dX3_moveOn_36 : decode cX3_moveOn 36 = .ok (.getfield 10, 3) := by decide +kernel
theorem dX3_moveOn_39 : decode cX3_moveOn 39 = .ok (.invokevirtual 50, 3) := by decide +kernel
theorem dX3_moveOn_42 : decode cX3_moveOn 42 = .ok (.aload_n 0, 1) := by decide +kernel
theorem dX3_moveOn_43 : decode cX3_moveOn 43 = .ok (.getfield 10, 3) := by decide +kernel
theorem dX3_moveOn_46 : decode cX3_moveOn 46 = .ok (.iload_n 1, 1) := by decide +kernel
theorem dX3_moveOn_47 : decode cX3_moveOn 47 = .ok (.iload_n 2, 1) := by decide +kernel
theorem dX3_moveOn_48 : decode cX3_moveOn 48 = .ok (.invokevirtual 119, 3) := by decide +kernel
theorem dX3_moveOn_51 : decode cX3_moveOn 51 = .ok (.ireturn, 1) := by decide +kernel
theorem dX3_bring_0 : decode cX3_bring 0 = .ok (.aload_n 0, 1) := by decide +kernel
theorem dX3_bring_1 : decode cX3_bring 1 = .ok (.iload_n 1, 1) := by decide +kernel
theorem dX3_bring_2 : decode cX3_bring 2 = .ok (.invokevirtual 74, 3) := by decide +kernel
theorem dX3_bring_5 : decode cX3_bring 5 = .ok (.aload_n 0, 1) := by decide +kernel
theorem dX3_bring_6 : decode cX3_bring 6 = .ok (.iload_n 1, 1) := by decide +kernel
theorem dX3_bring_7 : decode cX3_bring 7 = .ok (.invokevirtual 123, 3) := by decide +kernel
theorem dX3_bring_10 : decode cX3_bring 10 = .ok (.aload_n 0, 1) := by decide +kernel
theorem dX3_bring_11 : decode cX3_bring 11 = .ok (.getfield 19, 3) := by decide +kernel
theorem dX3_bring_14 : decode cX3_bring 14 = .ok (.aload_n 0, 1) := by decide +kernel
theorem dX3_bring_15 : decode cX3_bring 15 = .ok (.getfield 10, 3) := by decide +kernel
theorem dX3_bring_18 : decode cX3_bring 18 = .ok (.invokevirtual 50, 3) := by decide +kernel
theorem dX3_bring_21 : decode cX3_bring 21 = .ok (.aload_n 0, 1) := by decide +kernel
theorem dX3_bring_22 : decode cX3_bring 22 = .ok (.getfield 10, 3) := by decide +kernel
theorem dX3_bring_25 : decode cX3_bring 25 = .ok (.iload_n 1, 1) := by decide +kernel
theorem dX3_bring_26 : decode cX3_bring 26 = .ok (.invokevirtual 126, 3) := by decide +kernel
theorem dX3_bring_29 : decode cX3_bring 29 = .ok (.ireturn, 1) := by decide +kernel
theorem dX3_bringShort_0 : decode cX3_bringShort 0 = .ok (.aload_n 0, 1) := by decide +kernel
theorem dX3_bringShort_1 : decode cX3_bringShort 1 = .ok (.iload_n 1, 1) := by decide +kernel
theorem dX3_bringShort_2 : decode cX3_bringShort 2 = .ok (.invokevirtual 74, 3) := by decide +kernel
theorem dX3_bringShort_5 : decode cX3_bringShort 5 = .ok (.iload_n 2, 1) := by decide +kernel
theorem dX3_bringShort_6 : decode cX3_bringShort 6 = .ok (.invokestatic 58, 3) := by decide +kernel
theorem dX3_bringShort_9 : decode cX3_bringShort 9 = .ok (.iload_n 3, 1) := by decide +kernel
theorem dX3_bringShort_10 : decode cX3_bringShort 10 = .ok (.invokestatic 84, 3) := by decide +kernel
theorem dX3_bringShort_13 : decode cX3_bringShort 13 = .ok (.aload_n 0, 1) := by decide +kernel
theorem dX3_bringShort_14 : decode cX3_bringShort 14 = .ok (.iload_n 1, 1) := by decide +kernel
theorem dX3_bringShort_15 : decode cX3_bringShort 15 = .ok (.invokevirtual 123, 3) := by decide +kernel
theorem dX3_bringShort_18 : decode cX3_bringShort 18 = .ok (.aload_n 0, 1) := by decide +kernel
theorem dX3_bringShort_19 : decode cX3_bringShort 19 = .ok (.iload_n 1, 1) := by decide +kernel
theorem dX3_bringShort_20 : decode cX3_bringShort 20 = .ok (.iload_n 2, 1) := by decide +kernel
theorem dX3_bringShort_21 : decode cX3_bringShort 21 = .ok (.iload_n 3, 1) := by decide +kernel
theorem dX3_bringShort_22 : decode cX3_bringShort 22 = .ok (.invokevirtual 87, 3) := by decide +kernel
theorem dX3_bringShort_25 : decode cX3_bringShort 25 = .ok (.aload_n 0, 1) := by decide +kernel
theorem dX3_bringShort_26 : decode cX3_bringShort 26 = .ok (.getfield 19, 3) := by decide +kernel
theorem dX3_bringShort_29 : decode cX3_bringShort 29 = .ok (.aload_n 0, 1) := by decide +kernel
theorem dX3_bringShort_30 : decode cX3_bringShort 30 = .ok (.getfield 10, 3) := by decide +kernel
theorem dX3_bringShort_33 : decode cX3_bringShort 33 = .ok (.invokevirtual 50, 3) := by decide +kernel
theorem dX3_bringShort_36 : decode cX3_bringShort 36 = .ok (.aload_n 0, 1) := by decide +kernel
theorem dX3_bringShort_37 : decode cX3_bringShort 37 = .ok (.getfield 10, 3) := by decide +kernel
theorem dX3_bringShort_40 : decode cX3_bringShort 40 = .ok (.iload_n 1, 1) := by decide +kernel
theorem dX3_bringShort_41 : decode cX3_bringShort 41 = .ok (.iload_n 2, 1) := by decide +kernel
theorem dX3_bringShort_42 : decode cX3_bringShort 42 = .ok (.iload_n 3, 1) := by decide +kernel
theorem dX3_bringShort_43 : decode cX3_bringShort 43 = .ok (.invokevirtual 129, 3) := by decide +kernel
theorem dX3_bringShort_46 : decode cX3_bringShort 46 = .ok (.ireturn, 1) := by decide +kernel
theorem dX3_pay_0 : decode cX3_pay 0 = .ok (.iload_n 1, 1) := by decide +kernel
theorem dX3_pay_1 : decode cX3_pay 1 = .ok (.invokestatic 101, 3) := by decide +kernel
theorem dX3_pay_4 : decode cX3_pay 4 = .ok (.iload_n 2, 1) := by decide +kernel
theorem dX3_pay_5 : decode cX3_pay 5 = .ok (.iconst 1, 1) := by decide +kernel
theorem dX3_pay_6 : decode cX3_pay 6 = .ok (.if_icmp .lt 10, 3) := by decide +kernel
theorem dX3_pay_9 : decode cX3_pay 9 = .ok (.iload_n 2, 1) := by decide +kernel
theorem dX3_pay_10 : decode cX3_pay 10 = .ok (.sipush 9999, 3) := by decide +kernel
theorem dX3_pay_13 : decode cX3_pay 13 = .ok (.if_icmp .le 13, 3) := by decide +kernel
theorem dX3_pay_16 : decode cX3_pay 16 = .ok (.new 34, 3) := by decide +kernel
theorem dX3_pay_19 : decode cX3_pay 19 = .ok (.dup, 1) := by decide +kernel
theorem dX3_pay_20 : decode cX3_pay 20 = .ok (.ldc 132, 2) := by decide +kernel
theorem dX3_pay_22 : decode cX3_pay 22 = .ok (.invokespecial 38, 3) := by decide +kernel
theorem dX3_pay_25 : decode cX3_pay 25 = .ok (.athrow, 1) := by decide +kernel
theorem dX3_pay_26 : decode cX3_pay 26 = .ok (.aload_n 0, 1) := by decide +kernel
theorem dX3_pay_27 : decode cX3_pay 27 = .ok (.getfield 10, 3) := by decide +kernel
theorem dX3_pay_30 : decode cX3_pay 30 = .ok (.iload_n 1, 1) := by decide +kernel
theorem dX3_pay_31 : decode cX3_pay 31 = .ok (.invokevirtual 134, 3) := by decide +kernel
theorem dX3_pay_34 : decode cX3_pay 34 = .ok (.iload_n 2, 1) := by decide +kernel
theorem dX3_pay_35 : decode cX3_pay 35 = .ok (.if_icmp .ge 13, 3) := by decide +kernel
theorem dX3_pay_38 : decode cX3_pay 38 = .ok (.new 45, 3) := by decide +kernel
theorem dX3_pay_41 : decode cX3_pay 41 = .ok (.dup, 1) := by decide +kernel
theorem dX3_pay_42 : decode cX3_pay 42 = .ok (.ldc 137, 2) := by decide +kernel
theorem dX3_pay_44 : decode cX3_pay 44 = .ok (.invokespecial 49, 3) := by decide +kernel
theorem dX3_pay_47 : decode cX3_pay 47 = .ok (.athrow, 1) := by decide +kernel
theorem dX3_pay_48 : decode cX3_pay 48 = .ok (.aload_n 0, 1) := by decide +kernel
theorem dX3_pay_49 : decode cX3_pay 49 = .ok (.getfield 19, 3) := by decide +kernel
theorem dX3_pay_52 : decode cX3_pay 52 = .ok (.aload_n 0, 1) := by decide +kernel
theorem dX3_pay_53 : decode cX3_pay 53 = .ok (.getfield 10, 3) := by decide +kernel
theorem dX3_pay_56 : decode cX3_pay 56 = .ok (.invokevirtual 50, 3) := by decide +kernel
theorem dX3_pay_59 : decode cX3_pay 59 = .ok (.aload_n 0, 1) := by decide +kernel
theorem dX3_pay_60 : decode cX3_pay 60 = .ok (.getfield 10, 3) := by decide +kernel
theorem dX3_pay_63 : decode cX3_pay 63 = .ok (.getfield 139, 3) := by decide +kernel
theorem dX3_pay_66 : decode cX3_pay 66 = .ok (.iload_n 1, 1) := by decide +kernel
theorem dX3_pay_67 : decode cX3_pay 67 = .ok (.iload_n 2, 1) := by decide +kernel
theorem dX3_pay_68 : decode cX3_pay 68 = .ok (.invokestatic 142, 3) := by decide +kernel
theorem dX3_pay_71 : decode cX3_pay 71 = .ok (.aload_n 0, 1) := by decide +kernel
theorem dX3_pay_72 : decode cX3_pay 72 = .ok (.getfield 10, 3) := by decide +kernel
theorem dX3_pay_75 : decode cX3_pay 75 = .ok (.iload_n 1, 1) := by decide +kernel
theorem dX3_pay_76 : decode cX3_pay 76 = .ok (.invokevirtual 134, 3) := by decide +kernel
theorem dX3_pay_79 : decode cX3_pay 79 = .ok (.ireturn, 1) := by decide +kernel
theorem dX3_pass_0 : decode cX3_pass 0 = .ok (.iload_n 1, 1) := by decide +kernel
theorem dX3_pass_1 : decode cX3_pass 1 = .ok (.iconst 1, 1) := by decide +kernel
theorem dX3_pass_2 : decode cX3_pass 2 = .ok (.if_icmp .lt 9, 3) := by decide +kernel
theorem dX3_pass_5 : decode cX3_pass 5 = .ok (.iload_n 1, 1) := by decide +kernel
theorem dX3_pass_6 : decode cX3_pass 6 = .ok (.bipush 99, 2) := by decide +kernel
theorem dX3_pass_8 : decode cX3_pass 8 = .ok (.if_icmp .le 13, 3) := by decide +kernel
theorem dX3_pass_11 : decode cX3_pass 11 = .ok (.new 34, 3) := by decide +kernel
theorem dX3_pass_14 : decode cX3_pass 14 = .ok (.dup, 1) := by decide +kernel
theorem dX3_pass_15 : decode cX3_pass 15 = .ok (.ldc 146, 2) := by decide +kernel
theorem dX3_pass_17 : decode cX3_pass 17 = .ok (.invokespecial 38, 3) := by decide +kernel
theorem dX3_pass_20 : decode cX3_pass 20 = .ok (.athrow, 1) := by decide +kernel
theorem dX3_pass_21 : decode cX3_pass 21 = .ok (.aload_n 0, 1) := by decide +kernel
theorem dX3_pass_22 : decode cX3_pass 22 = .ok (.getfield 10, 3) := by decide +kernel
theorem dX3_pass_25 : decode cX3_pass 25 = .ok (.iload_n 1, 1) := by decide +kernel
theorem dX3_pass_26 : decode cX3_pass 26 = .ok (.invokevirtual 148, 3) := by decide +kernel
theorem dX3_pass_29 : decode cX3_pass 29 = .ok (.ifCond .ne 13, 3) := by decide +kernel
theorem dX3_pass_32 : decode cX3_pass 32 = .ok (.new 45, 3) := by decide +kernel
theorem dX3_pass_35 : decode cX3_pass 35 = .ok (.dup, 1) := by decide +kernel
theorem dX3_pass_36 : decode cX3_pass 36 = .ok (.ldc 152, 2) := by decide +kernel
theorem dX3_pass_38 : decode cX3_pass 38 = .ok (.invokespecial 49, 3) := by decide +kernel
theorem dX3_pass_41 : decode cX3_pass 41 = .ok (.athrow, 1) := by decide +kernel
theorem dX3_pass_42 : decode cX3_pass 42 = .ok (.aload_n 0, 1) := by decide +kernel
theorem dX3_pass_43 : decode cX3_pass 43 = .ok (.getfield 19, 3) := by decide +kernel
theorem dX3_pass_46 : decode cX3_pass 46 = .ok (.aload_n 0, 1) := by decide +kernel
theorem dX3_pass_47 : decode cX3_pass 47 = .ok (.getfield 10, 3) := by decide +kernel
theorem dX3_pass_50 : decode cX3_pass 50 = .ok (.invokevirtual 50, 3) := by decide +kernel
theorem dX3_pass_53 : decode cX3_pass 53 = .ok (.aload_n 0, 1) := by decide +kernel
theorem dX3_pass_54 : decode cX3_pass 54 = .ok (.getfield 10, 3) := by decide +kernel
theorem dX3_pass_57 : decode cX3_pass 57 = .ok (.dup, 1) := by decide +kernel
theorem dX3_pass_58 : decode cX3_pass 58 = .ok (.getfield 154, 3) := by decide +kernel
theorem dX3_pass_61 : decode cX3_pass 61 = .ok (.iload_n 1, 1) := by decide +kernel
theorem dX3_pass_62 : decode cX3_pass 62 = .ok (.iadd, 1) := by decide +kernel
theorem dX3_pass_63 : decode cX3_pass 63 = .ok (.putfield 154, 3) := by decide +kernel
theorem dX3_pass_66 : decode cX3_pass 66 = .ok (.aload_n 0, 1) := by decide +kernel
theorem dX3_pass_67 : decode cX3_pass 67 = .ok (.getfield 10, 3) := by decide +kernel
theorem dX3_pass_70 : decode cX3_pass 70 = .ok (.getfield 154, 3) := by decide +kernel
theorem dX3_pass_73 : decode cX3_pass 73 = .ok (.ireturn, 1) := by decide +kernel
theorem dX3_set_0 : decode cX3_set 0 = .ok (.iload_n 1, 1) := by decide +kernel
theorem dX3_set_1 : decode cX3_set 1 = .ok (.invokestatic 157, 3) := by decide +kernel
theorem dX3_set_4 : decode cX3_set 4 = .ok (.iload_n 1, 1) := by decide +kernel
theorem dX3_set_5 : decode cX3_set 5 = .ok (.iload_n 2, 1) := by decide +kernel
theorem dX3_set_6 : decode cX3_set 6 = .ok (.invokestatic 160, 3) := by decide +kernel
theorem dX3_set_9 : decode cX3_set 9 = .ok (.ifCond .ne 13, 3) := by decide +kernel
theorem dX3_set_12 : decode cX3_set 12 = .ok (.new 34, 3) := by decide +kernel
theorem dX3_set_15 : decode cX3_set 15 = .ok (.dup, 1) := by decide +kernel
theorem dX3_set_16 : decode cX3_set 16 = .ok (.ldc 163, 2) := by decide +kernel
theorem dX3_set_18 : decode cX3_set 18 = .ok (.invokespecial 38, 3) := by decide +kernel
theorem dX3_set_21 : decode cX3_set 21 = .ok (.athrow, 1) := by decide +kernel
theorem dX3_set_22 : decode cX3_set 22 = .ok (.aload_n 0, 1) := by decide +kernel
theorem dX3_set_23 : decode cX3_set 23 = .ok (.getfield 19, 3) := by decide +kernel
theorem dX3_set_26 : decode cX3_set 26 = .ok (.aload_n 0, 1) := by decide +kernel
theorem dX3_set_27 : decode cX3_set 27 = .ok (.getfield 10, 3) := by decide +kernel
theorem dX3_set_30 : decode cX3_set 30 = .ok (.invokevirtual 50, 3) := by decide +kernel
theorem dX3_set_33 : decode cX3_set 33 = .ok (.aload_n 0, 1) := by decide +kernel
theorem dX3_set_34 : decode cX3_set 34 = .ok (.getfield 10, 3) := by decide +kernel
theorem dX3_set_37 : decode cX3_set 37 = .ok (.getfield 165, 3) := by decide +kernel
theorem dX3_set_40 : decode cX3_set 40 = .ok (.iload_n 1, 1) := by decide +kernel
theorem dX3_set_41 : decode cX3_set 41 = .ok (.invokestatic 64, 3) := by decide +kernel
theorem dX3_set_44 : decode cX3_set 44 = .ok (.istore_n 3, 1) := by decide +kernel
theorem dX3_set_45 : decode cX3_set 45 = .ok (.aload_n 0, 1) := by decide +kernel
theorem dX3_set_46 : decode cX3_set 46 = .ok (.getfield 10, 3) := by decide +kernel
theorem dX3_set_49 : decode cX3_set 49 = .ok (.getfield 165, 3) := by decide +kernel
theorem dX3_set_52 : decode cX3_set 52 = .ok (.iload_n 1, 1) := by decide +kernel
theorem dX3_set_53 : decode cX3_set 53 = .ok (.iload_n 2, 1) := by decide +kernel
theorem dX3_set_54 : decode cX3_set 54 = .ok (.invokestatic 168, 3) := by decide +kernel
theorem dX3_set_57 : decode cX3_set 57 = .ok (.iload_n 3, 1) := by decide +kernel
theorem dX3_set_58 : decode cX3_set 58 = .ok (.ireturn, 1) := by decide +kernel
theorem dX3_append_0 : decode cX3_append 0 = .ok (.iload_n 1, 1) := by decide +kernel
theorem dX3_append_1 : decode cX3_append 1 = .ok (.bipush 33, 2) := by decide +kernel
theorem dX3_append_3 : decode cX3_append 3 = .ok (.if_icmp .lt 9, 3) := by decide +kernel
theorem dX3_append_6 : decode cX3_append 6 = .ok (.iload_n 1, 1) := by decide +kernel
theorem dX3_append_7 : decode cX3_append 7 = .ok (.bipush 126, 2) := by decide +kernel
theorem dX3_append_9 : decode cX3_append 9 = .ok (.if_icmp .le 13, 3) := by decide +kernel
theorem dX3_append_12 : decode cX3_append 12 = .ok (.new 34, 3) := by decide +kernel
theorem dX3_append_15 : decode cX3_append 15 = .ok (.dup, 1) := by decide +kernel
theorem dX3_append_16 : decode cX3_append 16 = .ok (.ldc 171, 2) := by decide +kernel
theorem dX3_append_18 : decode cX3_append 18 = .ok (.invokespecial 38, 3) := by decide +kernel
theorem dX3_append_21 : decode cX3_append 21 = .ok (.athrow, 1) := by decide +kernel
theorem dX3_append_22 : decode cX3_append 22 = .ok (.aload_n 0, 1) := by decide +kernel
theorem dX3_append_23 : decode cX3_append 23 = .ok (.getfield 26, 3) := by decide +kernel
theorem dX3_append_26 : decode cX3_append 26 = .ok (.getfield 173, 3) := by decide +kernel
theorem dX3_append_29 : decode cX3_append 29 = .ok (.bipush 60, 2) := by decide +kernel
theorem dX3_append_31 : decode cX3_append 31 = .ok (.if_icmp .lt 13, 3) := by decide +kernel
theorem dX3_append_34 : decode cX3_append 34 = .ok (.new 45, 3) := by decide +kernel
theorem dX3_append_37 : decode cX3_append 37 = .ok (.dup, 1) := by decide +kernel
theorem dX3_append_38 : decode cX3_append 38 = .ok (.ldc 176, 2) := by decide +kernel
theorem dX3_append_40 : decode cX3_append 40 = .ok (.invokespecial 49, 3) := by decide +kernel
theorem dX3_append_43 : decode cX3_append 43 = .ok (.athrow, 1) := by decide +kernel
theorem dX3_append_44 : decode cX3_append 44 = .ok (.aload_n 0, 1) := by decide +kernel
theorem dX3_append_45 : decode cX3_append 45 = .ok (.getfield 26, 3) := by decide +kernel
theorem dX3_append_48 : decode cX3_append 48 = .ok (.iload_n 1, 1) := by decide +kernel
theorem dX3_append_49 : decode cX3_append 49 = .ok (.invokevirtual 178, 3) := by decide +kernel
theorem dX3_append_52 : decode cX3_append 52 = .ok (.aload_n 0, 1) := by decide +kernel
theorem dX3_append_53 : decode cX3_append 53 = .ok (.getfield 26, 3) := by decide +kernel
theorem dX3_append_56 : decode cX3_append 56 = .ok (.getfield 173, 3) := by decide +kernel
theorem dX3_append_59 : decode cX3_append 59 = .ok (.ireturn, 1) := by decide +kernel
theorem dX3_clearBuffer_0 : decode cX3_clearBuffer 0 = .ok (.aload_n 0, 1) := by decide +kernel
theorem dX3_clearBuffer_1 : decode cX3_clearBuffer 1 = .ok (.getfield 26, 3) := by decide +kernel
theorem dX3_clearBuffer_4 : decode cX3_clearBuffer 4 = .ok (.getfield 173, 3) := by decide +kernel
theorem dX3_clearBuffer_7 : decode cX3_clearBuffer 7 = .ok (.istore_n 1, 1) := by decide +kernel
theorem dX3_clearBuffer_8 : decode cX3_clearBuffer 8 = .ok (.aload_n 0, 1) := by decide +kernel
theorem dX3_clearBuffer_9 : decode cX3_clearBuffer 9 = .ok (.getfield 26, 3) := by decide +kernel
theorem dX3_clearBuffer_12 : decode cX3_clearBuffer 12 = .ok (.invokevirtual 181, 3) := by decide +kernel
theorem dX3_clearBuffer_15 : decode cX3_clearBuffer 15 = .ok (.iload_n 1, 1) := by decide +kernel
theorem dX3_clearBuffer_16 : decode cX3_clearBuffer 16 = .ok (.ireturn, 1) := by decide +kernel
theorem dX3_firstError_0 : decode cX3_firstError 0 = .ok (.aload_n 0, 1) := by decide +kernel
theorem dX3_firstError_1 : decode cX3_firstError 1 = .ok (.getfield 26, 3) := by decide +kernel
theorem dX3_firstError_4 : decode cX3_firstError 4 = .ok (.invokevirtual 184, 3) := by decide +kernel
theorem dX3_firstError_7 : decode cX3_firstError 7 = .ok (.ireturn, 1) := by decide +kernel
theorem dX3_run_0 : decode cX3_run 0 = .ok (.aload_n 0, 1) := by decide +kernel
theorem dX3_run_1 : decode cX3_run 1 = .ok (.getfield 26, 3) := by decide +kernel
theorem dX3_run_4 : decode cX3_run 4 = .ok (.invokevirtual 187, 3) := by decide +kernel
theorem dX3_run_7 : decode cX3_run 7 = .ok (.ifCond .ne 13, 3) := by decide +kernel
theorem dX3_run_10 : decode cX3_run 10 = .ok (.new 34, 3) := by decide +kernel
theorem dX3_run_13 : decode cX3_run 13 = .ok (.dup, 1) := by decide +kernel
theorem dX3_run_14 : decode cX3_run 14 = .ok (.ldc 191, 2) := by decide +kernel
theorem dX3_run_16 : decode cX3_run 16 = .ok (.invokespecial 38, 3) := by decide +kernel
theorem dX3_run_19 : decode cX3_run 19 = .ok (.athrow, 1) := by decide +kernel
theorem dX3_run_20 : decode cX3_run 20 = .ok (.aload_n 0, 1) := by decide +kernel
theorem dX3_run_21 : decode cX3_run 21 = .ok (.getfield 19, 3) := by decide +kernel
theorem dX3_run_24 : decode cX3_run 24 = .ok (.aload_n 0, 1) := by decide +kernel
theorem dX3_run_25 : decode cX3_run 25 = .ok (.getfield 10, 3) := by decide +kernel
theorem dX3_run_28 : decode cX3_run 28 = .ok (.invokevirtual 50, 3) := by decide +kernel
theorem dX3_run_31 : decode cX3_run 31 = .ok (.iconst 0, 1) := by decide +kernel
theorem dX3_run_32 : decode cX3_run 32 = .ok (.istore_n 1, 1) := by decide +kernel
theorem dX3_run_33 : decode cX3_run 33 = .ok (.aload_n 0, 1) := by decide +kernel
theorem dX3_run_34 : decode cX3_run 34 = .ok (.getfield 26, 3) := by decide +kernel
theorem dX3_run_37 : decode cX3_run 37 = .ok (.invokevirtual 193, 3) := by decide +kernel
theorem dX3_run_40 : decode cX3_run 40 = .ok (.iload_n 1, 1) := by decide +kernel
theorem dX3_run_41 : decode cX3_run 41 = .ok (.bipush 60, 2) := by decide +kernel
theorem dX3_run_43 : decode cX3_run 43 = .ok (.if_icmp .ge 36, 3) := by decide +kernel
theorem dX3_run_46 : decode cX3_run 46 = .ok (.aload_n 0, 1) := by decide +kernel
theorem dX3_run_47 : decode cX3_run 47 = .ok (.getfield 26, 3) := by decide +kernel
theorem dX3_run_50 : decode cX3_run 50 = .ok (.invokevirtual 196, 3) := by decide +kernel
theorem dX3_run_53 : decode cX3_run 53 = .ok (.ifCond .eq 26, 3) := by decide +kernel
theorem dX3_run_56 : decode cX3_run 56 = .ok (.aload_n 0, 1) := by decide +kernel
theorem dX3_run_57 : decode cX3_run 57 = .ok (.invokevirtual 199, 3) := by decide +kernel
theorem dX3_run_60 : decode cX3_run 60 = .ok (.ifCond .eq 19, 3) := by decide +kernel
theorem dX3_run_63 : decode cX3_run 63 = .ok (.iinc 1 1, 3) := by decide +kernel
theorem dX3_run_66 : decode cX3_run 66 = .ok (.aload_n 0, 1) := by decide +kernel
theorem dX3_run_67 : decode cX3_run 67 = .ok (.getfield 26, 3) := by decide +kernel
theorem dX3_run_70 : decode cX3_run 70 = .ok (.bipush 59, 2) := by decide +kernel
theorem dX3_run_72 : decode cX3_run 72 = .ok (.invokevirtual 202, 3) := by decide +kernel
theorem dX3_run_75 : decode cX3_run 75 = .ok (.pop, 1) := by decide +kernel
theorem dX3_run_76 : decode cX3_run 76 = .ok (.goto (-36), 3) := by decide +kernel
theorem dX3_run_79 : decode cX3_run 79 = .ok (.aload_n 0, 1) := by decide +kernel
theorem dX3_run_80 : decode cX3_run 80 = .ok (.getfield 26, 3) := by decide +kernel
theorem dX3_run_83 : decode cX3_run 83 = .ok (.invokevirtual 181, 3) := by decide +kernel
theorem dX3_run_86 : decode cX3_run 86 = .ok (.iload_n 1, 1) := by decide +kernel
theorem dX3_run_87 : decode cX3_run 87 = .ok (.ireturn, 1) := by decide +kernel
theorem dX3_undo_0 : decode cX3_undo 0 = .ok (.aload_n 0, 1) := by decide +kernel
theorem dX3_undo_1 : decode cX3_undo 1 = .ok (.getfield 19, 3) := by decide +kernel
theorem dX3_undo_4 : decode cX3_undo 4 = .ok (.getfield 205, 3) := by decide +kernel
theorem dX3_undo_7 : decode cX3_undo 7 = .ok (.iconst 1, 1) := by decide +kernel
theorem dX3_undo_8 : decode cX3_undo 8 = .ok (.if_icmp .ge 13, 3) := by decide +kernel
theorem dX3_undo_11 : decode cX3_undo 11 = .ok (.new 45, 3) := by decide +kernel
theorem dX3_undo_14 : decode cX3_undo 14 = .ok (.dup, 1) := by decide +kernel
theorem dX3_undo_15 : decode cX3_undo 15 = .ok (.ldc 208, 2) := by decide +kernel
theorem dX3_undo_17 : decode cX3_undo 17 = .ok (.invokespecial 49, 3) := by decide +kernel
theorem dX3_undo_20 : decode cX3_undo 20 = .ok (.athrow, 1) := by decide +kernel
theorem dX3_undo_21 : decode cX3_undo 21 = .ok (.aload_n 0, 1) := by decide +kernel
theorem dX3_undo_22 : decode cX3_undo 22 = .ok (.getfield 19, 3) := by decide +kernel
theorem dX3_undo_25 : decode cX3_undo 25 = .ok (.aload_n 0, 1) := by decide +kernel
theorem dX3_undo_26 : decode cX3_undo 26 = .ok (.getfield 10, 3) := by decide +kernel
theorem dX3_undo_29 : decode cX3_undo 29 = .ok (.invokevirtual 210, 3) := by decide +kernel
theorem dX3_undo_32 : decode cX3_undo 32 = .ok (.aload_n 0, 1) := by decide +kernel
theorem dX3_undo_33 : decode cX3_undo 33 = .ok (.getfield 19, 3) := by decide +kernel
theorem dX3_undo_36 : decode cX3_undo 36 = .ok (.getfield 205, 3) := by decide +kernel
theorem dX3_undo_39 : decode cX3_undo 39 = .ok (.ireturn, 1) := by decide +kernel
theorem dX3_bundle_0 : decode cX3_bundle 0 = .ok (.aload_n 0, 1) := by decide +kernel
theorem dX3_bundle_1 : decode cX3_bundle 1 = .ok (.iload_n 1, 1) := by decide +kernel
theorem dX3_bundle_2 : decode cX3_bundle 2 = .ok (.invokevirtual 74, 3) := by decide +kernel
theorem dX3_bundle_5 : decode cX3_bundle 5 = .ok (.iload_n 2, 1) := by decide +kernel
theorem dX3_bundle_6 : decode cX3_bundle 6 = .ok (.invokestatic 213, 3) := by decide +kernel
theorem dX3_bundle_9 : decode cX3_bundle 9 = .ok (.ifCond .ne 13, 3) := by decide +kernel
theorem dX3_bundle_12 : decode cX3_bundle 12 = .ok (.new 34, 3) := by decide +kernel
theorem dX3_bundle_15 : decode cX3_bundle 15 = .ok (.dup, 1) := by decide +kernel
theorem dX3_bundle_16 : decode cX3_bundle 16 = .ok (.ldc 216, 2) := by decide +kernel
theorem dX3_bundle_18 : decode cX3_bundle 18 = .ok (.invokespecial 38, 3) := by decide +kernel
theorem dX3_bundle_21 : decode cX3_bundle 21 = .ok (.athrow, 1) := by decide +kernel
theorem dX3_bundle_22 : decode cX3_bundle 22 = .ok (.aload_n 0, 1) := by decide +kernel
theorem dX3_bundle_23 : decode cX3_bundle 23 = .ok (.getfield 10, 3) := by decide +kernel
theorem dX3_bundle_26 : decode cX3_bundle 26 = .ok (.iload_n 1, 1) := by decide +kernel
theorem dX3_bundle_27 : decode cX3_bundle 27 = .ok (.iload_n 2, 1) := by decide +kernel
theorem dX3_bundle_28 : decode cX3_bundle 28 = .ok (.invokevirtual 218, 3) := by decide +kernel
theorem dX3_bundle_31 : decode cX3_bundle 31 = .ok (.ireturn, 1) := by decide +kernel
theorem dX3_site_0 : decode cX3_site 0 = .ok (.iload_n 1, 1) := by decide +kernel
theorem dX3_site_1 : decode cX3_site 1 = .ok (.invokestatic 101, 3) := by decide +kernel
theorem dX3_site_4 : decode cX3_site 4 = .ok (.iload_n 2, 1) := by decide +kernel
theorem dX3_site_5 : decode cX3_site 5 = .ok (.ifCond .lt 9, 3) := by decide +kernel
theorem dX3_site_8 : decode cX3_site 8 = .ok (.iload_n 2, 1) := by decide +kernel
theorem dX3_site_9 : decode cX3_site 9 = .ok (.bipush 7, 2) := by decide +kernel
theorem dX3_site_11 : decode cX3_site 11 = .ok (.if_icmp .le 13, 3) := by decide +kernel
theorem dX3_site_14 : decode cX3_site 14 = .ok (.new 34, 3) := by decide +kernel
theorem dX3_site_17 : decode cX3_site 17 = .ok (.dup, 1) := by decide +kernel
theorem dX3_site_18 : decode cX3_site 18 = .ok (.ldc 221, 2) := by decide +kernel
theorem dX3_site_20 : decode cX3_site 20 = .ok (.invokespecial 38, 3) := by decide +kernel
theorem dX3_site_23 : decode cX3_site 23 = .ok (.athrow, 1) := by decide +kernel
theorem dX3_site_24 : decode cX3_site 24 = .ok (.aload_n 0, 1) := by decide +kernel
theorem dX3_site_25 : decode cX3_site 25 = .ok (.getfield 10, 3) := by decide +kernel
theorem dX3_site_28 : decode cX3_site 28 = .ok (.iload_n 1, 1) := by decide +kernel
theorem dX3_site_29 : decode cX3_site 29 = .ok (.iload_n 2, 1) := by decide +kernel
theorem dX3_site_30 : decode cX3_site 30 = .ok (.invokevirtual 223, 3) := by decide +kernel
theorem dX3_site_33 : decode cX3_site 33 = .ok (.ireturn, 1) := by decide +kernel
theorem dX3_parts_0 : decode cX3_parts 0 = .ok (.iload_n 1, 1) := by decide +kernel
theorem dX3_parts_1 : decode cX3_parts 1 = .ok (.invokestatic 58, 3) := by decide +kernel
theorem dX3_parts_4 : decode cX3_parts 4 = .ok (.iload_n 2, 1) := by decide +kernel
theorem dX3_parts_5 : decode cX3_parts 5 = .ok (.ifCond .lt 8, 3) := by decide +kernel
theorem dX3_parts_8 : decode cX3_parts 8 = .ok (.iload_n 2, 1) := by decide +kernel
theorem dX3_parts_9 : decode cX3_parts 9 = .ok (.iconst 4, 1) := by decide +kernel
theorem dX3_parts_10 : decode cX3_parts 10 = .ok (.if_icmp .le 13, 3) := by decide +kernel
theorem dX3_parts_13 : decode cX3_parts 13 = .ok (.new 34, 3) := by decide +kernel
theorem dX3_parts_16 : decode cX3_parts 16 = .ok (.dup, 1) := by decide +kernel
theorem dX3_parts_17 : decode cX3_parts 17 = .ok (.ldc 226, 2) := by decide +kernel
theorem dX3_parts_19 : decode cX3_parts 19 = .ok (.invokespecial 38, 3) := by decide +kernel
theorem dX3_parts_22 : decode cX3_parts 22 = .ok (.athrow, 1) := by decide +kernel
theorem dX3_parts_23 : decode cX3_parts 23 = .ok (.aload_n 0, 1) := by decide +kernel
theorem dX3_parts_24 : decode cX3_parts 24 = .ok (.getfield 10, 3) := by decide +kernel
theorem dX3_parts_27 : decode cX3_parts 27 = .ok (.iload_n 1, 1) := by decide +kernel
theorem dX3_parts_28 : decode cX3_parts 28 = .ok (.iload_n 2, 1) := by decide +kernel
theorem dX3_parts_29 : decode cX3_parts 29 = .ok (.invokevirtual 228, 3) := by decide +kernel
theorem dX3_parts_32 : decode cX3_parts 32 = .ok (.ireturn, 1) := by decide +kernel
theorem dX3_count_0 : decode cX3_count 0 = .ok (.iload_n 1, 1) := by decide +kernel
theorem dX3_count_1 : decode cX3_count 1 = .ok (.ifCond .lt 9, 3) := by decide +kernel
theorem dX3_count_4 : decode cX3_count 4 = .ok (.iload_n 1, 1) := by decide +kernel
theorem dX3_count_5 : decode cX3_count 5 = .ok (.bipush 9, 2) := by decide +kernel
theorem dX3_count_7 : decode cX3_count 7 = .ok (.if_icmp .le 13, 3) := by decide +kernel
theorem dX3_count_10 : decode cX3_count 10 = .ok (.new 34, 3) := by decide +kernel
theorem dX3_count_13 : decode cX3_count 13 = .ok (.dup, 1) := by decide +kernel
theorem dX3_count_14 : decode cX3_count 14 = .ok (.ldc 231, 2) := by decide +kernel
theorem dX3_count_16 : decode cX3_count 16 = .ok (.invokespecial 38, 3) := by decide +kernel
theorem dX3_count_19 : decode cX3_count 19 = .ok (.athrow, 1) := by decide +kernel
theorem dX3_count_20 : decode cX3_count 20 = .ok (.aload_n 0, 1) := by decide +kernel
theorem dX3_count_21 : decode cX3_count 21 = .ok (.iload_n 1, 1) := by decide +kernel
theorem dX3_count_22 : decode cX3_count 22 = .ok (.invokevirtual 233, 3) := by decide +kernel
theorem dX3_count_25 : decode cX3_count 25 = .ok (.ireturn, 1) := by decide +kernel
theorem dX3_setting_0 : decode cX3_setting 0 = .ok (.iload_n 1, 1) := by decide +kernel
theorem dX3_setting_1 : decode cX3_setting 1 = .ok (.invokestatic 157, 3) := by decide +kernel
theorem dX3_setting_4 : decode cX3_setting 4 = .ok (.aload_n 0, 1) := by decide +kernel
theorem dX3_setting_5 : decode cX3_setting 5 = .ok (.getfield 10, 3) := by decide +kernel
theorem dX3_setting_8 : decode cX3_setting 8 = .ok (.getfield 165, 3) := by decide +kernel
theorem dX3_setting_11 : decode cX3_setting 11 = .ok (.iload_n 1, 1) := by decide +kernel
theorem dX3_setting_12 : decode cX3_setting 12 = .ok (.invokestatic 64, 3) := by decide +kernel
theorem dX3_setting_15 : decode cX3_setting 15 = .ok (.ireturn, 1) := by decide +kernel
theorem dX3_billIn_0 : decode cX3_billIn 0 = .ok (.aload_n 0, 1) := by decide +kernel
theorem dX3_billIn_1 : decode cX3_billIn 1 = .ok (.iload_n 1, 1) := by decide +kernel
theorem dX3_billIn_2 : decode cX3_billIn 2 = .ok (.invokevirtual 74, 3) := by decide +kernel
theorem dX3_billIn_5 : decode cX3_billIn 5 = .ok (.iload_n 2, 1) := by decide +kernel
theorem dX3_billIn_6 : decode cX3_billIn 6 = .ok (.ifCond .lt 10, 3) := by decide +kernel
theorem dX3_billIn_9 : decode cX3_billIn 9 = .ok (.iload_n 2, 1) := by decide +kernel
theorem dX3_billIn_10 : decode cX3_billIn 10 = .ok (.sipush 200, 3) := by decide +kernel
theorem dX3_billIn_13 : decode cX3_billIn 13 = .ok (.if_icmp .le 13, 3) := by decide +kernel
theorem dX3_billIn_16 : decode cX3_billIn 16 = .ok (.new 34, 3) := by decide +kernel
theorem dX3_billIn_19 : decode cX3_billIn 19 = .ok (.dup, 1) := by decide +kernel
theorem dX3_billIn_20 : decode cX3_billIn 20 = .ok (.ldc 146, 2) := by decide +kernel
theorem dX3_billIn_22 : decode cX3_billIn 22 = .ok (.invokespecial 38, 3) := by decide +kernel
theorem dX3_billIn_25 : decode cX3_billIn 25 = .ok (.athrow, 1) := by decide +kernel
theorem dX3_billIn_26 : decode cX3_billIn 26 = .ok (.aload_n 0, 1) := by decide +kernel
theorem dX3_billIn_27 : decode cX3_billIn 27 = .ok (.getfield 10, 3) := by decide +kernel
theorem dX3_billIn_30 : decode cX3_billIn 30 = .ok (.iload_n 1, 1) := by decide +kernel
theorem dX3_billIn_31 : decode cX3_billIn 31 = .ok (.iload_n 2, 1) := by decide +kernel
theorem dX3_billIn_32 : decode cX3_billIn 32 = .ok (.invokevirtual 236, 3) := by decide +kernel
theorem dX3_billIn_35 : decode cX3_billIn 35 = .ok (.ireturn, 1) := by decide +kernel
theorem dX3_splitOn_0 : decode cX3_splitOn 0 = .ok (.aload_n 0, 1) := by decide +kernel
theorem dX3_splitOn_1 : decode cX3_splitOn 1 = .ok (.iload_n 1, 1) := by decide +kernel
theorem dX3_splitOn_2 : decode cX3_splitOn 2 = .ok (.invokevirtual 74, 3) := by decide +kernel
theorem dX3_splitOn_5 : decode cX3_splitOn 5 = .ok (.iload_n 3, 1) := by decide +kernel
theorem dX3_splitOn_6 : decode cX3_splitOn 6 = .ok (.invokestatic 101, 3) := by decide +kernel
theorem dX3_splitOn_9 : decode cX3_splitOn 9 = .ok (.iload_n 2, 1) := by decide +kernel
theorem dX3_splitOn_10 : decode cX3_splitOn 10 = .ok (.ifCond .lt 10, 3) := by decide +kernel
theorem dX3_splitOn_13 : decode cX3_splitOn 13 = .ok (.iload_n 2, 1) := by decide +kernel
theorem dX3_splitOn_14 : decode cX3_splitOn 14 = .ok (.sipush 9999, 3) := by decide +kernel
theorem dX3_splitOn_17 : decode cX3_splitOn 17 = .ok (.if_icmp .le 13, 3) := by decide +kernel
theorem dX3_splitOn_20 : decode cX3_splitOn 20 = .ok (.new 34, 3) := by decide +kernel
theorem dX3_splitOn_23 : decode cX3_splitOn 23 = .ok (.dup, 1) := by decide +kernel
theorem dX3_splitOn_24 : decode cX3_splitOn 24 = .ok (.ldc 239, 2) := by decide +kernel
theorem dX3_splitOn_26 : decode cX3_splitOn 26 = .ok (.invokespecial 38, 3) := by decide +kernel
theorem dX3_splitOn_29 : decode cX3_splitOn 29 = .ok (.athrow, 1) := by decide +kernel
theorem dX3_splitOn_30 : decode cX3_splitOn 30 = .ok (.aload_n 0, 1) := by decide +kernel
theorem dX3_splitOn_31 : decode cX3_splitOn 31 = .ok (.getfield 10, 3) := by decide +kernel
theorem dX3_splitOn_34 : decode cX3_splitOn 34 = .ok (.iload_n 1, 1) := by decide +kernel
theorem dX3_splitOn_35 : decode cX3_splitOn 35 = .ok (.iload_n 2, 1) := by decide +kernel
theorem dX3_splitOn_36 : decode cX3_splitOn 36 = .ok (.iload_n 3, 1) := by decide +kernel
theorem dX3_splitOn_37 : decode cX3_splitOn 37 = .ok (.invokevirtual 241, 3) := by decide +kernel
theorem dX3_splitOn_40 : decode cX3_splitOn 40 = .ok (.ireturn, 1) := by decide +kernel
theorem dX3_oldest_0 : decode cX3_oldest 0 = .ok (.iload_n 1, 1) := by decide +kernel
theorem dX3_oldest_1 : decode cX3_oldest 1 = .ok (.invokestatic 101, 3) := by decide +kernel
theorem dX3_oldest_4 : decode cX3_oldest 4 = .ok (.aload_n 0, 1) := by decide +kernel
theorem dX3_oldest_5 : decode cX3_oldest 5 = .ok (.getfield 10, 3) := by decide +kernel
theorem dX3_oldest_8 : decode cX3_oldest 8 = .ok (.iload_n 1, 1) := by decide +kernel
theorem dX3_oldest_9 : decode cX3_oldest 9 = .ok (.invokevirtual 244, 3) := by decide +kernel
theorem dX3_oldest_12 : decode cX3_oldest 12 = .ok (.ireturn, 1) := by decide +kernel
theorem dX3_ifRepaired_0 : decode cX3_ifRepaired 0 = .ok (.aload_n 0, 1) := by decide +kernel
theorem dX3_ifRepaired_1 : decode cX3_ifRepaired 1 = .ok (.getfield 10, 3) := by decide +kernel
theorem dX3_ifRepaired_4 : decode cX3_ifRepaired 4 = .ok (.getfield 61, 3) := by decide +kernel
theorem dX3_ifRepaired_7 : decode cX3_ifRepaired 7 = .ok (.aload_n 0, 1) := by decide +kernel
theorem dX3_ifRepaired_8 : decode cX3_ifRepaired 8 = .ok (.getfield 30, 3) := by decide +kernel
theorem dX3_ifRepaired_11 : decode cX3_ifRepaired 11 = .ok (.invokestatic 247, 3) := by decide +kernel
theorem dX3_ifRepaired_14 : decode cX3_ifRepaired 14 = .ok (.iconst 0, 1) := by decide +kernel
theorem dX3_ifRepaired_15 : decode cX3_ifRepaired 15 = .ok (.istore_n 1, 1) := by decide +kernel
theorem dX3_ifRepaired_16 : decode cX3_ifRepaired 16 = .ok (.iconst 0, 1) := by decide +kernel
theorem dX3_ifRepaired_17 : decode cX3_ifRepaired 17 = .ok (.istore_n 2, 1) := by decide +kernel
theorem dX3_ifRepaired_18 : decode cX3_ifRepaired 18 = .ok (.iload_n 2, 1) := by decide +kernel
theorem dX3_ifRepaired_19 : decode cX3_ifRepaired 19 = .ok (.aload_n 0, 1) := by decide +kernel
theorem dX3_ifRepaired_20 : decode cX3_ifRepaired 20 = .ok (.getfield 10, 3) := by decide +kernel
theorem dX3_ifRepaired_23 : decode cX3_ifRepaired 23 = .ok (.getfield 41, 3) := by decide +kernel
theorem dX3_ifRepaired_26 : decode cX3_ifRepaired 26 = .ok (.if_icmp .ge 31, 3) := by decide +kernel
theorem dX3_ifRepaired_29 : decode cX3_ifRepaired 29 = .ok (.aload_n 0, 1) := by decide +kernel
theorem dX3_ifRepaired_30 : decode cX3_ifRepaired 30 = .ok (.getfield 10, 3) := by decide +kernel
theorem dX3_ifRepaired_33 : decode cX3_ifRepaired 33 = .ok (.iload_n 2, 1) := by decide +kernel
theorem dX3_ifRepaired_34 : decode cX3_ifRepaired 34 = .ok (.invokevirtual 251, 3) := by decide +kernel
theorem dX3_ifRepaired_37 : decode cX3_ifRepaired 37 = .ok (.ifCond .eq 14, 3) := by decide +kernel
theorem dX3_ifRepaired_40 : decode cX3_ifRepaired 40 = .ok (.aload_n 0, 1) := by decide +kernel
theorem dX3_ifRepaired_41 : decode cX3_ifRepaired 41 = .ok (.iload_n 2, 1) := by decide +kernel
theorem dX3_ifRepaired_42 : decode cX3_ifRepaired 42 = .ok (.invokevirtual 254, 3) := by decide +kernel
theorem dX3_ifRepaired_45 : decode cX3_ifRepaired 45 = .ok (.ifCond .eq 6, 3) := by decide +kernel
theorem dX3_ifRepaired_48 : decode cX3_ifRepaired 48 = .ok (.iinc 1 1, 3) := by decide +kernel
theorem dX3_ifRepaired_51 : decode cX3_ifRepaired 51 = .ok (.iinc 2 1, 3) := by decide +kernel
theorem dX3_ifRepaired_54 : decode cX3_ifRepaired 54 = .ok (.goto (-36), 3) := by decide +kernel
theorem dX3_ifRepaired_57 : decode cX3_ifRepaired 57 = .ok (.iload_n 1, 1) := by decide +kernel
theorem dX3_ifRepaired_58 : decode cX3_ifRepaired 58 = .ok (.ireturn, 1) := by decide +kernel
theorem dX3_hiredShare_0 : decode cX3_hiredShare 0 = .ok (.aload_n 0, 1) := by decide +kernel
theorem dX3_hiredShare_1 : decode cX3_hiredShare 1 = .ok (.getfield 10, 3) := by decide +kernel
theorem dX3_hiredShare_4 : decode cX3_hiredShare 4 = .ok (.getfield 41, 3) := by decide +kernel
theorem dX3_hiredShare_7 : decode cX3_hiredShare 7 = .ok (.istore_n 1, 1) := by decide +kernel
theorem dX3_hiredShare_8 : decode cX3_hiredShare 8 = .ok (.iload_n 1, 1) := by decide +kernel
theorem dX3_hiredShare_9 : decode cX3_hiredShare 9 = .ok (.iconst 1, 1) := by decide +kernel
theorem dX3_hiredShare_10 : decode cX3_hiredShare 10 = .ok (.if_icmp .ge 5, 3) := by decide +kernel
theorem dX3_hiredShare_13 : decode cX3_hiredShare 13 = .ok (.dconst 0, 1) := by decide +kernel
theorem dX3_hiredShare_14 : decode cX3_hiredShare 14 = .ok (.dreturn, 1) := by decide +kernel
theorem dX3_hiredShare_15 : decode cX3_hiredShare 15 = .ok (.iload_n 1, 1) := by decide +kernel
theorem dX3_hiredShare_16 : decode cX3_hiredShare 16 = .ok (.aload_n 0, 1) := by decide +kernel
theorem dX3_hiredShare_17 : decode cX3_hiredShare 17 = .ok (.getfield 10, 3) := by decide +kernel
theorem dX3_hiredShare_20 : decode cX3_hiredShare 20 = .ok (.invokevirtual 257, 3) := by decide +kernel
theorem dX3_hiredShare_23 : decode cX3_hiredShare 23 = .ok (.isub, 1) := by decide +kernel
theorem dX3_hiredShare_24 : decode cX3_hiredShare 24 = .ok (.i2d, 1) := by decide +kernel
theorem dX3_hiredShare_25 : decode cX3_hiredShare 25 = .ok (.iload_n 1, 1) := by decide +kernel
theorem dX3_hiredShare_26 : decode cX3_hiredShare 26 = .ok (.i2d, 1) := by decide +kernel
theorem dX3_hiredShare_27 : decode cX3_hiredShare 27 = .ok (.ddiv, 1) := by decide +kernel
theorem dX3_hiredShare_28 : decode cX3_hiredShare 28 = .ok (.dreturn, 1) := by decide +kernel
theorem dX3_digest_0 : decode cX3_digest 0 = .ok (.ldc2_w 260, 3) := by decide +kernel
theorem dX3_digest_3 : decode cX3_digest 3 = .ok (.lstore_n 1, 1) := by decide +kernel
theorem dX3_digest_4 : decode cX3_digest 4 = .ok (.iconst 0, 1) := by decide +kernel
theorem dX3_digest_5 : decode cX3_digest 5 = .ok (.istore_n 3, 1) := by decide +kernel
theorem dX3_digest_6 : decode cX3_digest 6 = .ok (.iload_n 3, 1) := by decide +kernel
theorem dX3_digest_7 : decode cX3_digest 7 = .ok (.bipush 9, 2) := by decide +kernel
theorem dX3_digest_9 : decode cX3_digest 9 = .ok (.if_icmp .gt 20, 3) := by decide +kernel
theorem dX3_digest_12 : decode cX3_digest 12 = .ok (.lload_n 1, 1) := by decide +kernel
theorem dX3_digest_13 : decode cX3_digest 13 = .ok (.aload_n 0, 1) := by decide +kernel
theorem dX3_digest_14 : decode cX3_digest 14 = .ok (.iload_n 3, 1) := by decide +kernel
theorem dX3_digest_15 : decode cX3_digest 15 = .ok (.invokevirtual 233, 3) := by decide +kernel
theorem dX3_digest_18 : decode cX3_digest 18 = .ok (.i2l, 1) := by decide +kernel
theorem dX3_digest_19 : decode cX3_digest 19 = .ok (.invokestatic 262, 3) := by decide +kernel
theorem dX3_digest_22 : decode cX3_digest 22 = .ok (.lstore_n 1, 1) := by decide +kernel
theorem dX3_digest_23 : decode cX3_digest 23 = .ok (.iinc 3 1, 3) := by decide +kernel
theorem dX3_digest_26 : decode cX3_digest 26 = .ok (.goto (-20), 3) := by decide +kernel
theorem dX3_digest_29 : decode cX3_digest 29 = .ok (.iconst 0, 1) := by decide +kernel
theorem dX3_digest_30 : decode cX3_digest 30 = .ok (.istore_n 3, 1) := by decide +kernel
theorem dX3_digest_31 : decode cX3_digest 31 = .ok (.iload_n 3, 1) := by decide +kernel
theorem dX3_digest_32 : decode cX3_digest 32 = .ok (.iconst 2, 1) := by decide +kernel
theorem dX3_digest_33 : decode cX3_digest 33 = .ok (.if_icmp .ge 26, 3) := by decide +kernel
theorem dX3_digest_36 : decode cX3_digest 36 = .ok (.lload_n 1, 1) := by decide +kernel
theorem dX3_digest_37 : decode cX3_digest 37 = .ok (.aload_n 0, 1) := by decide +kernel
theorem dX3_digest_38 : decode cX3_digest 38 = .ok (.getfield 10, 3) := by decide +kernel
theorem dX3_digest_41 : decode cX3_digest 41 = .ok (.getfield 165, 3) := by decide +kernel
theorem dX3_digest_44 : decode cX3_digest 44 = .ok (.iload_n 3, 1) := by decide +kernel
theorem dX3_digest_45 : decode cX3_digest 45 = .ok (.invokestatic 64, 3) := by decide +kernel
theorem dX3_digest_48 : decode cX3_digest 48 = .ok (.i2l, 1) := by decide +kernel
theorem dX3_digest_49 : decode cX3_digest 49 = .ok (.invokestatic 262, 3) := by decide +kernel
theorem dX3_digest_52 : decode cX3_digest 52 = .ok (.lstore_n 1, 1) := by decide +kernel
theorem dX3_digest_53 : decode cX3_digest 53 = .ok (.iinc 3 1, 3) := by decide +kernel
theorem dX3_digest_56 : decode cX3_digest 56 = .ok (.goto (-25), 3) := by decide +kernel
theorem dX3_digest_59 : decode cX3_digest 59 = .ok (.iconst 0, 1) := by decide +kernel
theorem dX3_digest_60 : decode cX3_digest 60 = .ok (.istore_n 3, 1) := by decide +kernel
theorem dX3_digest_61 : decode cX3_digest 61 = .ok (.iload_n 3, 1) := by decide +kernel
theorem dX3_digest_62 : decode cX3_digest 62 = .ok (.aload_n 0, 1) := by decide +kernel
theorem dX3_digest_63 : decode cX3_digest 63 = .ok (.getfield 10, 3) := by decide +kernel
theorem dX3_digest_66 : decode cX3_digest 66 = .ok (.getfield 41, 3) := by decide +kernel
theorem dX3_digest_69 : decode cX3_digest 69 = .ok (.if_icmp .ge 16, 3) := by decide +kernel
theorem dX3_digest_72 : decode cX3_digest 72 = .ok (.aload_n 0, 1) := by decide +kernel
theorem dX3_digest_73 : decode cX3_digest 73 = .ok (.lload_n 1, 1) := by decide +kernel
theorem dX3_digest_74 : decode cX3_digest 74 = .ok (.iload_n 3, 1) := by decide +kernel
theorem dX3_digest_75 : decode cX3_digest 75 = .ok (.invokevirtual 266, 3) := by decide +kernel
theorem dX3_digest_78 : decode cX3_digest 78 = .ok (.lstore_n 1, 1) := by decide +kernel
theorem dX3_digest_79 : decode cX3_digest 79 = .ok (.iinc 3 1, 3) := by decide +kernel
theorem dX3_digest_82 : decode cX3_digest 82 = .ok (.goto (-21), 3) := by decide +kernel
theorem dX3_digest_85 : decode cX3_digest 85 = .ok (.iconst 0, 1) := by decide +kernel
theorem dX3_digest_86 : decode cX3_digest 86 = .ok (.istore_n 3, 1) := by decide +kernel
theorem dX3_digest_87 : decode cX3_digest 87 = .ok (.iload_n 3, 1) := by decide +kernel
theorem dX3_digest_88 : decode cX3_digest 88 = .ok (.bipush 6, 2) := by decide +kernel
theorem dX3_digest_90 : decode cX3_digest 90 = .ok (.if_icmp .ge 16, 3) := by decide +kernel
theorem dX3_digest_93 : decode cX3_digest 93 = .ok (.aload_n 0, 1) := by decide +kernel
theorem dX3_digest_94 : decode cX3_digest 94 = .ok (.lload_n 1, 1) := by decide +kernel
theorem dX3_digest_95 : decode cX3_digest 95 = .ok (.iload_n 3, 1) := by decide +kernel
theorem dX3_digest_96 : decode cX3_digest 96 = .ok (.invokevirtual 270, 3) := by decide +kernel
theorem dX3_digest_99 : decode cX3_digest 99 = .ok (.lstore_n 1, 1) := by decide +kernel
theorem dX3_digest_100 : decode cX3_digest 100 = .ok (.iinc 3 1, 3) := by decide +kernel
theorem dX3_digest_103 : decode cX3_digest 103 = .ok (.goto (-16), 3) := by decide +kernel
theorem dX3_digest_106 : decode cX3_digest 106 = .ok (.iconst 0, 1) := by decide +kernel
theorem dX3_digest_107 : decode cX3_digest 107 = .ok (.istore_n 3, 1) := by decide +kernel
theorem dX3_digest_108 : decode cX3_digest 108 = .ok (.iload_n 3, 1) := by decide +kernel
theorem dX3_digest_109 : decode cX3_digest 109 = .ok (.iconst 4, 1) := by decide +kernel
theorem dX3_digest_110 : decode cX3_digest 110 = .ok (.if_icmp .ge 40, 3) := by decide +kernel
theorem dX3_digest_113 : decode cX3_digest 113 = .ok (.iconst 0, 1) := by decide +kernel
theorem dX3_digest_114 : decode cX3_digest 114 = .ok (.istore 4, 2) := by decide +kernel
theorem dX3_digest_116 : decode cX3_digest 116 = .ok (.iload 4, 2) := by decide +kernel
theorem dX3_digest_118 : decode cX3_digest 118 = .ok (.iconst 4, 1) := by decide +kernel
theorem dX3_digest_119 : decode cX3_digest 119 = .ok (.if_icmp .gt 25, 3) := by decide +kernel
theorem dX3_digest_122 : decode cX3_digest 122 = .ok (.lload_n 1, 1) := by decide +kernel
theorem dX3_digest_123 : decode cX3_digest 123 = .ok (.aload_n 0, 1) := by decide +kernel
theorem dX3_digest_124 : decode cX3_digest 124 = .ok (.getfield 10, 3) := by decide +kernel
theorem dX3_digest_127 : decode cX3_digest 127 = .ok (.iload_n 3, 1) := by decide +kernel
theorem dX3_digest_128 : decode cX3_digest 128 = .ok (.iload 4, 2) := by decide +kernel
theorem dX3_digest_130 : decode cX3_digest 130 = .ok (.invokevirtual 228, 3) := by decide +kernel
theorem dX3_digest_133 : decode cX3_digest 133 = .ok (.i2l, 1) := by decide +kernel
theorem dX3_digest_134 : decode cX3_digest 134 = .ok (.invokestatic 262, 3) := by decide +kernel
theorem dX3_digest_137 : decode cX3_digest 137 = .ok (.lstore_n 1, 1) := by decide +kernel
theorem dX3_digest_138 : decode cX3_digest 138 = .ok (.iinc 4 1, 3) := by decide +kernel
theorem dX3_digest_141 : decode cX3_digest 141 = .ok (.goto (-25), 3) := by decide +kernel
theorem dX3_digest_144 : decode cX3_digest 144 = .ok (.iinc 3 1, 3) := by decide +kernel
theorem dX3_digest_147 : decode cX3_digest 147 = .ok (.goto (-39), 3) := by decide +kernel
theorem dX3_digest_150 : decode cX3_digest 150 = .ok (.lload_n 1, 1) := by decide +kernel
theorem dX3_digest_151 : decode cX3_digest 151 = .ok (.aload_n 0, 1) := by decide +kernel
theorem dX3_digest_152 : decode cX3_digest 152 = .ok (.invokevirtual 273, 3) := by decide +kernel
theorem dX3_digest_155 : decode cX3_digest 155 = .ok (.i2l, 1) := by decide +kernel
theorem dX3_digest_156 : decode cX3_digest 156 = .ok (.invokestatic 262, 3) := by decide +kernel
theorem dX3_digest_159 : decode cX3_digest 159 = .ok (.lstore_n 1, 1) := by decide +kernel
theorem dX3_digest_160 : decode cX3_digest 160 = .ok (.lload_n 1, 1) := by decide +kernel
theorem dX3_digest_161 : decode cX3_digest 161 = .ok (.aload_n 0, 1) := by decide +kernel
theorem dX3_digest_162 : decode cX3_digest 162 = .ok (.invokevirtual 276, 3) := by decide +kernel
theorem dX3_digest_165 : decode cX3_digest 165 = .ok (.invokestatic 280, 3) := by decide +kernel
theorem dX3_digest_168 : decode cX3_digest 168 = .ok (.invokestatic 262, 3) := by decide +kernel
theorem dX3_digest_171 : decode cX3_digest 171 = .ok (.lstore_n 1, 1) := by decide +kernel
theorem dX3_digest_172 : decode cX3_digest 172 = .ok (.aload_n 0, 1) := by decide +kernel
theorem dX3_digest_173 : decode cX3_digest 173 = .ok (.lload_n 1, 1) := by decide +kernel
theorem dX3_digest_174 : decode cX3_digest 174 = .ok (.invokevirtual 284, 3) := by decide +kernel
theorem dX3_digest_177 : decode cX3_digest 177 = .ok (.lreturn, 1) := by decide +kernel
theorem dX3_needSet_0 : decode cX3_needSet 0 = .ok (.aload_n 0, 1) := by decide +kernel
theorem dX3_needSet_1 : decode cX3_needSet 1 = .ok (.getfield 10, 3) := by decide +kernel
theorem dX3_needSet_4 : decode cX3_needSet 4 = .ok (.iload_n 1, 1) := by decide +kernel
theorem dX3_needSet_5 : decode cX3_needSet 5 = .ok (.invokevirtual 288, 3) := by decide +kernel
theorem dX3_needSet_8 : decode cX3_needSet 8 = .ok (.ifCond .ne 14, 3) := by decide +kernel
theorem dX3_needSet_11 : decode cX3_needSet 11 = .ok (.new 291, 3) := by decide +kernel
theorem dX3_needSet_14 : decode cX3_needSet 14 = .ok (.dup, 1) := by decide +kernel
theorem dX3_needSet_15 : decode cX3_needSet 15 = .ok (.ldc_w 293, 3) := by decide +kernel
theorem dX3_needSet_18 : decode cX3_needSet 18 = .ok (.invokespecial 295, 3) := by decide +kernel
theorem dX3_needSet_21 : decode cX3_needSet 21 = .ok (.athrow, 1) := by decide +kernel
theorem dX3_needSet_22 : decode cX3_needSet 22 = .ok (.return_, 1) := by decide +kernel
theorem dX3_needSite_0 : decode cX3_needSite 0 = .ok (.iload_n 0, 1) := by decide +kernel
theorem dX3_needSite_1 : decode cX3_needSite 1 = .ok (.ifCond .lt 9, 3) := by decide +kernel
theorem dX3_needSite_4 : decode cX3_needSite 4 = .ok (.iload_n 0, 1) := by decide +kernel
theorem dX3_needSite_5 : decode cX3_needSite 5 = .ok (.bipush 6, 2) := by decide +kernel
theorem dX3_needSite_7 : decode cX3_needSite 7 = .ok (.if_icmp .lt 14, 3) := by decide +kernel
theorem dX3_needSite_10 : decode cX3_needSite 10 = .ok (.new 291, 3) := by decide +kernel
theorem dX3_needSite_13 : decode cX3_needSite 13 = .ok (.dup, 1) := by decide +kernel
theorem dX3_needSite_14 : decode cX3_needSite 14 = .ok (.ldc_w 296, 3) := by decide +kernel
theorem dX3_needSite_17 : decode cX3_needSite 17 = .ok (.invokespecial 295, 3) := by decide +kernel
theorem dX3_needSite_20 : decode cX3_needSite 20 = .ok (.athrow, 1) := by decide +kernel
theorem dX3_needSite_21 : decode cX3_needSite 21 = .ok (.return_, 1) := by decide +kernel
theorem dX3_needKind_0 : decode cX3_needKind 0 = .ok (.iload_n 0, 1) := by decide +kernel
theorem dX3_needKind_1 : decode cX3_needKind 1 = .ok (.ifCond .lt 8, 3) := by decide +kernel
theorem dX3_needKind_4 : decode cX3_needKind 4 = .ok (.iload_n 0, 1) := by decide +kernel
theorem dX3_needKind_5 : decode cX3_needKind 5 = .ok (.iconst 4, 1) := by decide +kernel
theorem dX3_needKind_6 : decode cX3_needKind 6 = .ok (.if_icmp .lt 14, 3) := by decide +kernel
theorem dX3_needKind_9 : decode cX3_needKind 9 = .ok (.new 291, 3) := by decide +kernel
theorem dX3_needKind_12 : decode cX3_needKind 12 = .ok (.dup, 1) := by decide +kernel
theorem dX3_needKind_13 : decode cX3_needKind 13 = .ok (.ldc_w 298, 3) := by decide +kernel
theorem dX3_needKind_16 : decode cX3_needKind 16 = .ok (.invokespecial 295, 3) := by decide +kernel
theorem dX3_needKind_19 : decode cX3_needKind 19 = .ok (.athrow, 1) := by decide +kernel
theorem dX3_needKind_20 : decode cX3_needKind 20 = .ok (.return_, 1) := by decide +kernel
theorem dX3_needSetting_0 : decode cX3_needSetting 0 = .ok (.iload_n 0, 1) := by decide +kernel
theorem dX3_needSetting_1 : decode cX3_needSetting 1 = .ok (.ifCond .lt 8, 3) := by decide +kernel
theorem dX3_needSetting_4 : decode cX3_needSetting 4 = .ok (.iload_n 0, 1) := by decide +kernel
theorem dX3_needSetting_5 : decode cX3_needSetting 5 = .ok (.iconst 2, 1) := by decide +kernel
theorem dX3_needSetting_6 : decode cX3_needSetting 6 = .ok (.if_icmp .lt 14, 3) := by decide +kernel
theorem dX3_needSetting_9 : decode cX3_needSetting 9 = .ok (.new 291, 3) := by decide +kernel
theorem dX3_needSetting_12 : decode cX3_needSetting 12 = .ok (.dup, 1) := by decide +kernel
theorem dX3_needSetting_13 : decode cX3_needSetting 13 = .ok (.ldc_w 300, 3) := by decide +kernel
theorem dX3_needSetting_16 : decode cX3_needSetting 16 = .ok (.invokespecial 295, 3) := by decide +kernel
theorem dX3_needSetting_19 : decode cX3_needSetting 19 = .ok (.athrow, 1) := by decide +kernel
theorem dX3_needSetting_20 : decode cX3_needSetting 20 = .ok (.return_, 1) := by decide +kernel
theorem dX3_needAtLeastOne_0 : decode cX3_needAtLeastOne 0 = .ok (.iload_n 0, 1) := by decide +kernel
theorem dX3_needAtLeastOne_1 : decode cX3_needAtLeastOne 1 = .ok (.iconst 1, 1) := by decide +kernel
theorem dX3_needAtLeastOne_2 : decode cX3_needAtLeastOne 2 = .ok (.if_icmp .ge 14, 3) := by decide +kernel
theorem dX3_needAtLeastOne_5 : decode cX3_needAtLeastOne 5 = .ok (.new 34, 3) := by decide +kernel
theorem dX3_needAtLeastOne_8 : decode cX3_needAtLeastOne 8 = .ok (.dup, 1) := by decide +kernel
theorem dX3_needAtLeastOne_9 : decode cX3_needAtLeastOne 9 = .ok (.ldc_w 302, 3) := by decide +kernel
theorem dX3_needAtLeastOne_12 : decode cX3_needAtLeastOne 12 = .ok (.invokespecial 38, 3) := by decide +kernel
theorem dX3_needAtLeastOne_15 : decode cX3_needAtLeastOne 15 = .ok (.athrow, 1) := by decide +kernel
theorem dX3_needAtLeastOne_16 : decode cX3_needAtLeastOne 16 = .ok (.return_, 1) := by decide +kernel
theorem dX3_needInYard_0 : decode cX3_needInYard 0 = .ok (.aload_n 0, 1) := by decide +kernel
theorem dX3_needInYard_1 : decode cX3_needInYard 1 = .ok (.getfield 10, 3) := by decide +kernel
theorem dX3_needInYard_4 : decode cX3_needInYard 4 = .ok (.iload_n 1, 1) := by decide +kernel
theorem dX3_needInYard_5 : decode cX3_needInYard 5 = .ok (.invokevirtual 251, 3) := by decide +kernel
theorem dX3_needInYard_8 : decode cX3_needInYard 8 = .ok (.ifCond .ne 14, 3) := by decide +kernel
theorem dX3_needInYard_11 : decode cX3_needInYard 11 = .ok (.new 45, 3) := by decide +kernel
theorem dX3_needInYard_14 : decode cX3_needInYard 14 = .ok (.dup, 1) := by decide +kernel
theorem dX3_needInYard_15 : decode cX3_needInYard 15 = .ok (.ldc_w 304, 3) := by decide +kernel
theorem dX3_needInYard_18 : decode cX3_needInYard 18 = .ok (.invokespecial 49, 3) := by decide +kernel
theorem dX3_needInYard_21 : decode cX3_needInYard 21 = .ok (.athrow, 1) := by decide +kernel
theorem dX3_needInYard_22 : decode cX3_needInYard 22 = .ok (.return_, 1) := by decide +kernel
theorem dX3_needOnSite_0 : decode cX3_needOnSite 0 = .ok (.aload_n 0, 1) := by decide +kernel
theorem dX3_needOnSite_1 : decode cX3_needOnSite 1 = .ok (.getfield 10, 3) := by decide +kernel
theorem dX3_needOnSite_4 : decode cX3_needOnSite 4 = .ok (.iload_n 1, 1) := by decide +kernel
theorem dX3_needOnSite_5 : decode cX3_needOnSite 5 = .ok (.invokevirtual 306, 3) := by decide +kernel
theorem dX3_needOnSite_8 : decode cX3_needOnSite 8 = .ok (.ifCond .ne 14, 3) := by decide +kernel
theorem dX3_needOnSite_11 : decode cX3_needOnSite 11 = .ok (.new 45, 3) := by decide +kernel
theorem dX3_needOnSite_14 : decode cX3_needOnSite 14 = .ok (.dup, 1) := by decide +kernel
theorem dX3_needOnSite_15 : decode cX3_needOnSite 15 = .ok (.ldc_w 309, 3) := by decide +kernel
theorem dX3_needOnSite_18 : decode cX3_needOnSite 18 = .ok (.invokespecial 49, 3) := by decide +kernel
theorem dX3_needOnSite_21 : decode cX3_needOnSite 21 = .ok (.athrow, 1) := by decide +kernel
theorem dX3_needOnSite_22 : decode cX3_needOnSite 22 = .ok (.return_, 1) := by decide +kernel
theorem dX3_needStock_0 : decode cX3_needStock 0 = .ok (.aload_n 0, 1) := by decide +kernel
theorem dX3_needStock_1 : decode cX3_needStock 1 = .ok (.getfield 10, 3) := by decide +kernel
theorem dX3_needStock_4 : decode cX3_needStock 4 = .ok (.iload_n 1, 1) := by decide +kernel
theorem dX3_needStock_5 : decode cX3_needStock 5 = .ok (.iload_n 2, 1) := by decide +kernel
theorem dX3_needStock_6 : decode cX3_needStock 6 = .ok (.invokevirtual 311, 3) := by decide +kernel
theorem dX3_needStock_9 : decode cX3_needStock 9 = .ok (.iload_n 3, 1) := by decide +kernel
theorem dX3_needStock_10 : decode cX3_needStock 10 = .ok (.if_icmp .ge 14, 3) := by decide +kernel
theorem dX3_needStock_13 : decode cX3_needStock 13 = .ok (.new 45, 3) := by decide +kernel
theorem dX3_needStock_16 : decode cX3_needStock 16 = .ok (.dup, 1) := by decide +kernel
theorem dX3_needStock_17 : decode cX3_needStock 17 = .ok (.ldc_w 314, 3) := by decide +kernel
theorem dX3_needStock_20 : decode cX3_needStock 20 = .ok (.invokespecial 49, 3) := by decide +kernel
theorem dX3_needStock_23 : decode cX3_needStock 23 = .ok (.athrow, 1) := by decide +kernel
theorem dX3_needStock_24 : decode cX3_needStock 24 = .ok (.return_, 1) := by decide +kernel
theorem dX3_isSettingValue_0 : decode cX3_isSettingValue 0 = .ok (.iload_n 0, 1) := by decide +kernel
theorem dX3_isSettingValue_1 : decode cX3_isSettingValue 1 = .ok (.ifCond .ne 19, 3) := by decide +kernel
theorem dX3_isSettingValue_4 : decode cX3_isSettingValue 4 = .ok (.iload_n 1, 1) := by decide +kernel
theorem dX3_isSettingValue_5 : decode cX3_isSettingValue 5 = .ok (.ifCond .lt 13, 3) := by decide +kernel
theorem dX3_isSettingValue_8 : decode cX3_isSettingValue 8 = .ok (.iload_n 1, 1) := by decide +kernel
theorem dX3_isSettingValue_9 : decode cX3_isSettingValue 9 = .ok (.bipush 90, 2) := by decide +kernel
theorem dX3_isSettingValue_11 : decode cX3_isSettingValue 11 = .ok (.if_icmp .gt 7, 3) := by decide +kernel
theorem dX3_isSettingValue_14 : decode cX3_isSettingValue 14 = .ok (.iconst 1, 1) := by decide +kernel
theorem dX3_isSettingValue_15 : decode cX3_isSettingValue 15 = .ok (.goto 4, 3) := by decide +kernel
theorem dX3_isSettingValue_18 : decode cX3_isSettingValue 18 = .ok (.iconst 0, 1) := by decide +kernel
theorem dX3_isSettingValue_19 : decode cX3_isSettingValue 19 = .ok (.ireturn, 1) := by decide +kernel
theorem dX3_isSettingValue_20 : decode cX3_isSettingValue 20 = .ok (.iload_n 1, 1) := by decide +kernel
theorem dX3_isSettingValue_21 : decode cX3_isSettingValue 21 = .ok (.iconst 1, 1) := by decide +kernel
theorem dX3_isSettingValue_22 : decode cX3_isSettingValue 22 = .ok (.if_icmp .lt 13, 3) := by decide +kernel
theorem dX3_isSettingValue_25 : decode cX3_isSettingValue 25 = .ok (.iload_n 1, 1) := by decide +kernel
theorem dX3_isSettingValue_26 : decode cX3_isSettingValue 26 = .ok (.bipush 99, 2) := by decide +kernel
theorem dX3_isSettingValue_28 : decode cX3_isSettingValue 28 = .ok (.if_icmp .gt 7, 3) := by decide +kernel
theorem dX3_isSettingValue_31 : decode cX3_isSettingValue 31 = .ok (.iconst 1, 1) := by decide +kernel
theorem dX3_isSettingValue_32 : decode cX3_isSettingValue 32 = .ok (.goto 4, 3) := by decide +kernel
theorem dX3_isSettingValue_35 : decode cX3_isSettingValue 35 = .ok (.iconst 0, 1) := by decide +kernel
theorem dX3_isSettingValue_36 : decode cX3_isSettingValue 36 = .ok (.ireturn, 1) := by decide +kernel
theorem dX3_isBundleWhat_0 : decode cX3_isBundleWhat 0 = .ok (.iload_n 0, 1) := by decide +kernel
theorem dX3_isBundleWhat_1 : decode cX3_isBundleWhat 1 = .ok (.ifCond .lt 19, 3) := by decide +kernel
theorem dX3_isBundleWhat_4 : decode cX3_isBundleWhat 4 = .ok (.iload_n 0, 1) := by decide +kernel
theorem dX3_isBundleWhat_5 : decode cX3_isBundleWhat 5 = .ok (.bipush 13, 2) := by decide +kernel
theorem dX3_isBundleWhat_7 : decode cX3_isBundleWhat 7 = .ok (.if_icmp .gt 13, 3) := by decide +kernel
theorem dX3_isBundleWhat_10 : decode cX3_isBundleWhat 10 = .ok (.iload_n 0, 1) := by decide +kernel
theorem dX3_isBundleWhat_11 : decode cX3_isBundleWhat 11 = .ok (.bipush 9, 2) := by decide +kernel
theorem dX3_isBundleWhat_13 : decode cX3_isBundleWhat 13 = .ok (.if_icmp .eq 7, 3) := by decide +kernel
theorem dX3_isBundleWhat_16 : decode cX3_isBundleWhat 16 = .ok (.iconst 1, 1) := by decide +kernel
theorem dX3_isBundleWhat_17 : decode cX3_isBundleWhat 17 = .ok (.goto 4, 3) := by decide +kernel
theorem dX3_isBundleWhat_20 : decode cX3_isBundleWhat 20 = .ok (.iconst 0, 1) := by decide +kernel
theorem dX3_isBundleWhat_21 : decode cX3_isBundleWhat 21 = .ok (.ireturn, 1) := by decide +kernel
theorem dX3_carryOut_0 : decode cX3_carryOut 0 = .ok (.aload_n 0, 1) := by decide +kernel
theorem dX3_carryOut_1 : decode cX3_carryOut 1 = .ok (.getfield 26, 3) := by decide +kernel
theorem dX3_carryOut_4 : decode cX3_carryOut 4 = .ok (.getfield 316, 3) := by decide +kernel
theorem dX3_carryOut_7 : decode cX3_carryOut 7 = .ok (.lookupswitch 103 #[(98, 79), (100, 91), (104, 41), (109, 60)], 41) := by decide +kernel
theorem dX3_carryOut_48 : decode cX3_carryOut 48 = .ok (.aload_n 0, 1) := by decide +kernel
theorem dX3_carryOut_49 : decode cX3_carryOut 49 = .ok (.aload_n 0, 1) := by decide +kernel
theorem dX3_carryOut_50 : decode cX3_carryOut 50 = .ok (.getfield 26, 3) := by decide +kernel
theorem dX3_carryOut_53 : decode cX3_carryOut 53 = .ok (.getfield 319, 3) := by decide +kernel
theorem dX3_carryOut_56 : decode cX3_carryOut 56 = .ok (.aload_n 0, 1) := by decide +kernel
theorem dX3_carryOut_57 : decode cX3_carryOut 57 = .ok (.getfield 26, 3) := by decide +kernel
theorem dX3_carryOut_60 : decode cX3_carryOut 60 = .ok (.getfield 322, 3) := by decide +kernel
theorem dX3_carryOut_63 : decode cX3_carryOut 63 = .ok (.invokevirtual 325, 3) := by decide +kernel
theorem dX3_carryOut_66 : decode cX3_carryOut 66 = .ok (.ireturn, 1) := by decide +kernel
theorem dX3_carryOut_67 : decode cX3_carryOut 67 = .ok (.aload_n 0, 1) := by decide +kernel
theorem dX3_carryOut_68 : decode cX3_carryOut 68 = .ok (.aload_n 0, 1) := by decide +kernel
theorem dX3_carryOut_69 : decode cX3_carryOut 69 = .ok (.getfield 26, 3) := by decide +kernel
theorem dX3_carryOut_72 : decode cX3_carryOut 72 = .ok (.getfield 319, 3) := by decide +kernel
theorem dX3_carryOut_75 : decode cX3_carryOut 75 = .ok (.aload_n 0, 1) := by decide +kernel
theorem dX3_carryOut_76 : decode cX3_carryOut 76 = .ok (.getfield 26, 3) := by decide +kernel
theorem dX3_carryOut_79 : decode cX3_carryOut 79 = .ok (.getfield 322, 3) := by decide +kernel
theorem dX3_carryOut_82 : decode cX3_carryOut 82 = .ok (.invokevirtual 328, 3) := by decide +kernel
theorem dX3_carryOut_85 : decode cX3_carryOut 85 = .ok (.ireturn, 1) := by decide +kernel
theorem dX3_carryOut_86 : decode cX3_carryOut 86 = .ok (.aload_n 0, 1) := by decide +kernel
theorem dX3_carryOut_87 : decode cX3_carryOut 87 = .ok (.aload_n 0, 1) := by decide +kernel
theorem dX3_carryOut_88 : decode cX3_carryOut 88 = .ok (.getfield 26, 3) := by decide +kernel
theorem dX3_carryOut_91 : decode cX3_carryOut 91 = .ok (.getfield 319, 3) := by decide +kernel
theorem dX3_carryOut_94 : decode cX3_carryOut 94 = .ok (.invokevirtual 331, 3) := by decide +kernel
theorem dX3_carryOut_97 : decode cX3_carryOut 97 = .ok (.ireturn, 1) := by decide +kernel
theorem dX3_carryOut_98 : decode cX3_carryOut 98 = .ok (.aload_n 0, 1) := by decide +kernel
theorem dX3_carryOut_99 : decode cX3_carryOut 99 = .ok (.aload_n 0, 1) := by decide +kernel
theorem dX3_carryOut_100 : decode cX3_carryOut 100 = .ok (.getfield 26, 3) := by decide +kernel
theorem dX3_carryOut_103 : decode cX3_carryOut 103 = .ok (.getfield 319, 3) := by decide +kernel
theorem dX3_carryOut_106 : decode cX3_carryOut 106 = .ok (.invokevirtual 334, 3) := by decide +kernel
theorem dX3_carryOut_109 : decode cX3_carryOut 109 = .ok (.ireturn, 1) := by decide +kernel
theorem dX3_carryOut_110 : decode cX3_carryOut 110 = .ok (.iconst 0, 1) := by decide +kernel
theorem dX3_carryOut_111 : decode cX3_carryOut 111 = .ok (.ireturn, 1) := by decide +kernel
theorem dX3_hireByText_0 : decode cX3_hireByText 0 = .ok (.aload_n 0, 1) := by decide +kernel
theorem dX3_hireByText_1 : decode cX3_hireByText 1 = .ok (.getfield 10, 3) := by decide +kernel
theorem dX3_hireByText_4 : decode cX3_hireByText 4 = .ok (.invokevirtual 104, 3) := by decide +kernel
theorem dX3_hireByText_7 : decode cX3_hireByText 7 = .ok (.iload_n 2, 1) := by decide +kernel
theorem dX3_hireByText_8 : decode cX3_hireByText 8 = .ok (.if_icmp .ge 5, 3) := by decide +kernel
theorem dX3_hireByText_11 : decode cX3_hireByText 11 = .ok (.iconst 0, 1) := by decide +kernel
theorem dX3_hireByText_12 : decode cX3_hireByText 12 = .ok (.ireturn, 1) := by decide +kernel
theorem dX3_hireByText_13 : decode cX3_hireByText 13 = .ok (.aload_n 0, 1) := by decide +kernel
theorem dX3_hireByText_14 : decode cX3_hireByText 14 = .ok (.getfield 10, 3) := by decide +kernel
theorem dX3_hireByText_17 : decode cX3_hireByText 17 = .ok (.iload_n 1, 1) := by decide +kernel
theorem dX3_hireByText_18 : decode cX3_hireByText 18 = .ok (.iload_n 2, 1) := by decide +kernel
theorem dX3_hireByText_19 : decode cX3_hireByText 19 = .ok (.invokevirtual 110, 3) := by decide +kernel
theorem dX3_hireByText_22 : decode cX3_hireByText 22 = .ok (.iconst 1, 1) := by decide +kernel
theorem dX3_hireByText_23 : decode cX3_hireByText 23 = .ok (.ireturn, 1) := by decide +kernel
theorem dX3_moveByText_0 : decode cX3_moveByText 0 = .ok (.aload_n 0, 1) := by decide +kernel
theorem dX3_moveByText_1 : decode cX3_moveByText 1 = .ok (.getfield 10, 3) := by decide +kernel
theorem dX3_moveByText_4 : decode cX3_moveByText 4 = .ok (.iload_n 1, 1) := by decide +kernel
theorem dX3_moveByText_5 : decode cX3_moveByText 5 = .ok (.iload_n 2, 1) := by decide +kernel
theorem dX3_moveByText_6 : decode cX3_moveByText 6 = .ok (.invokevirtual 113, 3) := by decide +kernel
theorem dX3_moveByText_9 : decode cX3_moveByText 9 = .ok (.ifCond .ne 5, 3) := by decide +kernel
theorem dX3_moveByText_12 : decode cX3_moveByText 12 = .ok (.iconst 0, 1) := by decide +kernel
theorem dX3_moveByText_13 : decode cX3_moveByText 13 = .ok (.ireturn, 1) := by decide +kernel
theorem dX3_moveByText_14 : decode cX3_moveByText 14 = .ok (.aload_n 0, 1) := by decide +kernel
theorem dX3_moveByText_15 : decode cX3_moveByText 15 = .ok (.getfield 10, 3) := by decide +kernel
theorem dX3_moveByText_18 : decode cX3_moveByText 18 = .ok (.iload_n 1, 1) := by decide +kernel
theorem dX3_moveByText_19 : decode cX3_moveByText 19 = .ok (.iload_n 2, 1) := by decide +kernel
theorem dX3_moveByText_20 : decode cX3_moveByText 20 = .ok (.invokevirtual 119, 3) := by decide +kernel
theorem dX3_moveByText_23 : decode cX3_moveByText 23 = .ok (.pop, 1) := by decide +kernel
theorem dX3_moveByText_24 : decode cX3_moveByText 24 = .ok (.iconst 1, 1) := by decide +kernel
theorem dX3_moveByText_25 : decode cX3_moveByText 25 = .ok (.ireturn, 1) := by decide +kernel
theorem dX3_bringByText_0 : decode cX3_bringByText 0 = .ok (.aload_n 0, 1) := by decide +kernel
theorem dX3_bringByText_1 : decode cX3_bringByText 1 = .ok (.getfield 10, 3) := by decide +kernel
theorem dX3_bringByText_4 : decode cX3_bringByText 4 = .ok (.iload_n 1, 1) := by decide +kernel
theorem dX3_bringByText_5 : decode cX3_bringByText 5 = .ok (.invokevirtual 306, 3) := by decide +kernel
theorem dX3_bringByText_8 : decode cX3_bringByText 8 = .ok (.ifCond .ne 5, 3) := by decide +kernel
theorem dX3_bringByText_11 : decode cX3_bringByText 11 = .ok (.iconst 0, 1) := by decide +kernel
theorem dX3_bringByText_12 : decode cX3_bringByText 12 = .ok (.ireturn, 1) := by decide +kernel
theorem dX3_bringByText_13 : decode cX3_bringByText 13 = .ok (.aload_n 0, 1) := by decide +kernel
theorem dX3_bringByText_14 : decode cX3_bringByText 14 = .ok (.getfield 10, 3) := by decide +kernel
theorem dX3_bringByText_17 : decode cX3_bringByText 17 = .ok (.iload_n 1, 1) := by decide +kernel
theorem dX3_bringByText_18 : decode cX3_bringByText 18 = .ok (.invokevirtual 126, 3) := by decide +kernel
theorem dX3_bringByText_21 : decode cX3_bringByText 21 = .ok (.pop, 1) := by decide +kernel
theorem dX3_bringByText_22 : decode cX3_bringByText 22 = .ok (.iconst 1, 1) := by decide +kernel
theorem dX3_bringByText_23 : decode cX3_bringByText 23 = .ok (.ireturn, 1) := by decide +kernel
theorem dX3_passByText_0 : decode cX3_passByText 0 = .ok (.aload_n 0, 1) := by decide +kernel
theorem dX3_passByText_1 : decode cX3_passByText 1 = .ok (.getfield 10, 3) := by decide +kernel
theorem dX3_passByText_4 : decode cX3_passByText 4 = .ok (.iload_n 1, 1) := by decide +kernel
theorem dX3_passByText_5 : decode cX3_passByText 5 = .ok (.invokevirtual 148, 3) := by decide +kernel
theorem dX3_passByText_8 : decode cX3_passByText 8 = .ok (.ifCond .ne 5, 3) := by decide +kernel
theorem dX3_passByText_11 : decode cX3_passByText 11 = .ok (.iconst 0, 1) := by decide +kernel
theorem dX3_passByText_12 : decode cX3_passByText 12 = .ok (.ireturn, 1) := by decide +kernel
theorem dX3_passByText_13 : decode cX3_passByText 13 = .ok (.aload_n 0, 1) := by decide +kernel
theorem dX3_passByText_14 : decode cX3_passByText 14 = .ok (.getfield 10, 3) := by decide +kernel
theorem dX3_passByText_17 : decode cX3_passByText 17 = .ok (.dup, 1) := by decide +kernel
theorem dX3_passByText_18 : decode cX3_passByText 18 = .ok (.getfield 154, 3) := by decide +kernel
theorem dX3_passByText_21 : decode cX3_passByText 21 = .ok (.iload_n 1, 1) := by decide +kernel
theorem dX3_passByText_22 : decode cX3_passByText 22 = .ok (.iadd, 1) := by decide +kernel
theorem dX3_passByText_23 : decode cX3_passByText 23 = .ok (.putfield 154, 3) := by decide +kernel
theorem dX3_passByText_26 : decode cX3_passByText 26 = .ok (.iconst 1, 1) := by decide +kernel
theorem dX3_passByText_27 : decode cX3_passByText 27 = .ok (.ireturn, 1) := by decide +kernel
theorem dX3_countValue_0 : decode cX3_countValue 0 = .ok (.iload_n 1, 1) := by decide +kernel
theorem dX3_countValue_1 : decode cX3_countValue 1 = .ok (.bipush 9, 2) := by decide +kernel
theorem dX3_countValue_3 : decode cX3_countValue 3 = .ok (.if_icmp .ne 13, 3) := by decide +kernel
theorem dX3_countValue_6 : decode cX3_countValue 6 = .ok (.aload_n 0, 1) := by decide +kernel
theorem dX3_countValue_7 : decode cX3_countValue 7 = .ok (.getfield 19, 3) := by decide +kernel
theorem dX3_countValue_10 : decode cX3_countValue 10 = .ok (.getfield 205, 3) := by decide +kernel
theorem dX3_countValue_13 : decode cX3_countValue 13 = .ok (.goto 11, 3) := by decide +kernel
theorem dX3_countValue_16 : decode cX3_countValue 16 = .ok (.aload_n 0, 1) := by decide +kernel
theorem dX3_countValue_17 : decode cX3_countValue 17 = .ok (.getfield 10, 3) := by decide +kernel
theorem dX3_countValue_20 : decode cX3_countValue 20 = .ok (.iload_n 1, 1) := by decide +kernel
theorem dX3_countValue_21 : decode cX3_countValue 21 = .ok (.invokevirtual 337, 3) := by decide +kernel
theorem dX3_countValue_24 : decode cX3_countValue 24 = .ok (.ireturn, 1) := by decide +kernel
theorem dX3_wouldBeWhole_0 : decode cX3_wouldBeWhole 0 = .ok (.iconst 1, 1) := by decide +kernel
theorem dX3_wouldBeWhole_1 : decode cX3_wouldBeWhole 1 = .ok (.istore_n 2, 1) := by decide +kernel
theorem dX3_wouldBeWhole_2 : decode cX3_wouldBeWhole 2 = .ok (.iconst 0, 1) := by decide +kernel
theorem dX3_wouldBeWhole_3 : decode cX3_wouldBeWhole 3 = .ok (.istore_n 3, 1) := by decide +kernel
theorem dX3_wouldBeWhole_4 : decode cX3_wouldBeWhole 4 = .ok (.iload_n 3, 1) := by decide +kernel
theorem dX3_wouldBeWhole_5 : decode cX3_wouldBeWhole 5 = .ok (.iconst 4, 1) := by decide +kernel
theorem dX3_wouldBeWhole_6 : decode cX3_wouldBeWhole 6 = .ok (.if_icmp .ge 63, 3) := by decide +kernel
theorem dX3_wouldBeWhole_9 : decode cX3_wouldBeWhole 9 = .ok (.aload_n 0, 1) := by decide +kernel
theorem dX3_wouldBeWhole_10 : decode cX3_wouldBeWhole 10 = .ok (.getfield 10, 3) := by decide +kernel
theorem dX3_wouldBeWhole_13 : decode cX3_wouldBeWhole 13 = .ok (.iload_n 1, 1) := by decide +kernel
theorem dX3_wouldBeWhole_14 : decode cX3_wouldBeWhole 14 = .ok (.iload_n 3, 1) := by decide +kernel
theorem dX3_wouldBeWhole_15 : decode cX3_wouldBeWhole 15 = .ok (.invokevirtual 338, 3) := by decide +kernel
theorem dX3_wouldBeWhole_18 : decode cX3_wouldBeWhole 18 = .ok (.istore 4, 2) := by decide +kernel
theorem dX3_wouldBeWhole_20 : decode cX3_wouldBeWhole 20 = .ok (.iload 4, 2) := by decide +kernel
theorem dX3_wouldBeWhole_22 : decode cX3_wouldBeWhole 22 = .ok (.aload_n 0, 1) := by decide +kernel
theorem dX3_wouldBeWhole_23 : decode cX3_wouldBeWhole 23 = .ok (.getfield 30, 3) := by decide +kernel
theorem dX3_wouldBeWhole_26 : decode cX3_wouldBeWhole 26 = .ok (.iload_n 3, 1) := by decide +kernel
theorem dX3_wouldBeWhole_27 : decode cX3_wouldBeWhole 27 = .ok (.invokestatic 64, 3) := by decide +kernel
theorem dX3_wouldBeWhole_30 : decode cX3_wouldBeWhole 30 = .ok (.invokestatic 341, 3) := by decide +kernel
theorem dX3_wouldBeWhole_33 : decode cX3_wouldBeWhole 33 = .ok (.istore 5, 2) := by decide +kernel
theorem dX3_wouldBeWhole_35 : decode cX3_wouldBeWhole 35 = .ok (.aload_n 0, 1) := by decide +kernel
theorem dX3_wouldBeWhole_36 : decode cX3_wouldBeWhole 36 = .ok (.getfield 30, 3) := by decide +kernel
theorem dX3_wouldBeWhole_39 : decode cX3_wouldBeWhole 39 = .ok (.iload_n 3, 1) := by decide +kernel
theorem dX3_wouldBeWhole_40 : decode cX3_wouldBeWhole 40 = .ok (.iload 5, 2) := by decide +kernel
theorem dX3_wouldBeWhole_42 : decode cX3_wouldBeWhole 42 = .ok (.ineg, 1) := by decide +kernel
theorem dX3_wouldBeWhole_43 : decode cX3_wouldBeWhole 43 = .ok (.invokestatic 142, 3) := by decide +kernel
theorem dX3_wouldBeWhole_46 : decode cX3_wouldBeWhole 46 = .ok (.iload_n 2, 1) := by decide +kernel
theorem dX3_wouldBeWhole_47 : decode cX3_wouldBeWhole 47 = .ok (.ifCond .eq 14, 3) := by decide +kernel
theorem dX3_wouldBeWhole_50 : decode cX3_wouldBeWhole 50 = .ok (.iload 5, 2) := by decide +kernel
theorem dX3_wouldBeWhole_52 : decode cX3_wouldBeWhole 52 = .ok (.iload 4, 2) := by decide +kernel
theorem dX3_wouldBeWhole_54 : decode cX3_wouldBeWhole 54 = .ok (.if_icmp .ne 7, 3) := by decide +kernel
theorem dX3_wouldBeWhole_57 : decode cX3_wouldBeWhole 57 = .ok (.iconst 1, 1) := by decide +kernel
theorem dX3_wouldBeWhole_58 : decode cX3_wouldBeWhole 58 = .ok (.goto 4, 3) := by decide +kernel
theorem dX3_wouldBeWhole_61 : decode cX3_wouldBeWhole 61 = .ok (.iconst 0, 1) := by decide +kernel
theorem dX3_wouldBeWhole_62 : decode cX3_wouldBeWhole 62 = .ok (.istore_n 2, 1) := by decide +kernel
theorem dX3_wouldBeWhole_63 : decode cX3_wouldBeWhole 63 = .ok (.iinc 3 1, 3) := by decide +kernel
theorem dX3_wouldBeWhole_66 : decode cX3_wouldBeWhole 66 = .ok (.goto (-62), 3) := by decide +kernel
theorem dX3_wouldBeWhole_69 : decode cX3_wouldBeWhole 69 = .ok (.iload_n 2, 1) := by decide +kernel
theorem dX3_wouldBeWhole_70 : decode cX3_wouldBeWhole 70 = .ok (.ireturn, 1) := by decide +kernel
theorem dX3_mix_0 : decode cX3_mix 0 = .ok (.ldc2_w 346, 3) := by decide +kernel
theorem dX3_mix_3 : decode cX3_mix 3 = .ok (.lload_n 0, 1) := by decide +kernel
theorem dX3_mix_4 : decode cX3_mix 4 = .ok (.lmul, 1) := by decide +kernel
theorem dX3_mix_5 : decode cX3_mix 5 = .ok (.lload_n 2, 1) := by decide +kernel
theorem dX3_mix_6 : decode cX3_mix 6 = .ok (.ladd, 1) := by decide +kernel
theorem dX3_mix_7 : decode cX3_mix 7 = .ok (.lreturn, 1) := by decide +kernel
theorem dX3_mixSet_0 : decode cX3_mixSet 0 = .ok (.lload_n 1, 1) := by decide +kernel
theorem dX3_mixSet_1 : decode cX3_mixSet 1 = .ok (.lstore 4, 2) := by decide +kernel
theorem dX3_mixSet_3 : decode cX3_mixSet 3 = .ok (.iconst 0, 1) := by decide +kernel
theorem dX3_mixSet_4 : decode cX3_mixSet 4 = .ok (.istore 6, 2) := by decide +kernel
theorem dX3_mixSet_6 : decode cX3_mixSet 6 = .ok (.iload 6, 2) := by decide +kernel
theorem dX3_mixSet_8 : decode cX3_mixSet 8 = .ok (.bipush 13, 2) := by decide +kernel
theorem dX3_mixSet_10 : decode cX3_mixSet 10 = .ok (.if_icmp .gt 35, 3) := by decide +kernel
theorem dX3_mixSet_13 : decode cX3_mixSet 13 = .ok (.iload 6, 2) := by decide +kernel
theorem dX3_mixSet_15 : decode cX3_mixSet 15 = .ok (.invokestatic 213, 3) := by decide +kernel
theorem dX3_mixSet_18 : decode cX3_mixSet 18 = .ok (.ifCond .eq 21, 3) := by decide +kernel
theorem dX3_mixSet_21 : decode cX3_mixSet 21 = .ok (.lload 4, 2) := by decide +kernel
theorem dX3_mixSet_23 : decode cX3_mixSet 23 = .ok (.aload_n 0, 1) := by decide +kernel
theorem dX3_mixSet_24 : decode cX3_mixSet 24 = .ok (.getfield 10, 3) := by decide +kernel
theorem dX3_mixSet_27 : decode cX3_mixSet 27 = .ok (.iload_n 3, 1) := by decide +kernel
theorem dX3_mixSet_28 : decode cX3_mixSet 28 = .ok (.iload 6, 2) := by decide +kernel
theorem dX3_mixSet_30 : decode cX3_mixSet 30 = .ok (.invokevirtual 218, 3) := by decide +kernel
theorem dX3_mixSet_33 : decode cX3_mixSet 33 = .ok (.i2l, 1) := by decide +kernel
theorem dX3_mixSet_34 : decode cX3_mixSet 34 = .ok (.invokestatic 262, 3) := by decide +kernel
theorem dX3_mixSet_37 : decode cX3_mixSet 37 = .ok (.lstore 4, 2) := by decide +kernel
theorem dX3_mixSet_39 : decode cX3_mixSet 39 = .ok (.iinc 6 1, 3) := by decide +kernel
theorem dX3_mixSet_42 : decode cX3_mixSet 42 = .ok (.goto (-36), 3) := by decide +kernel
theorem dX3_mixSet_45 : decode cX3_mixSet 45 = .ok (.lload 4, 2) := by decide +kernel
theorem dX3_mixSet_47 : decode cX3_mixSet 47 = .ok (.aload_n 0, 1) := by decide +kernel
theorem dX3_mixSet_48 : decode cX3_mixSet 48 = .ok (.getfield 10, 3) := by decide +kernel
theorem dX3_mixSet_51 : decode cX3_mixSet 51 = .ok (.iload_n 3, 1) := by decide +kernel
theorem dX3_mixSet_52 : decode cX3_mixSet 52 = .ok (.bipush 30, 2) := by decide +kernel
theorem dX3_mixSet_54 : decode cX3_mixSet 54 = .ok (.invokevirtual 236, 3) := by decide +kernel
theorem dX3_mixSet_57 : decode cX3_mixSet 57 = .ok (.i2l, 1) := by decide +kernel
theorem dX3_mixSet_58 : decode cX3_mixSet 58 = .ok (.invokestatic 262, 3) := by decide +kernel
theorem dX3_mixSet_61 : decode cX3_mixSet 61 = .ok (.lstore 4, 2) := by decide +kernel
theorem dX3_mixSet_63 : decode cX3_mixSet 63 = .ok (.iconst 0, 1) := by decide +kernel
theorem dX3_mixSet_64 : decode cX3_mixSet 64 = .ok (.istore 6, 2) := by decide +kernel
theorem dX3_mixSet_66 : decode cX3_mixSet 66 = .ok (.iload 6, 2) := by decide +kernel
theorem dX3_mixSet_68 : decode cX3_mixSet 68 = .ok (.bipush 6, 2) := by decide +kernel
theorem dX3_mixSet_70 : decode cX3_mixSet 70 = .ok (.if_icmp .ge 29, 3) := by decide +kernel
theorem dX3_mixSet_73 : decode cX3_mixSet 73 = .ok (.lload 4, 2) := by decide +kernel
theorem dX3_mixSet_75 : decode cX3_mixSet 75 = .ok (.aload_n 0, 1) := by decide +kernel
theorem dX3_mixSet_76 : decode cX3_mixSet 76 = .ok (.getfield 10, 3) := by decide +kernel
theorem dX3_mixSet_79 : decode cX3_mixSet 79 = .ok (.iload_n 3, 1) := by decide +kernel
theorem dX3_mixSet_80 : decode cX3_mixSet 80 = .ok (.bipush 100, 2) := by decide +kernel
theorem dX3_mixSet_82 : decode cX3_mixSet 82 = .ok (.iload 6, 2) := by decide +kernel
theorem dX3_mixSet_84 : decode cX3_mixSet 84 = .ok (.invokevirtual 241, 3) := by decide +kernel
theorem dX3_mixSet_87 : decode cX3_mixSet 87 = .ok (.i2l, 1) := by decide +kernel
theorem dX3_mixSet_88 : decode cX3_mixSet 88 = .ok (.invokestatic 262, 3) := by decide +kernel
theorem dX3_mixSet_91 : decode cX3_mixSet 91 = .ok (.lstore 4, 2) := by decide +kernel
theorem dX3_mixSet_93 : decode cX3_mixSet 93 = .ok (.iinc 6 1, 3) := by decide +kernel
theorem dX3_mixSet_96 : decode cX3_mixSet 96 = .ok (.goto (-30), 3) := by decide +kernel
theorem dX3_mixSet_99 : decode cX3_mixSet 99 = .ok (.lload 4, 2) := by decide +kernel
theorem dX3_mixSet_101 : decode cX3_mixSet 101 = .ok (.lreturn, 1) := by decide +kernel
theorem dX3_mixSite_0 : decode cX3_mixSite 0 = .ok (.lload_n 1, 1) := by decide +kernel
theorem dX3_mixSite_1 : decode cX3_mixSite 1 = .ok (.lstore 4, 2) := by decide +kernel
theorem dX3_mixSite_3 : decode cX3_mixSite 3 = .ok (.iconst 0, 1) := by decide +kernel
theorem dX3_mixSite_4 : decode cX3_mixSite 4 = .ok (.istore 6, 2) := by decide +kernel
theorem dX3_mixSite_6 : decode cX3_mixSite 6 = .ok (.iload 6, 2) := by decide +kernel
theorem dX3_mixSite_8 : decode cX3_mixSite 8 = .ok (.bipush 7, 2) := by decide +kernel
theorem dX3_mixSite_10 : decode cX3_mixSite 10 = .ok (.if_icmp .gt 27, 3) := by decide +kernel
theorem dX3_mixSite_13 : decode cX3_mixSite 13 = .ok (.lload 4, 2) := by decide +kernel
theorem dX3_mixSite_15 : decode cX3_mixSite 15 = .ok (.aload_n 0, 1) := by decide +kernel
theorem dX3_mixSite_16 : decode cX3_mixSite 16 = .ok (.getfield 10, 3) := by decide +kernel
theorem dX3_mixSite_19 : decode cX3_mixSite 19 = .ok (.iload_n 3, 1) := by decide +kernel
theorem dX3_mixSite_20 : decode cX3_mixSite 20 = .ok (.iload 6, 2) := by decide +kernel
theorem dX3_mixSite_22 : decode cX3_mixSite 22 = .ok (.invokevirtual 223, 3) := by decide +kernel
theorem dX3_mixSite_25 : decode cX3_mixSite 25 = .ok (.i2l, 1) := by decide +kernel
theorem dX3_mixSite_26 : decode cX3_mixSite 26 = .ok (.invokestatic 262, 3) := by decide +kernel
theorem dX3_mixSite_29 : decode cX3_mixSite 29 = .ok (.lstore 4, 2) := by decide +kernel
theorem dX3_mixSite_31 : decode cX3_mixSite 31 = .ok (.iinc 6 1, 3) := by decide +kernel
theorem dX3_mixSite_34 : decode cX3_mixSite 34 = .ok (.goto (-28), 3) := by decide +kernel
theorem dX3_mixSite_37 : decode cX3_mixSite 37 = .ok (.lload 4, 2) := by decide +kernel
theorem dX3_mixSite_39 : decode cX3_mixSite 39 = .ok (.aload_n 0, 1) := by decide +kernel
theorem dX3_mixSite_40 : decode cX3_mixSite 40 = .ok (.getfield 10, 3) := by decide +kernel
theorem dX3_mixSite_43 : decode cX3_mixSite 43 = .ok (.iload_n 3, 1) := by decide +kernel
theorem dX3_mixSite_44 : decode cX3_mixSite 44 = .ok (.invokevirtual 244, 3) := by decide +kernel
theorem dX3_mixSite_47 : decode cX3_mixSite 47 = .ok (.i2l, 1) := by decide +kernel
theorem dX3_mixSite_48 : decode cX3_mixSite 48 = .ok (.invokestatic 262, 3) := by decide +kernel
theorem dX3_mixSite_51 : decode cX3_mixSite 51 = .ok (.lreturn, 1) := by decide +kernel
theorem dX3_mixText_0 : decode cX3_mixText 0 = .ok (.lload_n 1, 1) := by decide +kernel
theorem dX3_mixText_1 : decode cX3_mixText 1 = .ok (.aload_n 0, 1) := by decide +kernel
theorem dX3_mixText_2 : decode cX3_mixText 2 = .ok (.getfield 26, 3) := by decide +kernel
theorem dX3_mixText_5 : decode cX3_mixText 5 = .ok (.getfield 173, 3) := by decide +kernel
theorem dX3_mixText_8 : decode cX3_mixText 8 = .ok (.i2l, 1) := by decide +kernel
theorem dX3_mixText_9 : decode cX3_mixText 9 = .ok (.invokestatic 262, 3) := by decide +kernel
theorem dX3_mixText_12 : decode cX3_mixText 12 = .ok (.lstore_n 3, 1) := by decide +kernel
theorem dX3_mixText_13 : decode cX3_mixText 13 = .ok (.iconst 0, 1) := by decide +kernel
theorem dX3_mixText_14 : decode cX3_mixText 14 = .ok (.istore 5, 2) := by decide +kernel
theorem dX3_mixText_16 : decode cX3_mixText 16 = .ok (.iload 5, 2) := by decide +kernel
theorem dX3_mixText_18 : decode cX3_mixText 18 = .ok (.aload_n 0, 1) := by decide +kernel
theorem dX3_mixText_19 : decode cX3_mixText 19 = .ok (.getfield 26, 3) := by decide +kernel
theorem dX3_mixText_22 : decode cX3_mixText 22 = .ok (.getfield 173, 3) := by decide +kernel
theorem dX3_mixText_25 : decode cX3_mixText 25 = .ok (.if_icmp .ge 27, 3) := by decide +kernel
theorem dX3_mixText_28 : decode cX3_mixText 28 = .ok (.lload_n 3, 1) := by decide +kernel
theorem dX3_mixText_29 : decode cX3_mixText 29 = .ok (.aload_n 0, 1) := by decide +kernel
theorem dX3_mixText_30 : decode cX3_mixText 30 = .ok (.getfield 26, 3) := by decide +kernel
theorem dX3_mixText_33 : decode cX3_mixText 33 = .ok (.getfield 348, 3) := by decide +kernel
theorem dX3_mixText_36 : decode cX3_mixText 36 = .ok (.iload 5, 2) := by decide +kernel
theorem dX3_mixText_38 : decode cX3_mixText 38 = .ok (.invokestatic 64, 3) := by decide +kernel
theorem dX3_mixText_41 : decode cX3_mixText 41 = .ok (.i2l, 1) := by decide +kernel
theorem dX3_mixText_42 : decode cX3_mixText 42 = .ok (.invokestatic 262, 3) := by decide +kernel
theorem dX3_mixText_45 : decode cX3_mixText 45 = .ok (.lstore_n 3, 1) := by decide +kernel
theorem dX3_mixText_46 : decode cX3_mixText 46 = .ok (.iinc 5 1, 3) := by decide +kernel
theorem dX3_mixText_49 : decode cX3_mixText 49 = .ok (.goto (-33), 3) := by decide +kernel
theorem dX3_mixText_52 : decode cX3_mixText 52 = .ok (.lload_n 3, 1) := by decide +kernel
theorem dX3_mixText_53 : decode cX3_mixText 53 = .ok (.lreturn, 1) := by decide +kernel
theorem dX3_bitsOfShare_0 : decode cX3_bitsOfShare 0 = .ok (.dload_n 0, 1) := by decide +kernel
theorem dX3_bitsOfShare_1 : decode cX3_bitsOfShare 1 = .ok (.dconst 0, 1) := by decide +kernel
theorem dX3_bitsOfShare_2 : decode cX3_bitsOfShare 2 = .ok (.dcmp .l, 1) := by decide +kernel
theorem dX3_bitsOfShare_3 : decode cX3_bitsOfShare 3 = .ok (.ifCond .gt 5, 3) := by decide +kernel
theorem dX3_bitsOfShare_6 : decode cX3_bitsOfShare 6 = .ok (.lconst 0, 1) := by decide +kernel
theorem dX3_bitsOfShare_7 : decode cX3_bitsOfShare 7 = .ok (.lreturn, 1) := by decide +kernel
theorem dX3_bitsOfShare_8 : decode cX3_bitsOfShare 8 = .ok (.dload_n 0, 1) := by decide +kernel
theorem dX3_bitsOfShare_9 : decode cX3_bitsOfShare 9 = .ok (.dstore_n 2, 1) := by decide +kernel
theorem dX3_bitsOfShare_10 : decode cX3_bitsOfShare 10 = .ok (.ldc2_w 351, 3) := by decide +kernel
theorem dX3_bitsOfShare_13 : decode cX3_bitsOfShare 13 = .ok (.lstore 4, 2) := by decide +kernel
theorem dX3_bitsOfShare_15 : decode cX3_bitsOfShare 15 = .ok (.iconst 0, 1) := by decide +kernel
theorem dX3_bitsOfShare_16 : decode cX3_bitsOfShare 16 = .ok (.istore 6, 2) := by decide +kernel
theorem dX3_bitsOfShare_18 : decode cX3_bitsOfShare 18 = .ok (.iload 6, 2) := by decide +kernel
theorem dX3_bitsOfShare_20 : decode cX3_bitsOfShare 20 = .ok (.sipush 1000, 3) := by decide +kernel
theorem dX3_bitsOfShare_23 : decode cX3_bitsOfShare 23 = .ok (.if_icmp .ge 27, 3) := by decide +kernel
theorem dX3_bitsOfShare_26 : decode cX3_bitsOfShare 26 = .ok (.dload_n 2, 1) := by decide +kernel
theorem dX3_bitsOfShare_27 : decode cX3_bitsOfShare 27 = .ok (.dconst 1, 1) := by decide +kernel
theorem dX3_bitsOfShare_28 : decode cX3_bitsOfShare 28 = .ok (.dcmp .g, 1) := by decide +kernel
theorem dX3_bitsOfShare_29 : decode cX3_bitsOfShare 29 = .ok (.ifCond .ge 21, 3) := by decide +kernel
theorem dX3_bitsOfShare_32 : decode cX3_bitsOfShare 32 = .ok (.dload_n 2, 1) := by decide +kernel
theorem dX3_bitsOfShare_33 : decode cX3_bitsOfShare 33 = .ok (.ldc2_w 353, 3) := by decide +kernel
theorem dX3_bitsOfShare_36 : decode cX3_bitsOfShare 36 = .ok (.dmul, 1) := by decide +kernel
theorem dX3_bitsOfShare_37 : decode cX3_bitsOfShare 37 = .ok (.dstore_n 2, 1) := by decide +kernel
theorem dX3_bitsOfShare_38 : decode cX3_bitsOfShare 38 = .ok (.lload 4, 2) := by decide +kernel
theorem dX3_bitsOfShare_40 : decode cX3_bitsOfShare 40 = .ok (.lconst 1, 1) := by decide +kernel
theorem dX3_bitsOfShare_41 : decode cX3_bitsOfShare 41 = .ok (.lsub, 1) := by decide +kernel
theorem dX3_bitsOfShare_42 : decode cX3_bitsOfShare 42 = .ok (.lstore 4, 2) := by decide +kernel
theorem dX3_bitsOfShare_44 : decode cX3_bitsOfShare 44 = .ok (.iinc 6 1, 3) := by decide +kernel
theorem dX3_bitsOfShare_47 : decode cX3_bitsOfShare 47 = .ok (.goto (-29), 3) := by decide +kernel
theorem dX3_bitsOfShare_50 : decode cX3_bitsOfShare 50 = .ok (.dload_n 2, 1) := by decide +kernel
theorem dX3_bitsOfShare_51 : decode cX3_bitsOfShare 51 = .ok (.dconst 1, 1) := by decide +kernel
theorem dX3_bitsOfShare_52 : decode cX3_bitsOfShare 52 = .ok (.dsub, 1) := by decide +kernel
theorem dX3_bitsOfShare_53 : decode cX3_bitsOfShare 53 = .ok (.ldc2_w 355, 3) := by decide +kernel
theorem dX3_bitsOfShare_56 : decode cX3_bitsOfShare 56 = .ok (.dmul, 1) := by decide +kernel
theorem dX3_bitsOfShare_57 : decode cX3_bitsOfShare 57 = .ok (.d2l, 1) := by decide +kernel
theorem dX3_bitsOfShare_58 : decode cX3_bitsOfShare 58 = .ok (.lstore 6, 2) := by decide +kernel
theorem dX3_bitsOfShare_60 : decode cX3_bitsOfShare 60 = .ok (.lload 4, 2) := by decide +kernel
theorem dX3_bitsOfShare_62 : decode cX3_bitsOfShare 62 = .ok (.bipush 52, 2) := by decide +kernel
theorem dX3_bitsOfShare_64 : decode cX3_bitsOfShare 64 = .ok (.lshl, 1) := by decide +kernel
theorem dX3_bitsOfShare_65 : decode cX3_bitsOfShare 65 = .ok (.lload 6, 2) := by decide +kernel
theorem dX3_bitsOfShare_67 : decode cX3_bitsOfShare 67 = .ok (.ladd, 1) := by decide +kernel
theorem dX3_bitsOfShare_68 : decode cX3_bitsOfShare 68 = .ok (.lreturn, 1) := by decide +kernel
theorem dX3_at_0 : decode cX3_at 0 = .ok (.aload_n 0, 1) := by decide +kernel
theorem dX3_at_1 : decode cX3_at 1 = .ok (.ifnull 19, 3) := by decide +kernel
theorem dX3_at_4 : decode cX3_at 4 = .ok (.iload_n 1, 1) := by decide +kernel
theorem dX3_at_5 : decode cX3_at 5 = .ok (.ifCond .lt 15, 3) := by decide +kernel
theorem dX3_at_8 : decode cX3_at 8 = .ok (.iload_n 1, 1) := by decide +kernel
theorem dX3_at_9 : decode cX3_at 9 = .ok (.aload_n 0, 1) := by decide +kernel
theorem dX3_at_10 : decode cX3_at 10 = .ok (.arraylength, 1) := by decide +kernel
theorem dX3_at_11 : decode cX3_at 11 = .ok (.if_icmp .ge 9, 3) := by decide +kernel
theorem dX3_at_14 : decode cX3_at 14 = .ok (.aload_n 0, 1) := by decide +kernel
theorem dX3_at_15 : decode cX3_at 15 = .ok (.iload_n 1, 1) := by decide +kernel
theorem dX3_at_16 : decode cX3_at 16 = .ok (.iaload, 1) := by decide +kernel
theorem dX3_at_17 : decode cX3_at 17 = .ok (.goto 4, 3) := by decide +kernel
theorem dX3_at_20 : decode cX3_at 20 = .ok (.iconst 0, 1) := by decide +kernel
theorem dX3_at_21 : decode cX3_at 21 = .ok (.ireturn, 1) := by decide +kernel
theorem dX3_put_0 : decode cX3_put 0 = .ok (.aload_n 0, 1) := by decide +kernel
theorem dX3_put_1 : decode cX3_put 1 = .ok (.ifnull 17, 3) := by decide +kernel
theorem dX3_put_4 : decode cX3_put 4 = .ok (.iload_n 1, 1) := by decide +kernel
theorem dX3_put_5 : decode cX3_put 5 = .ok (.ifCond .lt 13, 3) := by decide +kernel
theorem dX3_put_8 : decode cX3_put 8 = .ok (.iload_n 1, 1) := by decide +kernel
theorem dX3_put_9 : decode cX3_put 9 = .ok (.aload_n 0, 1) := by decide +kernel
theorem dX3_put_10 : decode cX3_put 10 = .ok (.arraylength, 1) := by decide +kernel
theorem dX3_put_11 : decode cX3_put 11 = .ok (.if_icmp .ge 7, 3) := by decide +kernel
theorem dX3_put_14 : decode cX3_put 14 = .ok (.aload_n 0, 1) := by decide +kernel
theorem dX3_put_15 : decode cX3_put 15 = .ok (.iload_n 1, 1) := by decide +kernel
theorem dX3_put_16 : decode cX3_put 16 = .ok (.iload_n 2, 1) := by decide +kernel
theorem dX3_put_17 : decode cX3_put 17 = .ok (.iastore, 1) := by decide +kernel
theorem dX3_put_18 : decode cX3_put 18 = .ok (.return_, 1) := by decide +kernel
theorem dX3_add_0 : decode cX3_add 0 = .ok (.aload_n 0, 1) := by decide +kernel
theorem dX3_add_1 : decode cX3_add 1 = .ok (.iload_n 1, 1) := by decide +kernel
theorem dX3_add_2 : decode cX3_add 2 = .ok (.aload_n 0, 1) := by decide +kernel
theorem dX3_add_3 : decode cX3_add 3 = .ok (.iload_n 1, 1) := by decide +kernel
theorem dX3_add_4 : decode cX3_add 4 = .ok (.invokestatic 64, 3) := by decide +kernel
theorem dX3_add_7 : decode cX3_add 7 = .ok (.iload_n 2, 1) := by decide +kernel
theorem dX3_add_8 : decode cX3_add 8 = .ok (.iadd, 1) := by decide +kernel
theorem dX3_add_9 : decode cX3_add 9 = .ok (.invokestatic 168, 3) := by decide +kernel
theorem dX3_add_12 : decode cX3_add 12 = .ok (.return_, 1) := by decide +kernel
theorem dX3_copy_0 : decode cX3_copy 0 = .ok (.aload_n 0, 1) := by decide +kernel
theorem dX3_copy_1 : decode cX3_copy 1 = .ok (.ifnull 21, 3) := by decide +kernel
theorem dX3_copy_4 : decode cX3_copy 4 = .ok (.aload_n 1, 1) := by decide +kernel
theorem dX3_copy_5 : decode cX3_copy 5 = .ok (.ifnull 17, 3) := by decide +kernel
theorem dX3_copy_8 : decode cX3_copy 8 = .ok (.aload_n 0, 1) := by decide +kernel
theorem dX3_copy_9 : decode cX3_copy 9 = .ok (.iconst 0, 1) := by decide +kernel
theorem dX3_copy_10 : decode cX3_copy 10 = .ok (.aload_n 1, 1) := by decide +kernel
theorem dX3_copy_11 : decode cX3_copy 11 = .ok (.iconst 0, 1) := by decide +kernel
theorem dX3_copy_12 : decode cX3_copy 12 = .ok (.aload_n 0, 1) := by decide +kernel
theorem dX3_copy_13 : decode cX3_copy 13 = .ok (.arraylength, 1) := by decide +kernel
theorem dX3_copy_14 : decode cX3_copy 14 = .ok (.aload_n 1, 1) := by decide +kernel
theorem dX3_copy_15 : decode cX3_copy 15 = .ok (.arraylength, 1) := by decide +kernel
theorem dX3_copy_16 : decode cX3_copy 16 = .ok (.invokestatic 341, 3) := by decide +kernel
theorem dX3_copy_19 : decode cX3_copy 19 = .ok (.invokestatic 357, 3) := by decide +kernel
theorem dX3_copy_22 : decode cX3_copy 22 = .ok (.return_, 1) := by decide +kernel
end
section
theorem dX4_init_0 : decode cX4_init 0 = .ok (.aload_n 0, 1) := by decide +kernel
theorem dX4_init_1 : decode cX4_init 1 = .ok (.invokespecial 1, 3) := by decide +kernel
theorem dX4_init_4 : decode cX4_init 4 = .ok (.aload_n 0, 1) := by decide +kernel
theorem dX4_init_5 : decode cX4_init 5 = .ok (.sipush 283, 3) := by decide +kernel
theorem dX4_init_8 : decode cX4_init 8 = .ok (.newarray .int, 2) := by decide +kernel
theorem dX4_init_10 : decode cX4_init 10 = .ok (.putfield 7, 3) := by decide +kernel
theorem dX4_init_13 : decode cX4_init 13 = .ok (.aload_n 0, 1) := by decide +kernel
theorem dX4_init_14 : decode cX4_init 14 = .ok (.sipush 1698, 3) := by decide +kernel
theorem dX4_init_17 : decode cX4_init 17 = .ok (.newarray .int, 2) := by decide +kernel
theorem dX4_init_19 : decode cX4_init 19 = .ok (.putfield 13, 3) := by decide +kernel
theorem dX4_init_22 : decode cX4_init 22 = .ok (.aload_n 0, 1) := by decide +kernel
theorem dX4_init_23 : decode cX4_init 23 = .ok (.bipush 60, 2) := by decide +kernel
theorem dX4_init_25 : decode cX4_init 25 = .ok (.newarray .int, 2) := by decide +kernel
theorem dX4_init_27 : decode cX4_init 27 = .ok (.putfield 16, 3) := by decide +kernel
theorem dX4_init_30 : decode cX4_init 30 = .ok (.aload_n 0, 1) := by decide +kernel
theorem dX4_init_31 : decode cX4_init 31 = .ok (.bipush 66, 2) := by decide +kernel
theorem dX4_init_33 : decode cX4_init 33 = .ok (.newarray .int, 2) := by decide +kernel
theorem dX4_init_35 : decode cX4_init 35 = .ok (.putfield 19, 3) := by decide +kernel
theorem dX4_init_38 : decode cX4_init 38 = .ok (.aload_n 0, 1) := by decide +kernel
theorem dX4_init_39 : decode cX4_init 39 = .ok (.iconst 4, 1) := by decide +kernel
theorem dX4_init_40 : decode cX4_init 40 = .ok (.newarray .int, 2) := by decide +kernel
theorem dX4_init_42 : decode cX4_init 42 = .ok (.putfield 22, 3) := by decide +kernel
theorem dX4_init_45 : decode cX4_init 45 = .ok (.aload_n 0, 1) := by decide +kernel
theorem dX4_init_46 : decode cX4_init 46 = .ok (.getfield 7, 3) := by decide +kernel
theorem dX4_init_49 : decode cX4_init 49 = .ok (.iconst 0, 1) := by decide +kernel
theorem dX4_init_50 : decode cX4_init 50 = .ok (.bipush 14, 2) := by decide +kernel
theorem dX4_init_52 : decode cX4_init 52 = .ok (.iastore, 1) := by decide +kernel
theorem dX4_init_53 : decode cX4_init 53 = .ok (.aload_n 0, 1) := by decide +kernel
theorem dX4_init_54 : decode cX4_init 54 = .ok (.getfield 7, 3) := by decide +kernel
theorem dX4_init_57 : decode cX4_init 57 = .ok (.iconst 1, 1) := by decide +kernel
theorem dX4_init_58 : decode cX4_init 58 = .ok (.iconst 3, 1) := by decide +kernel
theorem dX4_init_59 : decode cX4_init 59 = .ok (.iastore, 1) := by decide +kernel
theorem dX4_init_60 : decode cX4_init 60 = .ok (.return_, 1) := by decide +kernel
theorem dX4_thrown_0 : decode cX4_thrown 0 = .ok (.aload_n 0, 1) := by decide +kernel
theorem dX4_thrown_1 : decode cX4_thrown 1 = .ok (.getfield 25, 3) := by decide +kernel
theorem dX4_thrown_4 : decode cX4_thrown 4 = .ok (.ireturn, 1) := by decide +kernel
theorem dX4_within_0 : decode cX4_within 0 = .ok (.iload_n 0, 1) := by decide +kernel
theorem dX4_within_1 : decode cX4_within 1 = .ok (.iload_n 1, 1) := by decide +kernel
theorem dX4_within_2 : decode cX4_within 2 = .ok (.if_icmp .lt 12, 3) := by decide +kernel
theorem dX4_within_5 : decode cX4_within 5 = .ok (.iload_n 0, 1) := by decide +kernel
theorem dX4_within_6 : decode cX4_within 6 = .ok (.iload_n 2, 1) := by decide +kernel
theorem dX4_within_7 : decode cX4_within 7 = .ok (.if_icmp .gt 7, 3) := by decide +kernel
theorem dX4_within_10 : decode cX4_within 10 = .ok (.iconst 1, 1) := by decide +kernel
theorem dX4_within_11 : decode cX4_within 11 = .ok (.goto 4, 3) := by decide +kernel
theorem dX4_within_14 : decode cX4_within 14 = .ok (.iconst 0, 1) := by decide +kernel
theorem dX4_within_15 : decode cX4_within 15 = .ok (.ireturn, 1) := by decide +kernel
theorem dX4_save_0 : decode cX4_save 0 = .ok (.aload_n 0, 1) := by decide +kernel
theorem dX4_save_1 : decode cX4_save 1 = .ok (.getfield 29, 3) := by decide +kernel
theorem dX4_save_4 : decode cX4_save 4 = .ok (.bipush 6, 2) := by decide +kernel
theorem dX4_save_6 : decode cX4_save 6 = .ok (.if_icmp .ne 46, 3) := by decide +kernel
theorem dX4_save_9 : decode cX4_save 9 = .ok (.sipush 283, 3) := by decide +kernel
theorem dX4_save_12 : decode cX4_save 12 = .ok (.istore_n 1, 1) := by decide +kernel
theorem dX4_save_13 : decode cX4_save 13 = .ok (.iload_n 1, 1) := by decide +kernel
theorem dX4_save_14 : decode cX4_save 14 = .ok (.sipush 1698, 3) := by decide +kernel
theorem dX4_save_17 : decode cX4_save 17 = .ok (.if_icmp .ge 25, 3) := by decide +kernel
theorem dX4_save_20 : decode cX4_save 20 = .ok (.aload_n 0, 1) := by decide +kernel
theorem dX4_save_21 : decode cX4_save 21 = .ok (.getfield 13, 3) := by decide +kernel
theorem dX4_save_24 : decode cX4_save 24 = .ok (.iload_n 1, 1) := by decide +kernel
theorem dX4_save_25 : decode cX4_save 25 = .ok (.sipush 283, 3) := by decide +kernel
theorem dX4_save_28 : decode cX4_save 28 = .ok (.isub, 1) := by decide +kernel
theorem dX4_save_29 : decode cX4_save 29 = .ok (.aload_n 0, 1) := by decide +kernel
theorem dX4_save_30 : decode cX4_save 30 = .ok (.getfield 13, 3) := by decide +kernel
theorem dX4_save_33 : decode cX4_save 33 = .ok (.iload_n 1, 1) := by decide +kernel
theorem dX4_save_34 : decode cX4_save 34 = .ok (.iaload, 1) := by decide +kernel
theorem dX4_save_35 : decode cX4_save 35 = .ok (.iastore, 1) := by decide +kernel
theorem dX4_save_36 : decode cX4_save 36 = .ok (.iinc 1 1, 3) := by decide +kernel
theorem dX4_save_39 : decode cX4_save 39 = .ok (.goto (-26), 3) := by decide +kernel
theorem dX4_save_42 : decode cX4_save 42 = .ok (.aload_n 0, 1) := by decide +kernel
theorem dX4_save_43 : decode cX4_save 43 = .ok (.dup, 1) := by decide +kernel
theorem dX4_save_44 : decode cX4_save 44 = .ok (.getfield 29, 3) := by decide +kernel
theorem dX4_save_47 : decode cX4_save 47 = .ok (.iconst 1, 1) := by decide +kernel
theorem dX4_save_48 : decode cX4_save 48 = .ok (.isub, 1) := by decide +kernel
theorem dX4_save_49 : decode cX4_save 49 = .ok (.putfield 29, 3) := by decide +kernel
theorem dX4_save_52 : decode cX4_save 52 = .ok (.iconst 0, 1) := by decide +kernel
theorem dX4_save_53 : decode cX4_save 53 = .ok (.istore_n 1, 1) := by decide +kernel
theorem dX4_save_54 : decode cX4_save 54 = .ok (.iload_n 1, 1) := by decide +kernel
theorem dX4_save_55 : decode cX4_save 55 = .ok (.sipush 283, 3) := by decide +kernel
theorem dX4_save_58 : decode cX4_save 58 = .ok (.if_icmp .ge 30, 3) := by decide +kernel
theorem dX4_save_61 : decode cX4_save 61 = .ok (.aload_n 0, 1) := by decide +kernel
theorem dX4_save_62 : decode cX4_save 62 = .ok (.getfield 13, 3) := by decide +kernel
theorem dX4_save_65 : decode cX4_save 65 = .ok (.sipush 283, 3) := by decide +kernel
theorem dX4_save_68 : decode cX4_save 68 = .ok (.aload_n 0, 1) := by decide +kernel
theorem dX4_save_69 : decode cX4_save 69 = .ok (.getfield 29, 3) := by decide +kernel
theorem dX4_save_72 : decode cX4_save 72 = .ok (.imul, 1) := by decide +kernel
theorem dX4_save_73 : decode cX4_save 73 = .ok (.iload_n 1, 1) := by decide +kernel
theorem dX4_save_74 : decode cX4_save 74 = .ok (.iadd, 1) := by decide +kernel
theorem dX4_save_75 : decode cX4_save 75 = .ok (.aload_n 0, 1) := by decide +kernel
theorem dX4_save_76 : decode cX4_save 76 = .ok (.getfield 7, 3) := by decide +kernel
theorem dX4_save_79 : decode cX4_save 79 = .ok (.iload_n 1, 1) := by decide +kernel
theorem dX4_save_80 : decode cX4_save 80 = .ok (.iaload, 1) := by decide +kernel
theorem dX4_save_81 : decode cX4_save 81 = .ok (.iastore, 1) := by decide +kernel
theorem dX4_save_82 : decode cX4_save 82 = .ok (.iinc 1 1, 3) := by decide +kernel
theorem dX4_save_85 : decode cX4_save 85 = .ok (.goto (-31), 3) := by decide +kernel
theorem dX4_save_88 : decode cX4_save 88 = .ok (.aload_n 0, 1) := by decide +kernel
theorem dX4_save_89 : decode cX4_save 89 = .ok (.dup, 1) := by decide +kernel
theorem dX4_save_90 : decode cX4_save 90 = .ok (.getfield 29, 3) := by decide +kernel
theorem dX4_save_93 : decode cX4_save 93 = .ok (.iconst 1, 1) := by decide +kernel
theorem dX4_save_94 : decode cX4_save 94 = .ok (.iadd, 1) := by decide +kernel
theorem dX4_save_95 : decode cX4_save 95 = .ok (.putfield 29, 3) := by decide +kernel
theorem dX4_save_98 : decode cX4_save 98 = .ok (.return_, 1) := by decide +kernel
theorem dX4_wholeOf_0 : decode cX4_wholeOf 0 = .ok (.iload_n 0, 1) := by decide +kernel
theorem dX4_wholeOf_1 : decode cX4_wholeOf 1 = .ok (.ifCond .ne 7, 3) := by decide +kernel
theorem dX4_wholeOf_4 : decode cX4_wholeOf 4 = .ok (.iconst 2, 1) := by decide +kernel
theorem dX4_wholeOf_5 : decode cX4_wholeOf 5 = .ok (.goto 22, 3) := by decide +kernel
theorem dX4_wholeOf_8 : decode cX4_wholeOf 8 = .ok (.iload_n 0, 1) := by decide +kernel
theorem dX4_wholeOf_9 : decode cX4_wholeOf 9 = .ok (.iconst 1, 1) := by decide +kernel
theorem dX4_wholeOf_10 : decode cX4_wholeOf 10 = .ok (.if_icmp .ne 7, 3) := by decide +kernel
theorem dX4_wholeOf_13 : decode cX4_wholeOf 13 = .ok (.iconst 4, 1) := by decide +kernel
theorem dX4_wholeOf_14 : decode cX4_wholeOf 14 = .ok (.goto 13, 3) := by decide +kernel
theorem dX4_wholeOf_17 : decode cX4_wholeOf 17 = .ok (.iload_n 0, 1) := by decide +kernel
theorem dX4_wholeOf_18 : decode cX4_wholeOf 18 = .ok (.iconst 2, 1) := by decide +kernel
theorem dX4_wholeOf_19 : decode cX4_wholeOf 19 = .ok (.if_icmp .ne 7, 3) := by decide +kernel
theorem dX4_wholeOf_22 : decode cX4_wholeOf 22 = .ok (.iconst 3, 1) := by decide +kernel
theorem dX4_wholeOf_23 : decode cX4_wholeOf 23 = .ok (.goto 4, 3) := by decide +kernel
theorem dX4_wholeOf_26 : decode cX4_wholeOf 26 = .ok (.iconst 1, 1) := by decide +kernel
theorem dX4_wholeOf_27 : decode cX4_wholeOf 27 = .ok (.ireturn, 1) := by decide +kernel
theorem dX4_costOf_0 : decode cX4_costOf 0 = .ok (.iload_n 0, 1) := by decide +kernel
theorem dX4_costOf_1 : decode cX4_costOf 1 = .ok (.ifCond .ne 8, 3) := by decide +kernel
theorem dX4_costOf_4 : decode cX4_costOf 4 = .ok (.bipush 40, 2) := by decide +kernel
theorem dX4_costOf_6 : decode cX4_costOf 6 = .ok (.goto 24, 3) := by decide +kernel
theorem dX4_costOf_9 : decode cX4_costOf 9 = .ok (.iload_n 0, 1) := by decide +kernel
theorem dX4_costOf_10 : decode cX4_costOf 10 = .ok (.iconst 1, 1) := by decide +kernel
theorem dX4_costOf_11 : decode cX4_costOf 11 = .ok (.if_icmp .ne 8, 3) := by decide +kernel
theorem dX4_costOf_14 : decode cX4_costOf 14 = .ok (.bipush 15, 2) := by decide +kernel
theorem dX4_costOf_16 : decode cX4_costOf 16 = .ok (.goto 14, 3) := by decide +kernel
theorem dX4_costOf_19 : decode cX4_costOf 19 = .ok (.iload_n 0, 1) := by decide +kernel
theorem dX4_costOf_20 : decode cX4_costOf 20 = .ok (.iconst 2, 1) := by decide +kernel
theorem dX4_costOf_21 : decode cX4_costOf 21 = .ok (.if_icmp .ne 8, 3) := by decide +kernel
theorem dX4_costOf_24 : decode cX4_costOf 24 = .ok (.bipush 20, 2) := by decide +kernel
theorem dX4_costOf_26 : decode cX4_costOf 26 = .ok (.goto 4, 3) := by decide +kernel
theorem dX4_costOf_29 : decode cX4_costOf 29 = .ok (.iconst 5, 1) := by decide +kernel
theorem dX4_costOf_30 : decode cX4_costOf 30 = .ok (.ireturn, 1) := by decide +kernel
theorem dX4_of_0 : decode cX4_of 0 = .ok (.aload_n 0, 1) := by decide +kernel
theorem dX4_of_1 : decode cX4_of 1 = .ok (.getfield 7, 3) := by decide +kernel
theorem dX4_of_4 : decode cX4_of 4 = .ok (.bipush 43, 2) := by decide +kernel
theorem dX4_of_6 : decode cX4_of 6 = .ok (.bipush 10, 2) := by decide +kernel
theorem dX4_of_8 : decode cX4_of 8 = .ok (.iload_n 1, 1) := by decide +kernel
theorem dX4_of_9 : decode cX4_of 9 = .ok (.imul, 1) := by decide +kernel
theorem dX4_of_10 : decode cX4_of 10 = .ok (.iadd, 1) := by decide +kernel
theorem dX4_of_11 : decode cX4_of 11 = .ok (.iload_n 2, 1) := by decide +kernel
theorem dX4_of_12 : decode cX4_of 12 = .ok (.iadd, 1) := by decide +kernel
theorem dX4_of_13 : decode cX4_of 13 = .ok (.iaload, 1) := by decide +kernel
theorem dX4_of_14 : decode cX4_of 14 = .ok (.ireturn, 1) := by decide +kernel
theorem dX4_put_0 : decode cX4_put 0 = .ok (.aload_n 0, 1) := by decide +kernel
theorem dX4_put_1 : decode cX4_put 1 = .ok (.getfield 7, 3) := by decide +kernel
theorem dX4_put_4 : decode cX4_put 4 = .ok (.bipush 43, 2) := by decide +kernel
theorem dX4_put_6 : decode cX4_put 6 = .ok (.bipush 10, 2) := by decide +kernel
theorem dX4_put_8 : decode cX4_put 8 = .ok (.iload_n 1, 1) := by decide +kernel
theorem dX4_put_9 : decode cX4_put 9 = .ok (.imul, 1) := by decide +kernel
theorem dX4_put_10 : decode cX4_put 10 = .ok (.iadd, 1) := by decide +kernel
theorem dX4_put_11 : decode cX4_put 11 = .ok (.iload_n 2, 1) := by decide +kernel
theorem dX4_put_12 : decode cX4_put 12 = .ok (.iadd, 1) := by decide +kernel
theorem dX4_put_13 : decode cX4_put 13 = .ok (.iload_n 3, 1) := by decide +kernel
theorem dX4_put_14 : decode cX4_put 14 = .ok (.iastore, 1) := by decide +kernel
theorem dX4_put_15 : decode cX4_put 15 = .ok (.return_, 1) := by decide +kernel
theorem dX4_ofSite_0 : decode cX4_ofSite 0 = .ok (.aload_n 0, 1) := by decide +kernel
theorem dX4_ofSite_1 : decode cX4_ofSite 1 = .ok (.getfield 7, 3) := by decide +kernel
theorem dX4_ofSite_4 : decode cX4_ofSite 4 = .ok (.bipush 19, 2) := by decide +kernel
theorem dX4_ofSite_6 : decode cX4_ofSite 6 = .ok (.iconst 4, 1) := by decide +kernel
theorem dX4_ofSite_7 : decode cX4_ofSite 7 = .ok (.iload_n 1, 1) := by decide +kernel
theorem dX4_ofSite_8 : decode cX4_ofSite 8 = .ok (.imul, 1) := by decide +kernel
theorem dX4_ofSite_9 : decode cX4_ofSite 9 = .ok (.iadd, 1) := by decide +kernel
theorem dX4_ofSite_10 : decode cX4_ofSite 10 = .ok (.iload_n 2, 1) := by decide +kernel
theorem dX4_ofSite_11 : decode cX4_ofSite 11 = .ok (.iadd, 1) := by decide +kernel
theorem dX4_ofSite_12 : decode cX4_ofSite 12 = .ok (.iaload, 1) := by decide +kernel
theorem dX4_ofSite_13 : decode cX4_ofSite 13 = .ok (.ireturn, 1) := by decide +kernel
theorem dX4_bill_0 : decode cX4_bill 0 = .ok (.aload_n 0, 1) := by decide +kernel
theorem dX4_bill_1 : decode cX4_bill 1 = .ok (.getfield 7, 3) := by decide +kernel
theorem dX4_bill_4 : decode cX4_bill 4 = .ok (.bipush 19, 2) := by decide +kernel
theorem dX4_bill_6 : decode cX4_bill 6 = .ok (.iconst 4, 1) := by decide +kernel
theorem dX4_bill_7 : decode cX4_bill 7 = .ok (.iload_n 1, 1) := by decide +kernel
theorem dX4_bill_8 : decode cX4_bill 8 = .ok (.imul, 1) := by decide +kernel
theorem dX4_bill_9 : decode cX4_bill 9 = .ok (.iadd, 1) := by decide +kernel
theorem dX4_bill_10 : decode cX4_bill 10 = .ok (.iload_n 2, 1) := by decide +kernel
theorem dX4_bill_11 : decode cX4_bill 11 = .ok (.iadd, 1) := by decide +kernel
theorem dX4_bill_12 : decode cX4_bill 12 = .ok (.dup2, 1) := by decide +kernel
theorem dX4_bill_13 : decode cX4_bill 13 = .ok (.iaload, 1) := by decide +kernel
theorem dX4_bill_14 : decode cX4_bill 14 = .ok (.iload_n 3, 1) := by decide +kernel
theorem dX4_bill_15 : decode cX4_bill 15 = .ok (.iadd, 1) := by decide +kernel
theorem dX4_bill_16 : decode cX4_bill 16 = .ok (.iastore, 1) := by decide +kernel
theorem dX4_bill_17 : decode cX4_bill 17 = .ok (.return_, 1) := by decide +kernel
theorem dX4_isSet_0 : decode cX4_isSet 0 = .ok (.iload_n 1, 1) := by decide +kernel
theorem dX4_isSet_1 : decode cX4_isSet 1 = .ok (.iconst 0, 1) := by decide +kernel
theorem dX4_isSet_2 : decode cX4_isSet 2 = .ok (.aload_n 0, 1) := by decide +kernel
theorem dX4_isSet_3 : decode cX4_isSet 3 = .ok (.getfield 7, 3) := by decide +kernel
theorem dX4_isSet_6 : decode cX4_isSet 6 = .ok (.iconst 3, 1) := by decide +kernel
theorem dX4_isSet_7 : decode cX4_isSet 7 = .ok (.iaload, 1) := by decide +kernel
theorem dX4_isSet_8 : decode cX4_isSet 8 = .ok (.iconst 1, 1) := by decide +kernel
theorem dX4_isSet_9 : decode cX4_isSet 9 = .ok (.isub, 1) := by decide +kernel
theorem dX4_isSet_10 : decode cX4_isSet 10 = .ok (.invokestatic 32, 3) := by decide +kernel
theorem dX4_isSet_13 : decode cX4_isSet 13 = .ok (.ireturn, 1) := by decide +kernel
theorem dX4_isSite_0 : decode cX4_isSite 0 = .ok (.iload_n 0, 1) := by decide +kernel
theorem dX4_isSite_1 : decode cX4_isSite 1 = .ok (.iconst 0, 1) := by decide +kernel
theorem dX4_isSite_2 : decode cX4_isSite 2 = .ok (.iconst 5, 1) := by decide +kernel
theorem dX4_isSite_3 : decode cX4_isSite 3 = .ok (.invokestatic 32, 3) := by decide +kernel
theorem dX4_isSite_6 : decode cX4_isSite 6 = .ok (.ireturn, 1) := by decide +kernel
theorem dX4_isKind_0 : decode cX4_isKind 0 = .ok (.iload_n 0, 1) := by decide +kernel
theorem dX4_isKind_1 : decode cX4_isKind 1 = .ok (.iconst 0, 1) := by decide +kernel
theorem dX4_isKind_2 : decode cX4_isKind 2 = .ok (.iconst 3, 1) := by decide +kernel
theorem dX4_isKind_3 : decode cX4_isKind 3 = .ok (.invokestatic 32, 3) := by decide +kernel
theorem dX4_isKind_6 : decode cX4_isKind 6 = .ok (.ireturn, 1) := by decide +kernel
theorem dX4_isInYard_0 : decode cX4_isInYard 0 = .ok (.aload_n 0, 1) := by decide +kernel
theorem dX4_isInYard_1 : decode cX4_isInYard 1 = .ok (.iload_n 1, 1) := by decide +kernel
theorem dX4_isInYard_2 : decode cX4_isInYard 2 = .ok (.iconst 0, 1) := by decide +kernel
theorem dX4_isInYard_3 : decode cX4_isInYard 3 = .ok (.invokevirtual 36, 3) := by decide +kernel
theorem dX4_isInYard_6 : decode cX4_isInYard 6 = .ok (.iconst (-1), 1) := by decide +kernel
theorem dX4_isInYard_7 : decode cX4_isInYard 7 = .ok (.if_icmp .ne 7, 3) := by decide +kernel
theorem dX4_isInYard_10 : decode cX4_isInYard 10 = .ok (.iconst 1, 1) := by decide +kernel
theorem dX4_isInYard_11 : decode cX4_isInYard 11 = .ok (.goto 4, 3) := by decide +kernel
theorem dX4_isInYard_14 : decode cX4_isInYard 14 = .ok (.iconst 0, 1) := by decide +kernel
theorem dX4_isInYard_15 : decode cX4_isInYard 15 = .ok (.ireturn, 1) := by decide +kernel
theorem dX4_isWhole_0 : decode cX4_isWhole 0 = .ok (.iconst 1, 1) := by decide +kernel
theorem dX4_isWhole_1 : decode cX4_isWhole 1 = .ok (.istore_n 2, 1) := by decide +kernel
theorem dX4_isWhole_2 : decode cX4_isWhole 2 = .ok (.iconst 0, 1) := by decide +kernel
theorem dX4_isWhole_3 : decode cX4_isWhole 3 = .ok (.istore_n 3, 1) := by decide +kernel
theorem dX4_isWhole_4 : decode cX4_isWhole 4 = .ok (.iload_n 3, 1) := by decide +kernel
theorem dX4_isWhole_5 : decode cX4_isWhole 5 = .ok (.iconst 4, 1) := by decide +kernel
theorem dX4_isWhole_6 : decode cX4_isWhole 6 = .ok (.if_icmp .ge 34, 3) := by decide +kernel
theorem dX4_isWhole_9 : decode cX4_isWhole 9 = .ok (.iload_n 2, 1) := by decide +kernel
theorem dX4_isWhole_10 : decode cX4_isWhole 10 = .ok (.ifCond .eq 22, 3) := by decide +kernel
theorem dX4_isWhole_13 : decode cX4_isWhole 13 = .ok (.aload_n 0, 1) := by decide +kernel
theorem dX4_isWhole_14 : decode cX4_isWhole 14 = .ok (.iload_n 1, 1) := by decide +kernel
theorem dX4_isWhole_15 : decode cX4_isWhole 15 = .ok (.iconst 2, 1) := by decide +kernel
theorem dX4_isWhole_16 : decode cX4_isWhole 16 = .ok (.iload_n 3, 1) := by decide +kernel
theorem dX4_isWhole_17 : decode cX4_isWhole 17 = .ok (.iadd, 1) := by decide +kernel
theorem dX4_isWhole_18 : decode cX4_isWhole 18 = .ok (.invokevirtual 36, 3) := by decide +kernel
theorem dX4_isWhole_21 : decode cX4_isWhole 21 = .ok (.iload_n 3, 1) := by decide +kernel
theorem dX4_isWhole_22 : decode cX4_isWhole 22 = .ok (.invokestatic 40, 3) := by decide +kernel
theorem dX4_isWhole_25 : decode cX4_isWhole 25 = .ok (.if_icmp .ne 7, 3) := by decide +kernel
theorem dX4_isWhole_28 : decode cX4_isWhole 28 = .ok (.iconst 1, 1) := by decide +kernel
theorem dX4_isWhole_29 : decode cX4_isWhole 29 = .ok (.goto 4, 3) := by decide +kernel
theorem dX4_isWhole_32 : decode cX4_isWhole 32 = .ok (.iconst 0, 1) := by decide +kernel
theorem dX4_isWhole_33 : decode cX4_isWhole 33 = .ok (.istore_n 2, 1) := by decide +kernel
theorem dX4_isWhole_34 : decode cX4_isWhole 34 = .ok (.iinc 3 1, 3) := by decide +kernel
theorem dX4_isWhole_37 : decode cX4_isWhole 37 = .ok (.goto (-33), 3) := by decide +kernel
theorem dX4_isWhole_40 : decode cX4_isWhole 40 = .ok (.iload_n 2, 1) := by decide +kernel
theorem dX4_isWhole_41 : decode cX4_isWhole 41 = .ok (.ireturn, 1) := by decide +kernel
theorem dX4_partsOf_0 : decode cX4_partsOf 0 = .ok (.iconst 0, 1) := by decide +kernel
theorem dX4_partsOf_1 : decode cX4_partsOf 1 = .ok (.istore_n 2, 1) := by decide +kernel
theorem dX4_partsOf_2 : decode cX4_partsOf 2 = .ok (.iconst 0, 1) := by decide +kernel
theorem dX4_partsOf_3 : decode cX4_partsOf 3 = .ok (.istore_n 3, 1) := by decide +kernel
theorem dX4_partsOf_4 : decode cX4_partsOf 4 = .ok (.iload_n 3, 1) := by decide +kernel
theorem dX4_partsOf_5 : decode cX4_partsOf 5 = .ok (.iconst 4, 1) := by decide +kernel
theorem dX4_partsOf_6 : decode cX4_partsOf 6 = .ok (.if_icmp .ge 20, 3) := by decide +kernel
theorem dX4_partsOf_9 : decode cX4_partsOf 9 = .ok (.iload_n 2, 1) := by decide +kernel
theorem dX4_partsOf_10 : decode cX4_partsOf 10 = .ok (.aload_n 0, 1) := by decide +kernel
theorem dX4_partsOf_11 : decode cX4_partsOf 11 = .ok (.iload_n 1, 1) := by decide +kernel
theorem dX4_partsOf_12 : decode cX4_partsOf 12 = .ok (.iconst 2, 1) := by decide +kernel
theorem dX4_partsOf_13 : decode cX4_partsOf 13 = .ok (.iload_n 3, 1) := by decide +kernel
theorem dX4_partsOf_14 : decode cX4_partsOf 14 = .ok (.iadd, 1) := by decide +kernel
theorem dX4_partsOf_15 : decode cX4_partsOf 15 = .ok (.invokevirtual 36, 3) := by decide +kernel
theorem dX4_partsOf_18 : decode cX4_partsOf 18 = .ok (.iadd, 1) := by decide +kernel
theorem dX4_partsOf_19 : decode cX4_partsOf 19 = .ok (.istore_n 2, 1) := by decide +kernel
theorem dX4_partsOf_20 : decode cX4_partsOf 20 = .ok (.iinc 3 1, 3) := by decide +kernel
theorem dX4_partsOf_23 : decode cX4_partsOf 23 = .ok (.goto (-19), 3) := by decide +kernel
theorem dX4_partsOf_26 : decode cX4_partsOf 26 = .ok (.iload_n 2, 1) := by decide +kernel
theorem dX4_partsOf_27 : decode cX4_partsOf 27 = .ok (.ireturn, 1) := by decide +kernel
theorem dX4_inYard_0 : decode cX4_inYard 0 = .ok (.iconst 0, 1) := by decide +kernel
theorem dX4_inYard_1 : decode cX4_inYard 1 = .ok (.istore_n 2, 1) := by decide +kernel
theorem dX4_inYard_2 : decode cX4_inYard 2 = .ok (.iconst 0, 1) := by decide +kernel
theorem dX4_inYard_3 : decode cX4_inYard 3 = .ok (.istore_n 3, 1) := by decide +kernel
theorem dX4_inYard_4 : decode cX4_inYard 4 = .ok (.iload_n 3, 1) := by decide +kernel
theorem dX4_inYard_5 : decode cX4_inYard 5 = .ok (.aload_n 0, 1) := by decide +kernel
theorem dX4_inYard_6 : decode cX4_inYard 6 = .ok (.getfield 7, 3) := by decide +kernel
theorem dX4_inYard_9 : decode cX4_inYard 9 = .ok (.iconst 3, 1) := by decide +kernel
theorem dX4_inYard_10 : decode cX4_inYard 10 = .ok (.iaload, 1) := by decide +kernel
theorem dX4_inYard_11 : decode cX4_inYard 11 = .ok (.if_icmp .ge 37, 3) := by decide +kernel
theorem dX4_inYard_14 : decode cX4_inYard 14 = .ok (.iload_n 2, 1) := by decide +kernel
theorem dX4_inYard_15 : decode cX4_inYard 15 = .ok (.aload_n 0, 1) := by decide +kernel
theorem dX4_inYard_16 : decode cX4_inYard 16 = .ok (.iload_n 3, 1) := by decide +kernel
theorem dX4_inYard_17 : decode cX4_inYard 17 = .ok (.invokevirtual 44, 3) := by decide +kernel
theorem dX4_inYard_20 : decode cX4_inYard 20 = .ok (.ifCond .eq 19, 3) := by decide +kernel
theorem dX4_inYard_23 : decode cX4_inYard 23 = .ok (.iload_n 1, 1) := by decide +kernel
theorem dX4_inYard_24 : decode cX4_inYard 24 = .ok (.ifCond .eq 11, 3) := by decide +kernel
theorem dX4_inYard_27 : decode cX4_inYard 27 = .ok (.aload_n 0, 1) := by decide +kernel
theorem dX4_inYard_28 : decode cX4_inYard 28 = .ok (.iload_n 3, 1) := by decide +kernel
theorem dX4_inYard_29 : decode cX4_inYard 29 = .ok (.invokevirtual 48, 3) := by decide +kernel
theorem dX4_inYard_32 : decode cX4_inYard 32 = .ok (.ifCond .eq 7, 3) := by decide +kernel
theorem dX4_inYard_35 : decode cX4_inYard 35 = .ok (.iconst 1, 1) := by decide +kernel
theorem dX4_inYard_36 : decode cX4_inYard 36 = .ok (.goto 4, 3) := by decide +kernel
theorem dX4_inYard_39 : decode cX4_inYard 39 = .ok (.iconst 0, 1) := by decide +kernel
theorem dX4_inYard_40 : decode cX4_inYard 40 = .ok (.iadd, 1) := by decide +kernel
theorem dX4_inYard_41 : decode cX4_inYard 41 = .ok (.istore_n 2, 1) := by decide +kernel
theorem dX4_inYard_42 : decode cX4_inYard 42 = .ok (.iinc 3 1, 3) := by decide +kernel
theorem dX4_inYard_45 : decode cX4_inYard 45 = .ok (.goto (-41), 3) := by decide +kernel
theorem dX4_inYard_48 : decode cX4_inYard 48 = .ok (.iload_n 2, 1) := by decide +kernel
theorem dX4_inYard_49 : decode cX4_inYard 49 = .ok (.ireturn, 1) := by decide +kernel
theorem dX4_areSets_0 : decode cX4_areSets 0 = .ok (.iload_n 0, 1) := by decide +kernel
theorem dX4_areSets_1 : decode cX4_areSets 1 = .ok (.iconst 1, 1) := by decide +kernel
theorem dX4_areSets_2 : decode cX4_areSets 2 = .ok (.bipush 24, 2) := by decide +kernel
theorem dX4_areSets_4 : decode cX4_areSets 4 = .ok (.invokestatic 32, 3) := by decide +kernel
theorem dX4_areSets_7 : decode cX4_areSets 7 = .ok (.ireturn, 1) := by decide +kernel
theorem dX4_buySets_0 : decode cX4_buySets 0 = .ok (.aload_n 0, 1) := by decide +kernel
theorem dX4_buySets_1 : decode cX4_buySets 1 = .ok (.iload_n 1, 1) := by decide +kernel
theorem dX4_buySets_2 : decode cX4_buySets 2 = .ok (.invokestatic 51, 3) := by decide +kernel
theorem dX4_buySets_5 : decode cX4_buySets 5 = .ok (.ifCond .ne 7, 3) := by decide +kernel
theorem dX4_buySets_8 : decode cX4_buySets 8 = .ok (.iconst 1, 1) := by decide +kernel
theorem dX4_buySets_9 : decode cX4_buySets 9 = .ok (.goto 21, 3) := by decide +kernel
theorem dX4_buySets_12 : decode cX4_buySets 12 = .ok (.aload_n 0, 1) := by decide +kernel
theorem dX4_buySets_13 : decode cX4_buySets 13 = .ok (.getfield 7, 3) := by decide +kernel
theorem dX4_buySets_16 : decode cX4_buySets 16 = .ok (.iconst 3, 1) := by decide +kernel
theorem dX4_buySets_17 : decode cX4_buySets 17 = .ok (.iaload, 1) := by decide +kernel
theorem dX4_buySets_18 : decode cX4_buySets 18 = .ok (.iload_n 1, 1) := by decide +kernel
theorem dX4_buySets_19 : decode cX4_buySets 19 = .ok (.iadd, 1) := by decide +kernel
theorem dX4_buySets_20 : decode cX4_buySets 20 = .ok (.bipush 24, 2) := by decide +kernel
theorem dX4_buySets_22 : decode cX4_buySets 22 = .ok (.if_icmp .le 7, 3) := by decide +kernel
theorem dX4_buySets_25 : decode cX4_buySets 25 = .ok (.iconst 2, 1) := by decide +kernel
theorem dX4_buySets_26 : decode cX4_buySets 26 = .ok (.goto 4, 3) := by decide +kernel
theorem dX4_buySets_29 : decode cX4_buySets 29 = .ok (.iconst 0, 1) := by decide +kernel
theorem dX4_buySets_30 : decode cX4_buySets 30 = .ok (.putfield 25, 3) := by decide +kernel
theorem dX4_buySets_33 : decode cX4_buySets 33 = .ok (.aload_n 0, 1) := by decide +kernel
theorem dX4_buySets_34 : decode cX4_buySets 34 = .ok (.getfield 25, 3) := by decide +kernel
theorem dX4_buySets_37 : decode cX4_buySets 37 = .ok (.ifCond .le 5, 3) := by decide +kernel
theorem dX4_buySets_40 : decode cX4_buySets 40 = .ok (.iconst 0, 1) := by decide +kernel
theorem dX4_buySets_41 : decode cX4_buySets 41 = .ok (.ireturn, 1) := by decide +kernel
theorem dX4_buySets_42 : decode cX4_buySets 42 = .ok (.aload_n 0, 1) := by decide +kernel
theorem dX4_buySets_43 : decode cX4_buySets 43 = .ok (.invokevirtual 54, 3) := by decide +kernel
theorem dX4_buySets_46 : decode cX4_buySets 46 = .ok (.iconst 0, 1) := by decide +kernel
theorem dX4_buySets_47 : decode cX4_buySets 47 = .ok (.istore_n 2, 1) := by decide +kernel
theorem dX4_buySets_48 : decode cX4_buySets 48 = .ok (.iload_n 2, 1) := by decide +kernel
theorem dX4_buySets_49 : decode cX4_buySets 49 = .ok (.iload_n 1, 1) := by decide +kernel
theorem dX4_buySets_50 : decode cX4_buySets 50 = .ok (.if_icmp .ge 142, 3) := by decide +kernel
theorem dX4_buySets_53 : decode cX4_buySets 53 = .ok (.aload_n 0, 1) := by decide +kernel
theorem dX4_buySets_54 : decode cX4_buySets 54 = .ok (.getfield 7, 3) := by decide +kernel
theorem dX4_buySets_57 : decode cX4_buySets 57 = .ok (.iconst 3, 1) := by decide +kernel
theorem dX4_buySets_58 : decode cX4_buySets 58 = .ok (.iaload, 1) := by decide +kernel
theorem dX4_buySets_59 : decode cX4_buySets 59 = .ok (.istore_n 3, 1) := by decide +kernel
theorem dX4_buySets_60 : decode cX4_buySets 60 = .ok (.aload_n 0, 1) := by decide +kernel
theorem dX4_buySets_61 : decode cX4_buySets 61 = .ok (.getfield 7, 3) := by decide +kernel
theorem dX4_buySets_64 : decode cX4_buySets 64 = .ok (.iconst 3, 1) := by decide +kernel
theorem dX4_buySets_65 : decode cX4_buySets 65 = .ok (.dup2, 1) := by decide +kernel
theorem dX4_buySets_66 : decode cX4_buySets 66 = .ok (.iaload, 1) := by decide +kernel
theorem dX4_buySets_67 : decode cX4_buySets 67 = .ok (.iconst 1, 1) := by decide +kernel
theorem dX4_buySets_68 : decode cX4_buySets 68 = .ok (.iadd, 1) := by decide +kernel
theorem dX4_buySets_69 : decode cX4_buySets 69 = .ok (.iastore, 1) := by decide +kernel
theorem dX4_buySets_70 : decode cX4_buySets 70 = .ok (.aload_n 0, 1) := by decide +kernel
theorem dX4_buySets_71 : decode cX4_buySets 71 = .ok (.iload_n 3, 1) := by decide +kernel
theorem dX4_buySets_72 : decode cX4_buySets 72 = .ok (.iconst 0, 1) := by decide +kernel
theorem dX4_buySets_73 : decode cX4_buySets 73 = .ok (.iconst (-1), 1) := by decide +kernel
theorem dX4_buySets_74 : decode cX4_buySets 74 = .ok (.invokevirtual 57, 3) := by decide +kernel
theorem dX4_buySets_77 : decode cX4_buySets 77 = .ok (.aload_n 0, 1) := by decide +kernel
theorem dX4_buySets_78 : decode cX4_buySets 78 = .ok (.iload_n 3, 1) := by decide +kernel
theorem dX4_buySets_79 : decode cX4_buySets 79 = .ok (.iconst 1, 1) := by decide +kernel
theorem dX4_buySets_80 : decode cX4_buySets 80 = .ok (.iconst 0, 1) := by decide +kernel
theorem dX4_buySets_81 : decode cX4_buySets 81 = .ok (.invokevirtual 57, 3) := by decide +kernel
theorem dX4_buySets_84 : decode cX4_buySets 84 = .ok (.aload_n 0, 1) := by decide +kernel
theorem dX4_buySets_85 : decode cX4_buySets 85 = .ok (.iload_n 3, 1) := by decide +kernel
theorem dX4_buySets_86 : decode cX4_buySets 86 = .ok (.bipush 9, 2) := by decide +kernel
theorem dX4_buySets_88 : decode cX4_buySets 88 = .ok (.iconst 0, 1) := by decide +kernel
theorem dX4_buySets_89 : decode cX4_buySets 89 = .ok (.invokevirtual 57, 3) := by decide +kernel
theorem dX4_buySets_92 : decode cX4_buySets 92 = .ok (.iconst 0, 1) := by decide +kernel
theorem dX4_buySets_93 : decode cX4_buySets 93 = .ok (.istore 4, 2) := by decide +kernel
theorem dX4_buySets_95 : decode cX4_buySets 95 = .ok (.iload 4, 2) := by decide +kernel
theorem dX4_buySets_97 : decode cX4_buySets 97 = .ok (.iconst 4, 1) := by decide +kernel
theorem dX4_buySets_98 : decode cX4_buySets 98 = .ok (.if_icmp .ge 62, 3) := by decide +kernel
theorem dX4_buySets_101 : decode cX4_buySets 101 = .ok (.aload_n 0, 1) := by decide +kernel
theorem dX4_buySets_102 : decode cX4_buySets 102 = .ok (.iload_n 3, 1) := by decide +kernel
theorem dX4_buySets_103 : decode cX4_buySets 103 = .ok (.iconst 2, 1) := by decide +kernel
theorem dX4_buySets_104 : decode cX4_buySets 104 = .ok (.iload 4, 2) := by decide +kernel
theorem dX4_buySets_106 : decode cX4_buySets 106 = .ok (.iadd, 1) := by decide +kernel
theorem dX4_buySets_107 : decode cX4_buySets 107 = .ok (.iload 4, 2) := by decide +kernel
theorem dX4_buySets_109 : decode cX4_buySets 109 = .ok (.invokestatic 40, 3) := by decide +kernel
theorem dX4_buySets_112 : decode cX4_buySets 112 = .ok (.invokevirtual 57, 3) := by decide +kernel
theorem dX4_buySets_115 : decode cX4_buySets 115 = .ok (.aload_n 0, 1) := by decide +kernel
theorem dX4_buySets_116 : decode cX4_buySets 116 = .ok (.getfield 7, 3) := by decide +kernel
theorem dX4_buySets_119 : decode cX4_buySets 119 = .ok (.bipush 15, 2) := by decide +kernel
theorem dX4_buySets_121 : decode cX4_buySets 121 = .ok (.iload 4, 2) := by decide +kernel
theorem dX4_buySets_123 : decode cX4_buySets 123 = .ok (.iadd, 1) := by decide +kernel
theorem dX4_buySets_124 : decode cX4_buySets 124 = .ok (.dup2, 1) := by decide +kernel
theorem dX4_buySets_125 : decode cX4_buySets 125 = .ok (.iaload, 1) := by decide +kernel
theorem dX4_buySets_126 : decode cX4_buySets 126 = .ok (.iload 4, 2) := by decide +kernel
theorem dX4_buySets_128 : decode cX4_buySets 128 = .ok (.invokestatic 40, 3) := by decide +kernel
theorem dX4_buySets_131 : decode cX4_buySets 131 = .ok (.iadd, 1) := by decide +kernel
theorem dX4_buySets_132 : decode cX4_buySets 132 = .ok (.iastore, 1) := by decide +kernel
theorem dX4_buySets_133 : decode cX4_buySets 133 = .ok (.aload_n 0, 1) := by decide +kernel
theorem dX4_buySets_134 : decode cX4_buySets 134 = .ok (.getfield 7, 3) := by decide +kernel
theorem dX4_buySets_137 : decode cX4_buySets 137 = .ok (.bipush 6, 2) := by decide +kernel
theorem dX4_buySets_139 : decode cX4_buySets 139 = .ok (.dup2, 1) := by decide +kernel
theorem dX4_buySets_140 : decode cX4_buySets 140 = .ok (.iaload, 1) := by decide +kernel
theorem dX4_buySets_141 : decode cX4_buySets 141 = .ok (.iload 4, 2) := by decide +kernel
theorem dX4_buySets_143 : decode cX4_buySets 143 = .ok (.invokestatic 40, 3) := by decide +kernel
theorem dX4_buySets_146 : decode cX4_buySets 146 = .ok (.iload 4, 2) := by decide +kernel
theorem dX4_buySets_148 : decode cX4_buySets 148 = .ok (.invokestatic 61, 3) := by decide +kernel
theorem dX4_buySets_151 : decode cX4_buySets 151 = .ok (.imul, 1) := by decide +kernel
theorem dX4_buySets_152 : decode cX4_buySets 152 = .ok (.iadd, 1) := by decide +kernel
theorem dX4_buySets_153 : decode cX4_buySets 153 = .ok (.iastore, 1) := by decide +kernel
theorem dX4_buySets_154 : decode cX4_buySets 154 = .ok (.iinc 4 1, 3) := by decide +kernel
theorem dX4_buySets_157 : decode cX4_buySets 157 = .ok (.goto (-62), 3) := by decide +kernel
theorem dX4_buySets_160 : decode cX4_buySets 160 = .ok (.iconst 0, 1) := by decide +kernel
theorem dX4_buySets_161 : decode cX4_buySets 161 = .ok (.istore 4, 2) := by decide +kernel
theorem dX4_buySets_163 : decode cX4_buySets 163 = .ok (.iload 4, 2) := by decide +kernel
theorem dX4_buySets_165 : decode cX4_buySets 165 = .ok (.iconst 3, 1) := by decide +kernel
theorem dX4_buySets_166 : decode cX4_buySets 166 = .ok (.if_icmp .ge 20, 3) := by decide +kernel
theorem dX4_buySets_169 : decode cX4_buySets 169 = .ok (.aload_n 0, 1) := by decide +kernel
theorem dX4_buySets_170 : decode cX4_buySets 170 = .ok (.iload_n 3, 1) := by decide +kernel
theorem dX4_buySets_171 : decode cX4_buySets 171 = .ok (.bipush 6, 2) := by decide +kernel
theorem dX4_buySets_173 : decode cX4_buySets 173 = .ok (.iload 4, 2) := by decide +kernel
theorem dX4_buySets_175 : decode cX4_buySets 175 = .ok (.iadd, 1) := by decide +kernel
theorem dX4_buySets_176 : decode cX4_buySets 176 = .ok (.iconst (-1), 1) := by decide +kernel
theorem dX4_buySets_177 : decode cX4_buySets 177 = .ok (.invokevirtual 57, 3) := by decide +kernel
theorem dX4_buySets_180 : decode cX4_buySets 180 = .ok (.iinc 4 1, 3) := by decide +kernel
theorem dX4_buySets_183 : decode cX4_buySets 183 = .ok (.goto (-20), 3) := by decide +kernel
theorem dX4_buySets_186 : decode cX4_buySets 186 = .ok (.iinc 2 1, 3) := by decide +kernel
theorem dX4_buySets_189 : decode cX4_buySets 189 = .ok (.goto (-141), 3) := by decide +kernel
theorem dX4_buySets_192 : decode cX4_buySets 192 = .ok (.aload_n 0, 1) := by decide +kernel
theorem dX4_buySets_193 : decode cX4_buySets 193 = .ok (.getfield 7, 3) := by decide +kernel
theorem dX4_buySets_196 : decode cX4_buySets 196 = .ok (.iconst 3, 1) := by decide +kernel
theorem dX4_buySets_197 : decode cX4_buySets 197 = .ok (.iaload, 1) := by decide +kernel
theorem dX4_buySets_198 : decode cX4_buySets 198 = .ok (.ireturn, 1) := by decide +kernel
theorem dX4_buySpare_0 : decode cX4_buySpare 0 = .ok (.aload_n 0, 1) := by decide +kernel
theorem dX4_buySpare_1 : decode cX4_buySpare 1 = .ok (.iload_n 1, 1) := by decide +kernel
theorem dX4_buySpare_2 : decode cX4_buySpare 2 = .ok (.invokestatic 64, 3) := by decide +kernel
theorem dX4_buySpare_5 : decode cX4_buySpare 5 = .ok (.ifCond .ne 7, 3) := by decide +kernel
theorem dX4_buySpare_8 : decode cX4_buySpare 8 = .ok (.iconst 1, 1) := by decide +kernel
theorem dX4_buySpare_9 : decode cX4_buySpare 9 = .ok (.goto 40, 3) := by decide +kernel
theorem dX4_buySpare_12 : decode cX4_buySpare 12 = .ok (.iload_n 2, 1) := by decide +kernel
theorem dX4_buySpare_13 : decode cX4_buySpare 13 = .ok (.iconst 1, 1) := by decide +kernel
theorem dX4_buySpare_14 : decode cX4_buySpare 14 = .ok (.sipush 200, 3) := by decide +kernel
theorem dX4_buySpare_17 : decode cX4_buySpare 17 = .ok (.invokestatic 32, 3) := by decide +kernel
theorem dX4_buySpare_20 : decode cX4_buySpare 20 = .ok (.ifCond .ne 7, 3) := by decide +kernel
theorem dX4_buySpare_23 : decode cX4_buySpare 23 = .ok (.iconst 2, 1) := by decide +kernel
theorem dX4_buySpare_24 : decode cX4_buySpare 24 = .ok (.goto 25, 3) := by decide +kernel
theorem dX4_buySpare_27 : decode cX4_buySpare 27 = .ok (.aload_n 0, 1) := by decide +kernel
theorem dX4_buySpare_28 : decode cX4_buySpare 28 = .ok (.getfield 7, 3) := by decide +kernel
theorem dX4_buySpare_31 : decode cX4_buySpare 31 = .ok (.bipush 7, 2) := by decide +kernel
theorem dX4_buySpare_33 : decode cX4_buySpare 33 = .ok (.iload_n 1, 1) := by decide +kernel
theorem dX4_buySpare_34 : decode cX4_buySpare 34 = .ok (.iadd, 1) := by decide +kernel
theorem dX4_buySpare_35 : decode cX4_buySpare 35 = .ok (.iaload, 1) := by decide +kernel
theorem dX4_buySpare_36 : decode cX4_buySpare 36 = .ok (.iload_n 2, 1) := by decide +kernel
theorem dX4_buySpare_37 : decode cX4_buySpare 37 = .ok (.iadd, 1) := by decide +kernel
theorem dX4_buySpare_38 : decode cX4_buySpare 38 = .ok (.sipush 999, 3) := by decide +kernel
theorem dX4_buySpare_41 : decode cX4_buySpare 41 = .ok (.if_icmp .le 7, 3) := by decide +kernel
theorem dX4_buySpare_44 : decode cX4_buySpare 44 = .ok (.iconst 3, 1) := by decide +kernel
theorem dX4_buySpare_45 : decode cX4_buySpare 45 = .ok (.goto 4, 3) := by decide +kernel
theorem dX4_buySpare_48 : decode cX4_buySpare 48 = .ok (.iconst 0, 1) := by decide +kernel
theorem dX4_buySpare_49 : decode cX4_buySpare 49 = .ok (.putfield 25, 3) := by decide +kernel
theorem dX4_buySpare_52 : decode cX4_buySpare 52 = .ok (.aload_n 0, 1) := by decide +kernel
theorem dX4_buySpare_53 : decode cX4_buySpare 53 = .ok (.getfield 25, 3) := by decide +kernel
theorem dX4_buySpare_56 : decode cX4_buySpare 56 = .ok (.ifCond .le 5, 3) := by decide +kernel
theorem dX4_buySpare_59 : decode cX4_buySpare 59 = .ok (.iconst 0, 1) := by decide +kernel
theorem dX4_buySpare_60 : decode cX4_buySpare 60 = .ok (.ireturn, 1) := by decide +kernel
theorem dX4_buySpare_61 : decode cX4_buySpare 61 = .ok (.aload_n 0, 1) := by decide +kernel
theorem dX4_buySpare_62 : decode cX4_buySpare 62 = .ok (.invokevirtual 54, 3) := by decide +kernel
theorem dX4_buySpare_65 : decode cX4_buySpare 65 = .ok (.aload_n 0, 1) := by decide +kernel
theorem dX4_buySpare_66 : decode cX4_buySpare 66 = .ok (.getfield 7, 3) := by decide +kernel
theorem dX4_buySpare_69 : decode cX4_buySpare 69 = .ok (.bipush 7, 2) := by decide +kernel
theorem dX4_buySpare_71 : decode cX4_buySpare 71 = .ok (.iload_n 1, 1) := by decide +kernel
theorem dX4_buySpare_72 : decode cX4_buySpare 72 = .ok (.iadd, 1) := by decide +kernel
theorem dX4_buySpare_73 : decode cX4_buySpare 73 = .ok (.dup2, 1) := by decide +kernel
theorem dX4_buySpare_74 : decode cX4_buySpare 74 = .ok (.iaload, 1) := by decide +kernel
theorem dX4_buySpare_75 : decode cX4_buySpare 75 = .ok (.iload_n 2, 1) := by decide +kernel
theorem dX4_buySpare_76 : decode cX4_buySpare 76 = .ok (.iadd, 1) := by decide +kernel
theorem dX4_buySpare_77 : decode cX4_buySpare 77 = .ok (.iastore, 1) := by decide +kernel
theorem dX4_buySpare_78 : decode cX4_buySpare 78 = .ok (.aload_n 0, 1) := by decide +kernel
theorem dX4_buySpare_79 : decode cX4_buySpare 79 = .ok (.getfield 7, 3) := by decide +kernel
theorem dX4_buySpare_82 : decode cX4_buySpare 82 = .ok (.bipush 15, 2) := by decide +kernel
theorem dX4_buySpare_84 : decode cX4_buySpare 84 = .ok (.iload_n 1, 1) := by decide +kernel
theorem dX4_buySpare_85 : decode cX4_buySpare 85 = .ok (.iadd, 1) := by decide +kernel
theorem dX4_buySpare_86 : decode cX4_buySpare 86 = .ok (.dup2, 1) := by decide +kernel
theorem dX4_buySpare_87 : decode cX4_buySpare 87 = .ok (.iaload, 1) := by decide +kernel
theorem dX4_buySpare_88 : decode cX4_buySpare 88 = .ok (.iload_n 2, 1) := by decide +kernel
theorem dX4_buySpare_89 : decode cX4_buySpare 89 = .ok (.iadd, 1) := by decide +kernel
theorem dX4_buySpare_90 : decode cX4_buySpare 90 = .ok (.iastore, 1) := by decide +kernel
theorem dX4_buySpare_91 : decode cX4_buySpare 91 = .ok (.aload_n 0, 1) := by decide +kernel
theorem dX4_buySpare_92 : decode cX4_buySpare 92 = .ok (.getfield 7, 3) := by decide +kernel
theorem dX4_buySpare_95 : decode cX4_buySpare 95 = .ok (.bipush 6, 2) := by decide +kernel
theorem dX4_buySpare_97 : decode cX4_buySpare 97 = .ok (.dup2, 1) := by decide +kernel
theorem dX4_buySpare_98 : decode cX4_buySpare 98 = .ok (.iaload, 1) := by decide +kernel
theorem dX4_buySpare_99 : decode cX4_buySpare 99 = .ok (.iload_n 2, 1) := by decide +kernel
theorem dX4_buySpare_100 : decode cX4_buySpare 100 = .ok (.iload_n 1, 1) := by decide +kernel
theorem dX4_buySpare_101 : decode cX4_buySpare 101 = .ok (.invokestatic 61, 3) := by decide +kernel
theorem dX4_buySpare_104 : decode cX4_buySpare 104 = .ok (.imul, 1) := by decide +kernel
theorem dX4_buySpare_105 : decode cX4_buySpare 105 = .ok (.iadd, 1) := by decide +kernel
theorem dX4_buySpare_106 : decode cX4_buySpare 106 = .ok (.iastore, 1) := by decide +kernel
theorem dX4_buySpare_107 : decode cX4_buySpare 107 = .ok (.aload_n 0, 1) := by decide +kernel
theorem dX4_buySpare_108 : decode cX4_buySpare 108 = .ok (.getfield 7, 3) := by decide +kernel
theorem dX4_buySpare_111 : decode cX4_buySpare 111 = .ok (.bipush 7, 2) := by decide +kernel
theorem dX4_buySpare_113 : decode cX4_buySpare 113 = .ok (.iload_n 1, 1) := by decide +kernel
theorem dX4_buySpare_114 : decode cX4_buySpare 114 = .ok (.iadd, 1) := by decide +kernel
theorem dX4_buySpare_115 : decode cX4_buySpare 115 = .ok (.iaload, 1) := by decide +kernel
theorem dX4_buySpare_116 : decode cX4_buySpare 116 = .ok (.ireturn, 1) := by decide +kernel
theorem dX4_repair_0 : decode cX4_repair 0 = .ok (.aload_n 0, 1) := by decide +kernel
theorem dX4_repair_1 : decode cX4_repair 1 = .ok (.aload_n 0, 1) := by decide +kernel
theorem dX4_repair_2 : decode cX4_repair 2 = .ok (.iload_n 1, 1) := by decide +kernel
theorem dX4_repair_3 : decode cX4_repair 3 = .ok (.invokevirtual 67, 3) := by decide +kernel
theorem dX4_repair_6 : decode cX4_repair 6 = .ok (.ifCond .ne 7, 3) := by decide +kernel
theorem dX4_repair_9 : decode cX4_repair 9 = .ok (.iconst 1, 1) := by decide +kernel
theorem dX4_repair_10 : decode cX4_repair 10 = .ok (.goto 16, 3) := by decide +kernel
theorem dX4_repair_13 : decode cX4_repair 13 = .ok (.aload_n 0, 1) := by decide +kernel
theorem dX4_repair_14 : decode cX4_repair 14 = .ok (.iload_n 1, 1) := by decide +kernel
theorem dX4_repair_15 : decode cX4_repair 15 = .ok (.invokevirtual 44, 3) := by decide +kernel
theorem dX4_repair_18 : decode cX4_repair 18 = .ok (.ifCond .eq 7, 3) := by decide +kernel
theorem dX4_repair_21 : decode cX4_repair 21 = .ok (.iconst 0, 1) := by decide +kernel
theorem dX4_repair_22 : decode cX4_repair 22 = .ok (.goto 4, 3) := by decide +kernel
theorem dX4_repair_25 : decode cX4_repair 25 = .ok (.iconst 2, 1) := by decide +kernel
theorem dX4_repair_26 : decode cX4_repair 26 = .ok (.putfield 25, 3) := by decide +kernel
theorem dX4_repair_29 : decode cX4_repair 29 = .ok (.aload_n 0, 1) := by decide +kernel
theorem dX4_repair_30 : decode cX4_repair 30 = .ok (.getfield 25, 3) := by decide +kernel
theorem dX4_repair_33 : decode cX4_repair 33 = .ok (.ifCond .le 5, 3) := by decide +kernel
theorem dX4_repair_36 : decode cX4_repair 36 = .ok (.iconst 0, 1) := by decide +kernel
theorem dX4_repair_37 : decode cX4_repair 37 = .ok (.ireturn, 1) := by decide +kernel
theorem dX4_repair_38 : decode cX4_repair 38 = .ok (.aload_n 0, 1) := by decide +kernel
theorem dX4_repair_39 : decode cX4_repair 39 = .ok (.invokevirtual 54, 3) := by decide +kernel
theorem dX4_repair_42 : decode cX4_repair 42 = .ok (.iconst 0, 1) := by decide +kernel
theorem dX4_repair_43 : decode cX4_repair 43 = .ok (.istore_n 2, 1) := by decide +kernel
theorem dX4_repair_44 : decode cX4_repair 44 = .ok (.iconst 0, 1) := by decide +kernel
theorem dX4_repair_45 : decode cX4_repair 45 = .ok (.istore_n 3, 1) := by decide +kernel
theorem dX4_repair_46 : decode cX4_repair 46 = .ok (.iload_n 3, 1) := by decide +kernel
theorem dX4_repair_47 : decode cX4_repair 47 = .ok (.iconst 4, 1) := by decide +kernel
theorem dX4_repair_48 : decode cX4_repair 48 = .ok (.if_icmp .ge 92, 3) := by decide +kernel
theorem dX4_repair_51 : decode cX4_repair 51 = .ok (.iload_n 3, 1) := by decide +kernel
theorem dX4_repair_52 : decode cX4_repair 52 = .ok (.invokestatic 40, 3) := by decide +kernel
theorem dX4_repair_55 : decode cX4_repair 55 = .ok (.aload_n 0, 1) := by decide +kernel
theorem dX4_repair_56 : decode cX4_repair 56 = .ok (.iload_n 1, 1) := by decide +kernel
theorem dX4_repair_57 : decode cX4_repair 57 = .ok (.iconst 2, 1) := by decide +kernel
theorem dX4_repair_58 : decode cX4_repair 58 = .ok (.iload_n 3, 1) := by decide +kernel
theorem dX4_repair_59 : decode cX4_repair 59 = .ok (.iadd, 1) := by decide +kernel
theorem dX4_repair_60 : decode cX4_repair 60 = .ok (.invokevirtual 36, 3) := by decide +kernel
theorem dX4_repair_63 : decode cX4_repair 63 = .ok (.isub, 1) := by decide +kernel
theorem dX4_repair_64 : decode cX4_repair 64 = .ok (.istore 4, 2) := by decide +kernel
theorem dX4_repair_66 : decode cX4_repair 66 = .ok (.iload 4, 2) := by decide +kernel
theorem dX4_repair_68 : decode cX4_repair 68 = .ok (.aload_n 0, 1) := by decide +kernel
theorem dX4_repair_69 : decode cX4_repair 69 = .ok (.getfield 7, 3) := by decide +kernel
theorem dX4_repair_72 : decode cX4_repair 72 = .ok (.bipush 7, 2) := by decide +kernel
theorem dX4_repair_74 : decode cX4_repair 74 = .ok (.iload_n 3, 1) := by decide +kernel
theorem dX4_repair_75 : decode cX4_repair 75 = .ok (.iadd, 1) := by decide +kernel
theorem dX4_repair_76 : decode cX4_repair 76 = .ok (.iaload, 1) := by decide +kernel
theorem dX4_repair_77 : decode cX4_repair 77 = .ok (.if_icmp .ge 8, 3) := by decide +kernel
theorem dX4_repair_80 : decode cX4_repair 80 = .ok (.iload 4, 2) := by decide +kernel
theorem dX4_repair_82 : decode cX4_repair 82 = .ok (.goto 12, 3) := by decide +kernel
theorem dX4_repair_85 : decode cX4_repair 85 = .ok (.aload_n 0, 1) := by decide +kernel
theorem dX4_repair_86 : decode cX4_repair 86 = .ok (.getfield 7, 3) := by decide +kernel
theorem dX4_repair_89 : decode cX4_repair 89 = .ok (.bipush 7, 2) := by decide +kernel
theorem dX4_repair_91 : decode cX4_repair 91 = .ok (.iload_n 3, 1) := by decide +kernel
theorem dX4_repair_92 : decode cX4_repair 92 = .ok (.iadd, 1) := by decide +kernel
theorem dX4_repair_93 : decode cX4_repair 93 = .ok (.iaload, 1) := by decide +kernel
theorem dX4_repair_94 : decode cX4_repair 94 = .ok (.istore 5, 2) := by decide +kernel
theorem dX4_repair_96 : decode cX4_repair 96 = .ok (.aload_n 0, 1) := by decide +kernel
theorem dX4_repair_97 : decode cX4_repair 97 = .ok (.getfield 7, 3) := by decide +kernel
theorem dX4_repair_100 : decode cX4_repair 100 = .ok (.bipush 7, 2) := by decide +kernel
theorem dX4_repair_102 : decode cX4_repair 102 = .ok (.iload_n 3, 1) := by decide +kernel
theorem dX4_repair_103 : decode cX4_repair 103 = .ok (.iadd, 1) := by decide +kernel
theorem dX4_repair_104 : decode cX4_repair 104 = .ok (.dup2, 1) := by decide +kernel
theorem dX4_repair_105 : decode cX4_repair 105 = .ok (.iaload, 1) := by decide +kernel
theorem dX4_repair_106 : decode cX4_repair 106 = .ok (.iload 5, 2) := by decide +kernel
theorem dX4_repair_108 : decode cX4_repair 108 = .ok (.isub, 1) := by decide +kernel
theorem dX4_repair_109 : decode cX4_repair 109 = .ok (.iastore, 1) := by decide +kernel
theorem dX4_repair_110 : decode cX4_repair 110 = .ok (.aload_n 0, 1) := by decide +kernel
theorem dX4_repair_111 : decode cX4_repair 111 = .ok (.iload_n 1, 1) := by decide +kernel
theorem dX4_repair_112 : decode cX4_repair 112 = .ok (.iconst 2, 1) := by decide +kernel
theorem dX4_repair_113 : decode cX4_repair 113 = .ok (.iload_n 3, 1) := by decide +kernel
theorem dX4_repair_114 : decode cX4_repair 114 = .ok (.iadd, 1) := by decide +kernel
theorem dX4_repair_115 : decode cX4_repair 115 = .ok (.aload_n 0, 1) := by decide +kernel
theorem dX4_repair_116 : decode cX4_repair 116 = .ok (.iload_n 1, 1) := by decide +kernel
theorem dX4_repair_117 : decode cX4_repair 117 = .ok (.iconst 2, 1) := by decide +kernel
theorem dX4_repair_118 : decode cX4_repair 118 = .ok (.iload_n 3, 1) := by decide +kernel
theorem dX4_repair_119 : decode cX4_repair 119 = .ok (.iadd, 1) := by decide +kernel
theorem dX4_repair_120 : decode cX4_repair 120 = .ok (.invokevirtual 36, 3) := by decide +kernel
theorem dX4_repair_123 : decode cX4_repair 123 = .ok (.iload 5, 2) := by decide +kernel
theorem dX4_repair_125 : decode cX4_repair 125 = .ok (.iadd, 1) := by decide +kernel
theorem dX4_repair_126 : decode cX4_repair 126 = .ok (.invokevirtual 57, 3) := by decide +kernel
theorem dX4_repair_129 : decode cX4_repair 129 = .ok (.iload_n 2, 1) := by decide +kernel
theorem dX4_repair_130 : decode cX4_repair 130 = .ok (.iload 5, 2) := by decide +kernel
theorem dX4_repair_132 : decode cX4_repair 132 = .ok (.iadd, 1) := by decide +kernel
theorem dX4_repair_133 : decode cX4_repair 133 = .ok (.istore_n 2, 1) := by decide +kernel
theorem dX4_repair_134 : decode cX4_repair 134 = .ok (.iinc 3 1, 3) := by decide +kernel
theorem dX4_repair_137 : decode cX4_repair 137 = .ok (.goto (-91), 3) := by decide +kernel
theorem dX4_repair_140 : decode cX4_repair 140 = .ok (.iload_n 2, 1) := by decide +kernel
theorem dX4_repair_141 : decode cX4_repair 141 = .ok (.ireturn, 1) := by decide +kernel
theorem dX4_usersOf_0 : decode cX4_usersOf 0 = .ok (.iconst 0, 1) := by decide +kernel
theorem dX4_usersOf_1 : decode cX4_usersOf 1 = .ok (.istore_n 2, 1) := by decide +kernel
theorem dX4_usersOf_2 : decode cX4_usersOf 2 = .ok (.iconst 0, 1) := by decide +kernel
theorem dX4_usersOf_3 : decode cX4_usersOf 3 = .ok (.istore_n 3, 1) := by decide +kernel
theorem dX4_usersOf_4 : decode cX4_usersOf 4 = .ok (.iload_n 3, 1) := by decide +kernel
theorem dX4_usersOf_5 : decode cX4_usersOf 5 = .ok (.iconst 3, 1) := by decide +kernel
theorem dX4_usersOf_6 : decode cX4_usersOf 6 = .ok (.if_icmp .ge 30, 3) := by decide +kernel
theorem dX4_usersOf_9 : decode cX4_usersOf 9 = .ok (.iload_n 2, 1) := by decide +kernel
theorem dX4_usersOf_10 : decode cX4_usersOf 10 = .ok (.aload_n 0, 1) := by decide +kernel
theorem dX4_usersOf_11 : decode cX4_usersOf 11 = .ok (.iload_n 1, 1) := by decide +kernel
theorem dX4_usersOf_12 : decode cX4_usersOf 12 = .ok (.bipush 6, 2) := by decide +kernel
theorem dX4_usersOf_14 : decode cX4_usersOf 14 = .ok (.iload_n 3, 1) := by decide +kernel
theorem dX4_usersOf_15 : decode cX4_usersOf 15 = .ok (.iadd, 1) := by decide +kernel
theorem dX4_usersOf_16 : decode cX4_usersOf 16 = .ok (.invokevirtual 36, 3) := by decide +kernel
theorem dX4_usersOf_19 : decode cX4_usersOf 19 = .ok (.iconst (-1), 1) := by decide +kernel
theorem dX4_usersOf_20 : decode cX4_usersOf 20 = .ok (.if_icmp .ne 7, 3) := by decide +kernel
theorem dX4_usersOf_23 : decode cX4_usersOf 23 = .ok (.iconst 0, 1) := by decide +kernel
theorem dX4_usersOf_24 : decode cX4_usersOf 24 = .ok (.goto 4, 3) := by decide +kernel
theorem dX4_usersOf_27 : decode cX4_usersOf 27 = .ok (.iconst 1, 1) := by decide +kernel
theorem dX4_usersOf_28 : decode cX4_usersOf 28 = .ok (.iadd, 1) := by decide +kernel
theorem dX4_usersOf_29 : decode cX4_usersOf 29 = .ok (.istore_n 2, 1) := by decide +kernel
theorem dX4_usersOf_30 : decode cX4_usersOf 30 = .ok (.iinc 3 1, 3) := by decide +kernel
theorem dX4_usersOf_33 : decode cX4_usersOf 33 = .ok (.goto (-29), 3) := by decide +kernel
theorem dX4_usersOf_36 : decode cX4_usersOf 36 = .ok (.iload_n 2, 1) := by decide +kernel
theorem dX4_usersOf_37 : decode cX4_usersOf 37 = .ok (.ireturn, 1) := by decide +kernel
theorem dX4_shareOf_0 : decode cX4_shareOf 0 = .ok (.aload_n 0, 1) := by decide +kernel
theorem dX4_shareOf_1 : decode cX4_shareOf 1 = .ok (.iload_n 1, 1) := by decide +kernel
theorem dX4_shareOf_2 : decode cX4_shareOf 2 = .ok (.invokevirtual 70, 3) := by decide +kernel
theorem dX4_shareOf_5 : decode cX4_shareOf 5 = .ok (.istore 4, 2) := by decide +kernel
theorem dX4_shareOf_7 : decode cX4_shareOf 7 = .ok (.iload_n 2, 1) := by decide +kernel
theorem dX4_shareOf_8 : decode cX4_shareOf 8 = .ok (.iload 4, 2) := by decide +kernel
theorem dX4_shareOf_10 : decode cX4_shareOf 10 = .ok (.if_icmp .ge 10, 3) := by decide +kernel
theorem dX4_shareOf_13 : decode cX4_shareOf 13 = .ok (.iload_n 3, 1) := by decide +kernel
theorem dX4_shareOf_14 : decode cX4_shareOf 14 = .ok (.iload 4, 2) := by decide +kernel
theorem dX4_shareOf_16 : decode cX4_shareOf 16 = .ok (.idiv, 1) := by decide +kernel
theorem dX4_shareOf_17 : decode cX4_shareOf 17 = .ok (.goto 4, 3) := by decide +kernel
theorem dX4_shareOf_20 : decode cX4_shareOf 20 = .ok (.iconst 0, 1) := by decide +kernel
theorem dX4_shareOf_21 : decode cX4_shareOf 21 = .ok (.istore 5, 2) := by decide +kernel
theorem dX4_shareOf_23 : decode cX4_shareOf 23 = .ok (.iload 5, 2) := by decide +kernel
theorem dX4_shareOf_25 : decode cX4_shareOf 25 = .ok (.iload_n 2, 1) := by decide +kernel
theorem dX4_shareOf_26 : decode cX4_shareOf 26 = .ok (.ifCond .ne 15, 3) := by decide +kernel
theorem dX4_shareOf_29 : decode cX4_shareOf 29 = .ok (.iload 4, 2) := by decide +kernel
theorem dX4_shareOf_31 : decode cX4_shareOf 31 = .ok (.ifCond .le 10, 3) := by decide +kernel
theorem dX4_shareOf_34 : decode cX4_shareOf 34 = .ok (.iload_n 3, 1) := by decide +kernel
theorem dX4_shareOf_35 : decode cX4_shareOf 35 = .ok (.iload 4, 2) := by decide +kernel
theorem dX4_shareOf_37 : decode cX4_shareOf 37 = .ok (.irem, 1) := by decide +kernel
theorem dX4_shareOf_38 : decode cX4_shareOf 38 = .ok (.goto 4, 3) := by decide +kernel
theorem dX4_shareOf_41 : decode cX4_shareOf 41 = .ok (.iconst 0, 1) := by decide +kernel
theorem dX4_shareOf_42 : decode cX4_shareOf 42 = .ok (.iadd, 1) := by decide +kernel
theorem dX4_shareOf_43 : decode cX4_shareOf 43 = .ok (.ireturn, 1) := by decide +kernel
theorem dX4_charge_0 : decode cX4_charge 0 = .ok (.aload_n 0, 1) := by decide +kernel
theorem dX4_charge_1 : decode cX4_charge 1 = .ok (.iload_n 1, 1) := by decide +kernel
theorem dX4_charge_2 : decode cX4_charge 2 = .ok (.iconst 2, 1) := by decide +kernel
theorem dX4_charge_3 : decode cX4_charge 3 = .ok (.iload_n 2, 1) := by decide +kernel
theorem dX4_charge_4 : decode cX4_charge 4 = .ok (.iadd, 1) := by decide +kernel
theorem dX4_charge_5 : decode cX4_charge 5 = .ok (.aload_n 0, 1) := by decide +kernel
theorem dX4_charge_6 : decode cX4_charge 6 = .ok (.iload_n 1, 1) := by decide +kernel
theorem dX4_charge_7 : decode cX4_charge 7 = .ok (.iconst 2, 1) := by decide +kernel
theorem dX4_charge_8 : decode cX4_charge 8 = .ok (.iload_n 2, 1) := by decide +kernel
theorem dX4_charge_9 : decode cX4_charge 9 = .ok (.iadd, 1) := by decide +kernel
theorem dX4_charge_10 : decode cX4_charge 10 = .ok (.invokevirtual 36, 3) := by decide +kernel
theorem dX4_charge_13 : decode cX4_charge 13 = .ok (.iload_n 3, 1) := by decide +kernel
theorem dX4_charge_14 : decode cX4_charge 14 = .ok (.isub, 1) := by decide +kernel
theorem dX4_charge_15 : decode cX4_charge 15 = .ok (.invokevirtual 57, 3) := by decide +kernel
theorem dX4_charge_18 : decode cX4_charge 18 = .ok (.aload_n 0, 1) := by decide +kernel
theorem dX4_charge_19 : decode cX4_charge 19 = .ok (.getfield 7, 3) := by decide +kernel
theorem dX4_charge_22 : decode cX4_charge 22 = .ok (.bipush 11, 2) := by decide +kernel
theorem dX4_charge_24 : decode cX4_charge 24 = .ok (.iload_n 2, 1) := by decide +kernel
theorem dX4_charge_25 : decode cX4_charge 25 = .ok (.iadd, 1) := by decide +kernel
theorem dX4_charge_26 : decode cX4_charge 26 = .ok (.dup2, 1) := by decide +kernel
theorem dX4_charge_27 : decode cX4_charge 27 = .ok (.iaload, 1) := by decide +kernel
theorem dX4_charge_28 : decode cX4_charge 28 = .ok (.iload_n 3, 1) := by decide +kernel
theorem dX4_charge_29 : decode cX4_charge 29 = .ok (.iadd, 1) := by decide +kernel
theorem dX4_charge_30 : decode cX4_charge 30 = .ok (.iastore, 1) := by decide +kernel
theorem dX4_charge_31 : decode cX4_charge 31 = .ok (.return_, 1) := by decide +kernel
theorem dX4_hasSo_0 : decode cX4_hasSo 0 = .ok (.aload_n 0, 1) := by decide +kernel
theorem dX4_hasSo_1 : decode cX4_hasSo 1 = .ok (.iload_n 1, 1) := by decide +kernel
theorem dX4_hasSo_2 : decode cX4_hasSo 2 = .ok (.iconst 2, 1) := by decide +kernel
theorem dX4_hasSo_3 : decode cX4_hasSo 3 = .ok (.iload_n 2, 1) := by decide +kernel
theorem dX4_hasSo_4 : decode cX4_hasSo 4 = .ok (.iadd, 1) := by decide +kernel
theorem dX4_hasSo_5 : decode cX4_hasSo 5 = .ok (.invokevirtual 36, 3) := by decide +kernel
theorem dX4_hasSo_8 : decode cX4_hasSo 8 = .ok (.iload_n 3, 1) := by decide +kernel
theorem dX4_hasSo_9 : decode cX4_hasSo 9 = .ok (.if_icmp .lt 7, 3) := by decide +kernel
theorem dX4_hasSo_12 : decode cX4_hasSo 12 = .ok (.iconst 1, 1) := by decide +kernel
theorem dX4_hasSo_13 : decode cX4_hasSo 13 = .ok (.goto 4, 3) := by decide +kernel
theorem dX4_hasSo_16 : decode cX4_hasSo 16 = .ok (.iconst 0, 1) := by decide +kernel
theorem dX4_hasSo_17 : decode cX4_hasSo 17 = .ok (.ireturn, 1) := by decide +kernel
theorem dX4_damage_0 : decode cX4_damage 0 = .ok (.aload_n 0, 1) := by decide +kernel
theorem dX4_damage_1 : decode cX4_damage 1 = .ok (.aload_n 0, 1) := by decide +kernel
theorem dX4_damage_2 : decode cX4_damage 2 = .ok (.iload_n 1, 1) := by decide +kernel
theorem dX4_damage_3 : decode cX4_damage 3 = .ok (.invokevirtual 67, 3) := by decide +kernel
theorem dX4_damage_6 : decode cX4_damage 6 = .ok (.ifCond .eq 10, 3) := by decide +kernel
theorem dX4_damage_9 : decode cX4_damage 9 = .ok (.iload_n 2, 1) := by decide +kernel
theorem dX4_damage_10 : decode cX4_damage 10 = .ok (.invokestatic 64, 3) := by decide +kernel
theorem dX4_damage_13 : decode cX4_damage 13 = .ok (.ifCond .ne 7, 3) := by decide +kernel
theorem dX4_damage_16 : decode cX4_damage 16 = .ok (.iconst 1, 1) := by decide +kernel
theorem dX4_damage_17 : decode cX4_damage 17 = .ok (.goto 35, 3) := by decide +kernel
theorem dX4_damage_20 : decode cX4_damage 20 = .ok (.iload_n 3, 1) := by decide +kernel
theorem dX4_damage_21 : decode cX4_damage 21 = .ok (.iconst 1, 1) := by decide +kernel
theorem dX4_damage_22 : decode cX4_damage 22 = .ok (.if_icmp .ge 7, 3) := by decide +kernel
theorem dX4_damage_25 : decode cX4_damage 25 = .ok (.iconst 2, 1) := by decide +kernel
theorem dX4_damage_26 : decode cX4_damage 26 = .ok (.goto 26, 3) := by decide +kernel
theorem dX4_damage_29 : decode cX4_damage 29 = .ok (.aload_n 0, 1) := by decide +kernel
theorem dX4_damage_30 : decode cX4_damage 30 = .ok (.iload_n 1, 1) := by decide +kernel
theorem dX4_damage_31 : decode cX4_damage 31 = .ok (.invokevirtual 44, 3) := by decide +kernel
theorem dX4_damage_34 : decode cX4_damage 34 = .ok (.ifCond .eq 17, 3) := by decide +kernel
theorem dX4_damage_37 : decode cX4_damage 37 = .ok (.aload_n 0, 1) := by decide +kernel
theorem dX4_damage_38 : decode cX4_damage 38 = .ok (.iload_n 1, 1) := by decide +kernel
theorem dX4_damage_39 : decode cX4_damage 39 = .ok (.iload_n 2, 1) := by decide +kernel
theorem dX4_damage_40 : decode cX4_damage 40 = .ok (.iload_n 3, 1) := by decide +kernel
theorem dX4_damage_41 : decode cX4_damage 41 = .ok (.invokevirtual 73, 3) := by decide +kernel
theorem dX4_damage_44 : decode cX4_damage 44 = .ok (.ifCond .eq 7, 3) := by decide +kernel
theorem dX4_damage_47 : decode cX4_damage 47 = .ok (.iconst 0, 1) := by decide +kernel
theorem dX4_damage_48 : decode cX4_damage 48 = .ok (.goto 4, 3) := by decide +kernel
theorem dX4_damage_51 : decode cX4_damage 51 = .ok (.iconst 3, 1) := by decide +kernel
theorem dX4_damage_52 : decode cX4_damage 52 = .ok (.putfield 25, 3) := by decide +kernel
theorem dX4_damage_55 : decode cX4_damage 55 = .ok (.aload_n 0, 1) := by decide +kernel
theorem dX4_damage_56 : decode cX4_damage 56 = .ok (.getfield 25, 3) := by decide +kernel
theorem dX4_damage_59 : decode cX4_damage 59 = .ok (.ifCond .le 5, 3) := by decide +kernel
theorem dX4_damage_62 : decode cX4_damage 62 = .ok (.iconst 0, 1) := by decide +kernel
theorem dX4_damage_63 : decode cX4_damage 63 = .ok (.ireturn, 1) := by decide +kernel
theorem dX4_damage_64 : decode cX4_damage 64 = .ok (.aload_n 0, 1) := by decide +kernel
theorem dX4_damage_65 : decode cX4_damage 65 = .ok (.invokevirtual 54, 3) := by decide +kernel
theorem dX4_damage_68 : decode cX4_damage 68 = .ok (.iload_n 3, 1) := by decide +kernel
theorem dX4_damage_69 : decode cX4_damage 69 = .ok (.iload_n 2, 1) := by decide +kernel
theorem dX4_damage_70 : decode cX4_damage 70 = .ok (.invokestatic 61, 3) := by decide +kernel
theorem dX4_damage_73 : decode cX4_damage 73 = .ok (.imul, 1) := by decide +kernel
theorem dX4_damage_74 : decode cX4_damage 74 = .ok (.istore 4, 2) := by decide +kernel
theorem dX4_damage_76 : decode cX4_damage 76 = .ok (.aload_n 0, 1) := by decide +kernel
theorem dX4_damage_77 : decode cX4_damage 77 = .ok (.iload_n 1, 1) := by decide +kernel
theorem dX4_damage_78 : decode cX4_damage 78 = .ok (.iload_n 2, 1) := by decide +kernel
theorem dX4_damage_79 : decode cX4_damage 79 = .ok (.iload_n 3, 1) := by decide +kernel
theorem dX4_damage_80 : decode cX4_damage 80 = .ok (.invokevirtual 76, 3) := by decide +kernel
theorem dX4_damage_83 : decode cX4_damage 83 = .ok (.iconst 0, 1) := by decide +kernel
theorem dX4_damage_84 : decode cX4_damage 84 = .ok (.istore 5, 2) := by decide +kernel
theorem dX4_damage_86 : decode cX4_damage 86 = .ok (.iload 5, 2) := by decide +kernel
theorem dX4_damage_88 : decode cX4_damage 88 = .ok (.aload_n 0, 1) := by decide +kernel
theorem dX4_damage_89 : decode cX4_damage 89 = .ok (.iload_n 1, 1) := by decide +kernel
theorem dX4_damage_90 : decode cX4_damage 90 = .ok (.invokevirtual 70, 3) := by decide +kernel
theorem dX4_damage_93 : decode cX4_damage 93 = .ok (.if_icmp .ge 33, 3) := by decide +kernel
theorem dX4_damage_96 : decode cX4_damage 96 = .ok (.aload_n 0, 1) := by decide +kernel
theorem dX4_damage_97 : decode cX4_damage 97 = .ok (.aload_n 0, 1) := by decide +kernel
theorem dX4_damage_98 : decode cX4_damage 98 = .ok (.iload_n 1, 1) := by decide +kernel
theorem dX4_damage_99 : decode cX4_damage 99 = .ok (.bipush 6, 2) := by decide +kernel
theorem dX4_damage_101 : decode cX4_damage 101 = .ok (.iload 5, 2) := by decide +kernel
theorem dX4_damage_103 : decode cX4_damage 103 = .ok (.iadd, 1) := by decide +kernel
theorem dX4_damage_104 : decode cX4_damage 104 = .ok (.invokevirtual 36, 3) := by decide +kernel
theorem dX4_damage_107 : decode cX4_damage 107 = .ok (.iconst 2, 1) := by decide +kernel
theorem dX4_damage_108 : decode cX4_damage 108 = .ok (.aload_n 0, 1) := by decide +kernel
theorem dX4_damage_109 : decode cX4_damage 109 = .ok (.iload_n 1, 1) := by decide +kernel
theorem dX4_damage_110 : decode cX4_damage 110 = .ok (.iload 5, 2) := by decide +kernel
theorem dX4_damage_112 : decode cX4_damage 112 = .ok (.iload 4, 2) := by decide +kernel
theorem dX4_damage_114 : decode cX4_damage 114 = .ok (.invokevirtual 79, 3) := by decide +kernel
theorem dX4_damage_117 : decode cX4_damage 117 = .ok (.invokevirtual 83, 3) := by decide +kernel
theorem dX4_damage_120 : decode cX4_damage 120 = .ok (.iinc 5 1, 3) := by decide +kernel
theorem dX4_damage_123 : decode cX4_damage 123 = .ok (.goto (-37), 3) := by decide +kernel
theorem dX4_damage_126 : decode cX4_damage 126 = .ok (.aload_n 0, 1) := by decide +kernel
theorem dX4_damage_127 : decode cX4_damage 127 = .ok (.getfield 7, 3) := by decide +kernel
theorem dX4_damage_130 : decode cX4_damage 130 = .ok (.iconst 5, 1) := by decide +kernel
theorem dX4_damage_131 : decode cX4_damage 131 = .ok (.dup2, 1) := by decide +kernel
theorem dX4_damage_132 : decode cX4_damage 132 = .ok (.iaload, 1) := by decide +kernel
theorem dX4_damage_133 : decode cX4_damage 133 = .ok (.aload_n 0, 1) := by decide +kernel
theorem dX4_damage_134 : decode cX4_damage 134 = .ok (.iload_n 1, 1) := by decide +kernel
theorem dX4_damage_135 : decode cX4_damage 135 = .ok (.invokevirtual 70, 3) := by decide +kernel
theorem dX4_damage_138 : decode cX4_damage 138 = .ok (.ifCond .ne 8, 3) := by decide +kernel
theorem dX4_damage_141 : decode cX4_damage 141 = .ok (.iload 4, 2) := by decide +kernel
theorem dX4_damage_143 : decode cX4_damage 143 = .ok (.goto 4, 3) := by decide +kernel
theorem dX4_damage_146 : decode cX4_damage 146 = .ok (.iconst 0, 1) := by decide +kernel
theorem dX4_damage_147 : decode cX4_damage 147 = .ok (.iadd, 1) := by decide +kernel
theorem dX4_damage_148 : decode cX4_damage 148 = .ok (.iastore, 1) := by decide +kernel
theorem dX4_damage_149 : decode cX4_damage 149 = .ok (.iload 4, 2) := by decide +kernel
theorem dX4_damage_151 : decode cX4_damage 151 = .ok (.ireturn, 1) := by decide +kernel
theorem dX4_swap_0 : decode cX4_swap 0 = .ok (.aload_n 0, 1) := by decide +kernel
theorem dX4_swap_1 : decode cX4_swap 1 = .ok (.aload_n 0, 1) := by decide +kernel
theorem dX4_swap_2 : decode cX4_swap 2 = .ok (.iload_n 1, 1) := by decide +kernel
theorem dX4_swap_3 : decode cX4_swap 3 = .ok (.invokevirtual 67, 3) := by decide +kernel
theorem dX4_swap_6 : decode cX4_swap 6 = .ok (.ifCond .eq 11, 3) := by decide +kernel
theorem dX4_swap_9 : decode cX4_swap 9 = .ok (.aload_n 0, 1) := by decide +kernel
theorem dX4_swap_10 : decode cX4_swap 10 = .ok (.iload_n 2, 1) := by decide +kernel
theorem dX4_swap_11 : decode cX4_swap 11 = .ok (.invokevirtual 67, 3) := by decide +kernel
theorem dX4_swap_14 : decode cX4_swap 14 = .ok (.ifCond .ne 7, 3) := by decide +kernel
theorem dX4_swap_17 : decode cX4_swap 17 = .ok (.iconst 1, 1) := by decide +kernel
theorem dX4_swap_18 : decode cX4_swap 18 = .ok (.goto 24, 3) := by decide +kernel
theorem dX4_swap_21 : decode cX4_swap 21 = .ok (.aload_n 0, 1) := by decide +kernel
theorem dX4_swap_22 : decode cX4_swap 22 = .ok (.iload_n 1, 1) := by decide +kernel
theorem dX4_swap_23 : decode cX4_swap 23 = .ok (.invokevirtual 44, 3) := by decide +kernel
theorem dX4_swap_26 : decode cX4_swap 26 = .ok (.ifCond .eq 15, 3) := by decide +kernel
theorem dX4_swap_29 : decode cX4_swap 29 = .ok (.aload_n 0, 1) := by decide +kernel
theorem dX4_swap_30 : decode cX4_swap 30 = .ok (.iload_n 2, 1) := by decide +kernel
theorem dX4_swap_31 : decode cX4_swap 31 = .ok (.invokevirtual 44, 3) := by decide +kernel
theorem dX4_swap_34 : decode cX4_swap 34 = .ok (.ifCond .eq 7, 3) := by decide +kernel
theorem dX4_swap_37 : decode cX4_swap 37 = .ok (.iconst 0, 1) := by decide +kernel
theorem dX4_swap_38 : decode cX4_swap 38 = .ok (.goto 4, 3) := by decide +kernel
theorem dX4_swap_41 : decode cX4_swap 41 = .ok (.iconst 2, 1) := by decide +kernel
theorem dX4_swap_42 : decode cX4_swap 42 = .ok (.putfield 25, 3) := by decide +kernel
theorem dX4_swap_45 : decode cX4_swap 45 = .ok (.aload_n 0, 1) := by decide +kernel
theorem dX4_swap_46 : decode cX4_swap 46 = .ok (.getfield 25, 3) := by decide +kernel
theorem dX4_swap_49 : decode cX4_swap 49 = .ok (.ifCond .le 5, 3) := by decide +kernel
theorem dX4_swap_52 : decode cX4_swap 52 = .ok (.iconst 0, 1) := by decide +kernel
theorem dX4_swap_53 : decode cX4_swap 53 = .ok (.ireturn, 1) := by decide +kernel
theorem dX4_swap_54 : decode cX4_swap 54 = .ok (.aload_n 0, 1) := by decide +kernel
theorem dX4_swap_55 : decode cX4_swap 55 = .ok (.invokevirtual 54, 3) := by decide +kernel
theorem dX4_swap_58 : decode cX4_swap 58 = .ok (.iconst 0, 1) := by decide +kernel
theorem dX4_swap_59 : decode cX4_swap 59 = .ok (.istore_n 3, 1) := by decide +kernel
theorem dX4_swap_60 : decode cX4_swap 60 = .ok (.iload_n 3, 1) := by decide +kernel
theorem dX4_swap_61 : decode cX4_swap 61 = .ok (.iconst 4, 1) := by decide +kernel
theorem dX4_swap_62 : decode cX4_swap 62 = .ok (.if_icmp .ge 45, 3) := by decide +kernel
theorem dX4_swap_65 : decode cX4_swap 65 = .ok (.aload_n 0, 1) := by decide +kernel
theorem dX4_swap_66 : decode cX4_swap 66 = .ok (.iload_n 1, 1) := by decide +kernel
theorem dX4_swap_67 : decode cX4_swap 67 = .ok (.iconst 2, 1) := by decide +kernel
theorem dX4_swap_68 : decode cX4_swap 68 = .ok (.iload_n 3, 1) := by decide +kernel
theorem dX4_swap_69 : decode cX4_swap 69 = .ok (.iadd, 1) := by decide +kernel
theorem dX4_swap_70 : decode cX4_swap 70 = .ok (.invokevirtual 36, 3) := by decide +kernel
theorem dX4_swap_73 : decode cX4_swap 73 = .ok (.istore 4, 2) := by decide +kernel
theorem dX4_swap_75 : decode cX4_swap 75 = .ok (.aload_n 0, 1) := by decide +kernel
theorem dX4_swap_76 : decode cX4_swap 76 = .ok (.iload_n 1, 1) := by decide +kernel
theorem dX4_swap_77 : decode cX4_swap 77 = .ok (.iconst 2, 1) := by decide +kernel
theorem dX4_swap_78 : decode cX4_swap 78 = .ok (.iload_n 3, 1) := by decide +kernel
theorem dX4_swap_79 : decode cX4_swap 79 = .ok (.iadd, 1) := by decide +kernel
theorem dX4_swap_80 : decode cX4_swap 80 = .ok (.aload_n 0, 1) := by decide +kernel
theorem dX4_swap_81 : decode cX4_swap 81 = .ok (.iload_n 2, 1) := by decide +kernel
theorem dX4_swap_82 : decode cX4_swap 82 = .ok (.iconst 2, 1) := by decide +kernel
theorem dX4_swap_83 : decode cX4_swap 83 = .ok (.iload_n 3, 1) := by decide +kernel
theorem dX4_swap_84 : decode cX4_swap 84 = .ok (.iadd, 1) := by decide +kernel
theorem dX4_swap_85 : decode cX4_swap 85 = .ok (.invokevirtual 36, 3) := by decide +kernel
theorem dX4_swap_88 : decode cX4_swap 88 = .ok (.invokevirtual 57, 3) := by decide +kernel
theorem dX4_swap_91 : decode cX4_swap 91 = .ok (.aload_n 0, 1) := by decide +kernel
theorem dX4_swap_92 : decode cX4_swap 92 = .ok (.iload_n 2, 1) := by decide +kernel
theorem dX4_swap_93 : decode cX4_swap 93 = .ok (.iconst 2, 1) := by decide +kernel
theorem dX4_swap_94 : decode cX4_swap 94 = .ok (.iload_n 3, 1) := by decide +kernel
theorem dX4_swap_95 : decode cX4_swap 95 = .ok (.iadd, 1) := by decide +kernel
theorem dX4_swap_96 : decode cX4_swap 96 = .ok (.iload 4, 2) := by decide +kernel
theorem dX4_swap_98 : decode cX4_swap 98 = .ok (.invokevirtual 57, 3) := by decide +kernel
theorem dX4_swap_101 : decode cX4_swap 101 = .ok (.iinc 3 1, 3) := by decide +kernel
theorem dX4_swap_104 : decode cX4_swap 104 = .ok (.goto (-44), 3) := by decide +kernel
theorem dX4_swap_107 : decode cX4_swap 107 = .ok (.aload_n 0, 1) := by decide +kernel
theorem dX4_swap_108 : decode cX4_swap 108 = .ok (.iload_n 1, 1) := by decide +kernel
theorem dX4_swap_109 : decode cX4_swap 109 = .ok (.invokevirtual 86, 3) := by decide +kernel
theorem dX4_swap_112 : decode cX4_swap 112 = .ok (.ireturn, 1) := by decide +kernel
theorem dX4_dueIn_0 : decode cX4_dueIn 0 = .ok (.aload_n 0, 1) := by decide +kernel
theorem dX4_dueIn_1 : decode cX4_dueIn 1 = .ok (.getfield 7, 3) := by decide +kernel
theorem dX4_dueIn_4 : decode cX4_dueIn 4 = .ok (.iconst 2, 1) := by decide +kernel
theorem dX4_dueIn_5 : decode cX4_dueIn 5 = .ok (.iaload, 1) := by decide +kernel
theorem dX4_dueIn_6 : decode cX4_dueIn 6 = .ok (.iload_n 2, 1) := by decide +kernel
theorem dX4_dueIn_7 : decode cX4_dueIn 7 = .ok (.iadd, 1) := by decide +kernel
theorem dX4_dueIn_8 : decode cX4_dueIn 8 = .ok (.aload_n 0, 1) := by decide +kernel
theorem dX4_dueIn_9 : decode cX4_dueIn 9 = .ok (.iload_n 1, 1) := by decide +kernel
theorem dX4_dueIn_10 : decode cX4_dueIn 10 = .ok (.iconst 1, 1) := by decide +kernel
theorem dX4_dueIn_11 : decode cX4_dueIn 11 = .ok (.invokevirtual 36, 3) := by decide +kernel
theorem dX4_dueIn_14 : decode cX4_dueIn 14 = .ok (.isub, 1) := by decide +kernel
theorem dX4_dueIn_15 : decode cX4_dueIn 15 = .ok (.istore_n 3, 1) := by decide +kernel
theorem dX4_dueIn_16 : decode cX4_dueIn 16 = .ok (.aload_n 0, 1) := by decide +kernel
theorem dX4_dueIn_17 : decode cX4_dueIn 17 = .ok (.iload_n 1, 1) := by decide +kernel
theorem dX4_dueIn_18 : decode cX4_dueIn 18 = .ok (.invokevirtual 44, 3) := by decide +kernel
theorem dX4_dueIn_21 : decode cX4_dueIn 21 = .ok (.ifCond .eq 7, 3) := by decide +kernel
theorem dX4_dueIn_24 : decode cX4_dueIn 24 = .ok (.iconst 0, 1) := by decide +kernel
theorem dX4_dueIn_25 : decode cX4_dueIn 25 = .ok (.goto 30, 3) := by decide +kernel
theorem dX4_dueIn_28 : decode cX4_dueIn 28 = .ok (.iload_n 3, 1) := by decide +kernel
theorem dX4_dueIn_29 : decode cX4_dueIn 29 = .ok (.aload_n 0, 1) := by decide +kernel
theorem dX4_dueIn_30 : decode cX4_dueIn 30 = .ok (.getfield 7, 3) := by decide +kernel
theorem dX4_dueIn_33 : decode cX4_dueIn 33 = .ok (.iconst 0, 1) := by decide +kernel
theorem dX4_dueIn_34 : decode cX4_dueIn 34 = .ok (.iaload, 1) := by decide +kernel
theorem dX4_dueIn_35 : decode cX4_dueIn 35 = .ok (.if_icmp .ge 12, 3) := by decide +kernel
theorem dX4_dueIn_38 : decode cX4_dueIn 38 = .ok (.aload_n 0, 1) := by decide +kernel
theorem dX4_dueIn_39 : decode cX4_dueIn 39 = .ok (.getfield 7, 3) := by decide +kernel
theorem dX4_dueIn_42 : decode cX4_dueIn 42 = .ok (.iconst 0, 1) := by decide +kernel
theorem dX4_dueIn_43 : decode cX4_dueIn 43 = .ok (.iaload, 1) := by decide +kernel
theorem dX4_dueIn_44 : decode cX4_dueIn 44 = .ok (.goto 4, 3) := by decide +kernel
theorem dX4_dueIn_47 : decode cX4_dueIn 47 = .ok (.iload_n 3, 1) := by decide +kernel
theorem dX4_dueIn_48 : decode cX4_dueIn 48 = .ok (.aload_n 0, 1) := by decide +kernel
theorem dX4_dueIn_49 : decode cX4_dueIn 49 = .ok (.getfield 7, 3) := by decide +kernel
theorem dX4_dueIn_52 : decode cX4_dueIn 52 = .ok (.iconst 1, 1) := by decide +kernel
theorem dX4_dueIn_53 : decode cX4_dueIn 53 = .ok (.iaload, 1) := by decide +kernel
theorem dX4_dueIn_54 : decode cX4_dueIn 54 = .ok (.imul, 1) := by decide +kernel
theorem dX4_dueIn_55 : decode cX4_dueIn 55 = .ok (.ireturn, 1) := by decide +kernel
theorem dX4_comes_0 : decode cX4_comes 0 = .ok (.aload_n 0, 1) := by decide +kernel
theorem dX4_comes_1 : decode cX4_comes 1 = .ok (.iload_n 1, 1) := by decide +kernel
theorem dX4_comes_2 : decode cX4_comes 2 = .ok (.iconst 0, 1) := by decide +kernel
theorem dX4_comes_3 : decode cX4_comes 3 = .ok (.iload_n 2, 1) := by decide +kernel
theorem dX4_comes_4 : decode cX4_comes 4 = .ok (.invokevirtual 57, 3) := by decide +kernel
theorem dX4_comes_7 : decode cX4_comes 7 = .ok (.aload_n 0, 1) := by decide +kernel
theorem dX4_comes_8 : decode cX4_comes 8 = .ok (.iload_n 1, 1) := by decide +kernel
theorem dX4_comes_9 : decode cX4_comes 9 = .ok (.iconst 1, 1) := by decide +kernel
theorem dX4_comes_10 : decode cX4_comes 10 = .ok (.aload_n 0, 1) := by decide +kernel
theorem dX4_comes_11 : decode cX4_comes 11 = .ok (.getfield 7, 3) := by decide +kernel
theorem dX4_comes_14 : decode cX4_comes 14 = .ok (.iconst 2, 1) := by decide +kernel
theorem dX4_comes_15 : decode cX4_comes 15 = .ok (.iaload, 1) := by decide +kernel
theorem dX4_comes_16 : decode cX4_comes 16 = .ok (.invokevirtual 57, 3) := by decide +kernel
theorem dX4_comes_19 : decode cX4_comes 19 = .ok (.aload_n 0, 1) := by decide +kernel
theorem dX4_comes_20 : decode cX4_comes 20 = .ok (.iload_n 1, 1) := by decide +kernel
theorem dX4_comes_21 : decode cX4_comes 21 = .ok (.bipush 9, 2) := by decide +kernel
theorem dX4_comes_23 : decode cX4_comes 23 = .ok (.aload_n 0, 1) := by decide +kernel
theorem dX4_comes_24 : decode cX4_comes 24 = .ok (.iload_n 1, 1) := by decide +kernel
theorem dX4_comes_25 : decode cX4_comes 25 = .ok (.bipush 9, 2) := by decide +kernel
theorem dX4_comes_27 : decode cX4_comes 27 = .ok (.invokevirtual 36, 3) := by decide +kernel
theorem dX4_comes_30 : decode cX4_comes 30 = .ok (.iconst 1, 1) := by decide +kernel
theorem dX4_comes_31 : decode cX4_comes 31 = .ok (.iadd, 1) := by decide +kernel
theorem dX4_comes_32 : decode cX4_comes 32 = .ok (.invokevirtual 57, 3) := by decide +kernel
theorem dX4_comes_35 : decode cX4_comes 35 = .ok (.iconst 2, 1) := by decide +kernel
theorem dX4_comes_36 : decode cX4_comes 36 = .ok (.istore_n 3, 1) := by decide +kernel
theorem dX4_comes_37 : decode cX4_comes 37 = .ok (.iload_n 3, 1) := by decide +kernel
theorem dX4_comes_38 : decode cX4_comes 38 = .ok (.ifCond .le 29, 3) := by decide +kernel
theorem dX4_comes_41 : decode cX4_comes 41 = .ok (.aload_n 0, 1) := by decide +kernel
theorem dX4_comes_42 : decode cX4_comes 42 = .ok (.iload_n 1, 1) := by decide +kernel
theorem dX4_comes_43 : decode cX4_comes 43 = .ok (.bipush 6, 2) := by decide +kernel
theorem dX4_comes_45 : decode cX4_comes 45 = .ok (.iload_n 3, 1) := by decide +kernel
theorem dX4_comes_46 : decode cX4_comes 46 = .ok (.iadd, 1) := by decide +kernel
theorem dX4_comes_47 : decode cX4_comes 47 = .ok (.aload_n 0, 1) := by decide +kernel
theorem dX4_comes_48 : decode cX4_comes 48 = .ok (.iload_n 1, 1) := by decide +kernel
theorem dX4_comes_49 : decode cX4_comes 49 = .ok (.bipush 6, 2) := by decide +kernel
theorem dX4_comes_51 : decode cX4_comes 51 = .ok (.iload_n 3, 1) := by decide +kernel
theorem dX4_comes_52 : decode cX4_comes 52 = .ok (.iadd, 1) := by decide +kernel
theorem dX4_comes_53 : decode cX4_comes 53 = .ok (.iconst 1, 1) := by decide +kernel
theorem dX4_comes_54 : decode cX4_comes 54 = .ok (.isub, 1) := by decide +kernel
theorem dX4_comes_55 : decode cX4_comes 55 = .ok (.invokevirtual 36, 3) := by decide +kernel
theorem dX4_comes_58 : decode cX4_comes 58 = .ok (.invokevirtual 57, 3) := by decide +kernel
theorem dX4_comes_61 : decode cX4_comes 61 = .ok (.iinc 3 (-1), 3) := by decide +kernel
theorem dX4_comes_64 : decode cX4_comes 64 = .ok (.goto (-27), 3) := by decide +kernel
theorem dX4_comes_67 : decode cX4_comes 67 = .ok (.aload_n 0, 1) := by decide +kernel
theorem dX4_comes_68 : decode cX4_comes 68 = .ok (.iload_n 1, 1) := by decide +kernel
theorem dX4_comes_69 : decode cX4_comes 69 = .ok (.bipush 6, 2) := by decide +kernel
theorem dX4_comes_71 : decode cX4_comes 71 = .ok (.iload_n 2, 1) := by decide +kernel
theorem dX4_comes_72 : decode cX4_comes 72 = .ok (.invokevirtual 57, 3) := by decide +kernel
theorem dX4_comes_75 : decode cX4_comes 75 = .ok (.aload_n 0, 1) := by decide +kernel
theorem dX4_comes_76 : decode cX4_comes 76 = .ok (.getfield 7, 3) := by decide +kernel
theorem dX4_comes_79 : decode cX4_comes 79 = .ok (.iconst 4, 1) := by decide +kernel
theorem dX4_comes_80 : decode cX4_comes 80 = .ok (.dup2, 1) := by decide +kernel
theorem dX4_comes_81 : decode cX4_comes 81 = .ok (.iaload, 1) := by decide +kernel
theorem dX4_comes_82 : decode cX4_comes 82 = .ok (.iconst 1, 1) := by decide +kernel
theorem dX4_comes_83 : decode cX4_comes 83 = .ok (.iadd, 1) := by decide +kernel
theorem dX4_comes_84 : decode cX4_comes 84 = .ok (.iastore, 1) := by decide +kernel
theorem dX4_comes_85 : decode cX4_comes 85 = .ok (.return_, 1) := by decide +kernel
theorem dX4_leaves_0 : decode cX4_leaves 0 = .ok (.aload_n 0, 1) := by decide +kernel
theorem dX4_leaves_1 : decode cX4_leaves 1 = .ok (.iload_n 1, 1) := by decide +kernel
theorem dX4_leaves_2 : decode cX4_leaves 2 = .ok (.iconst 0, 1) := by decide +kernel
theorem dX4_leaves_3 : decode cX4_leaves 3 = .ok (.invokevirtual 89, 3) := by decide +kernel
theorem dX4_leaves_6 : decode cX4_leaves 6 = .ok (.istore_n 2, 1) := by decide +kernel
theorem dX4_leaves_7 : decode cX4_leaves 7 = .ok (.aload_n 0, 1) := by decide +kernel
theorem dX4_leaves_8 : decode cX4_leaves 8 = .ok (.aload_n 0, 1) := by decide +kernel
theorem dX4_leaves_9 : decode cX4_leaves 9 = .ok (.iload_n 1, 1) := by decide +kernel
theorem dX4_leaves_10 : decode cX4_leaves 10 = .ok (.iconst 0, 1) := by decide +kernel
theorem dX4_leaves_11 : decode cX4_leaves 11 = .ok (.invokevirtual 36, 3) := by decide +kernel
theorem dX4_leaves_14 : decode cX4_leaves 14 = .ok (.iconst 0, 1) := by decide +kernel
theorem dX4_leaves_15 : decode cX4_leaves 15 = .ok (.iload_n 2, 1) := by decide +kernel
theorem dX4_leaves_16 : decode cX4_leaves 16 = .ok (.invokevirtual 83, 3) := by decide +kernel
theorem dX4_leaves_19 : decode cX4_leaves 19 = .ok (.aload_n 0, 1) := by decide +kernel
theorem dX4_leaves_20 : decode cX4_leaves 20 = .ok (.iload_n 1, 1) := by decide +kernel
theorem dX4_leaves_21 : decode cX4_leaves 21 = .ok (.iconst 0, 1) := by decide +kernel
theorem dX4_leaves_22 : decode cX4_leaves 22 = .ok (.iconst (-1), 1) := by decide +kernel
theorem dX4_leaves_23 : decode cX4_leaves 23 = .ok (.invokevirtual 57, 3) := by decide +kernel
theorem dX4_leaves_26 : decode cX4_leaves 26 = .ok (.aload_n 0, 1) := by decide +kernel
theorem dX4_leaves_27 : decode cX4_leaves 27 = .ok (.iload_n 1, 1) := by decide +kernel
theorem dX4_leaves_28 : decode cX4_leaves 28 = .ok (.iconst 1, 1) := by decide +kernel
theorem dX4_leaves_29 : decode cX4_leaves 29 = .ok (.aload_n 0, 1) := by decide +kernel
theorem dX4_leaves_30 : decode cX4_leaves 30 = .ok (.getfield 7, 3) := by decide +kernel
theorem dX4_leaves_33 : decode cX4_leaves 33 = .ok (.iconst 2, 1) := by decide +kernel
theorem dX4_leaves_34 : decode cX4_leaves 34 = .ok (.iaload, 1) := by decide +kernel
theorem dX4_leaves_35 : decode cX4_leaves 35 = .ok (.invokevirtual 57, 3) := by decide +kernel
theorem dX4_leaves_38 : decode cX4_leaves 38 = .ok (.iload_n 2, 1) := by decide +kernel
theorem dX4_leaves_39 : decode cX4_leaves 39 = .ok (.ireturn, 1) := by decide +kernel
theorem dX4_canHire_0 : decode cX4_canHire 0 = .ok (.aload_n 0, 1) := by decide +kernel
theorem dX4_canHire_1 : decode cX4_canHire 1 = .ok (.iconst 1, 1) := by decide +kernel
theorem dX4_canHire_2 : decode cX4_canHire 2 = .ok (.invokevirtual 92, 3) := by decide +kernel
theorem dX4_canHire_5 : decode cX4_canHire 5 = .ok (.iload_n 1, 1) := by decide +kernel
theorem dX4_canHire_6 : decode cX4_canHire 6 = .ok (.if_icmp .lt 7, 3) := by decide +kernel
theorem dX4_canHire_9 : decode cX4_canHire 9 = .ok (.iconst 1, 1) := by decide +kernel
theorem dX4_canHire_10 : decode cX4_canHire 10 = .ok (.goto 4, 3) := by decide +kernel
theorem dX4_canHire_13 : decode cX4_canHire 13 = .ok (.iconst 0, 1) := by decide +kernel
theorem dX4_canHire_14 : decode cX4_canHire 14 = .ok (.ireturn, 1) := by decide +kernel
theorem dX4_hires_0 : decode cX4_hires 0 = .ok (.iload_n 2, 1) := by decide +kernel
theorem dX4_hires_1 : decode cX4_hires 1 = .ok (.istore_n 3, 1) := by decide +kernel
theorem dX4_hires_2 : decode cX4_hires 2 = .ok (.iconst 0, 1) := by decide +kernel
theorem dX4_hires_3 : decode cX4_hires 3 = .ok (.istore 4, 2) := by decide +kernel
theorem dX4_hires_5 : decode cX4_hires 5 = .ok (.iload 4, 2) := by decide +kernel
theorem dX4_hires_7 : decode cX4_hires 7 = .ok (.aload_n 0, 1) := by decide +kernel
theorem dX4_hires_8 : decode cX4_hires 8 = .ok (.getfield 7, 3) := by decide +kernel
theorem dX4_hires_11 : decode cX4_hires 11 = .ok (.iconst 3, 1) := by decide +kernel
theorem dX4_hires_12 : decode cX4_hires 12 = .ok (.iaload, 1) := by decide +kernel
theorem dX4_hires_13 : decode cX4_hires 13 = .ok (.if_icmp .ge 41, 3) := by decide +kernel
theorem dX4_hires_16 : decode cX4_hires 16 = .ok (.iload_n 3, 1) := by decide +kernel
theorem dX4_hires_17 : decode cX4_hires 17 = .ok (.ifCond .le 37, 3) := by decide +kernel
theorem dX4_hires_20 : decode cX4_hires 20 = .ok (.aload_n 0, 1) := by decide +kernel
theorem dX4_hires_21 : decode cX4_hires 21 = .ok (.iload 4, 2) := by decide +kernel
theorem dX4_hires_23 : decode cX4_hires 23 = .ok (.invokevirtual 44, 3) := by decide +kernel
theorem dX4_hires_26 : decode cX4_hires 26 = .ok (.ifCond .eq 22, 3) := by decide +kernel
theorem dX4_hires_29 : decode cX4_hires 29 = .ok (.aload_n 0, 1) := by decide +kernel
theorem dX4_hires_30 : decode cX4_hires 30 = .ok (.iload 4, 2) := by decide +kernel
theorem dX4_hires_32 : decode cX4_hires 32 = .ok (.invokevirtual 48, 3) := by decide +kernel
theorem dX4_hires_35 : decode cX4_hires 35 = .ok (.ifCond .eq 13, 3) := by decide +kernel
theorem dX4_hires_38 : decode cX4_hires 38 = .ok (.aload_n 0, 1) := by decide +kernel
theorem dX4_hires_39 : decode cX4_hires 39 = .ok (.iload 4, 2) := by decide +kernel
theorem dX4_hires_41 : decode cX4_hires 41 = .ok (.iload_n 1, 1) := by decide +kernel
theorem dX4_hires_42 : decode cX4_hires 42 = .ok (.invokevirtual 96, 3) := by decide +kernel
theorem dX4_hires_45 : decode cX4_hires 45 = .ok (.iinc 3 (-1), 3) := by decide +kernel
theorem dX4_hires_48 : decode cX4_hires 48 = .ok (.iinc 4 1, 3) := by decide +kernel
theorem dX4_hires_51 : decode cX4_hires 51 = .ok (.goto (-46), 3) := by decide +kernel
theorem dX4_hires_54 : decode cX4_hires 54 = .ok (.aload_n 0, 1) := by decide +kernel
theorem dX4_hires_55 : decode cX4_hires 55 = .ok (.iconst 1, 1) := by decide +kernel
theorem dX4_hires_56 : decode cX4_hires 56 = .ok (.invokevirtual 92, 3) := by decide +kernel
theorem dX4_hires_59 : decode cX4_hires 59 = .ok (.ireturn, 1) := by decide +kernel
theorem dX4_hire_0 : decode cX4_hire 0 = .ok (.aload_n 0, 1) := by decide +kernel
theorem dX4_hire_1 : decode cX4_hire 1 = .ok (.iload_n 1, 1) := by decide +kernel
theorem dX4_hire_2 : decode cX4_hire 2 = .ok (.invokestatic 100, 3) := by decide +kernel
theorem dX4_hire_5 : decode cX4_hire 5 = .ok (.ifCond .ne 7, 3) := by decide +kernel
theorem dX4_hire_8 : decode cX4_hire 8 = .ok (.iconst 1, 1) := by decide +kernel
theorem dX4_hire_9 : decode cX4_hire 9 = .ok (.goto 27, 3) := by decide +kernel
theorem dX4_hire_12 : decode cX4_hire 12 = .ok (.iload_n 2, 1) := by decide +kernel
theorem dX4_hire_13 : decode cX4_hire 13 = .ok (.invokestatic 51, 3) := by decide +kernel
theorem dX4_hire_16 : decode cX4_hire 16 = .ok (.ifCond .ne 7, 3) := by decide +kernel
theorem dX4_hire_19 : decode cX4_hire 19 = .ok (.iconst 2, 1) := by decide +kernel
theorem dX4_hire_20 : decode cX4_hire 20 = .ok (.goto 16, 3) := by decide +kernel
theorem dX4_hire_23 : decode cX4_hire 23 = .ok (.aload_n 0, 1) := by decide +kernel
theorem dX4_hire_24 : decode cX4_hire 24 = .ok (.iload_n 2, 1) := by decide +kernel
theorem dX4_hire_25 : decode cX4_hire 25 = .ok (.invokevirtual 103, 3) := by decide +kernel
theorem dX4_hire_28 : decode cX4_hire 28 = .ok (.ifCond .eq 7, 3) := by decide +kernel
theorem dX4_hire_31 : decode cX4_hire 31 = .ok (.iconst 0, 1) := by decide +kernel
theorem dX4_hire_32 : decode cX4_hire 32 = .ok (.goto 4, 3) := by decide +kernel
theorem dX4_hire_35 : decode cX4_hire 35 = .ok (.iconst 3, 1) := by decide +kernel
theorem dX4_hire_36 : decode cX4_hire 36 = .ok (.putfield 25, 3) := by decide +kernel
theorem dX4_hire_39 : decode cX4_hire 39 = .ok (.aload_n 0, 1) := by decide +kernel
theorem dX4_hire_40 : decode cX4_hire 40 = .ok (.getfield 25, 3) := by decide +kernel
theorem dX4_hire_43 : decode cX4_hire 43 = .ok (.ifCond .le 5, 3) := by decide +kernel
theorem dX4_hire_46 : decode cX4_hire 46 = .ok (.iconst 0, 1) := by decide +kernel
theorem dX4_hire_47 : decode cX4_hire 47 = .ok (.ireturn, 1) := by decide +kernel
theorem dX4_hire_48 : decode cX4_hire 48 = .ok (.aload_n 0, 1) := by decide +kernel
theorem dX4_hire_49 : decode cX4_hire 49 = .ok (.invokevirtual 54, 3) := by decide +kernel
theorem dX4_hire_52 : decode cX4_hire 52 = .ok (.aload_n 0, 1) := by decide +kernel
theorem dX4_hire_53 : decode cX4_hire 53 = .ok (.iload_n 1, 1) := by decide +kernel
theorem dX4_hire_54 : decode cX4_hire 54 = .ok (.iload_n 2, 1) := by decide +kernel
theorem dX4_hire_55 : decode cX4_hire 55 = .ok (.invokevirtual 106, 3) := by decide +kernel
theorem dX4_hire_58 : decode cX4_hire 58 = .ok (.ireturn, 1) := by decide +kernel
theorem dX4_canMove_0 : decode cX4_canMove 0 = .ok (.aload_n 0, 1) := by decide +kernel
theorem dX4_canMove_1 : decode cX4_canMove 1 = .ok (.iload_n 1, 1) := by decide +kernel
theorem dX4_canMove_2 : decode cX4_canMove 2 = .ok (.invokevirtual 44, 3) := by decide +kernel
theorem dX4_canMove_5 : decode cX4_canMove 5 = .ok (.ifCond .ne 17, 3) := by decide +kernel
theorem dX4_canMove_8 : decode cX4_canMove 8 = .ok (.aload_n 0, 1) := by decide +kernel
theorem dX4_canMove_9 : decode cX4_canMove 9 = .ok (.iload_n 1, 1) := by decide +kernel
theorem dX4_canMove_10 : decode cX4_canMove 10 = .ok (.iconst 0, 1) := by decide +kernel
theorem dX4_canMove_11 : decode cX4_canMove 11 = .ok (.invokevirtual 36, 3) := by decide +kernel
theorem dX4_canMove_14 : decode cX4_canMove 14 = .ok (.iload_n 2, 1) := by decide +kernel
theorem dX4_canMove_15 : decode cX4_canMove 15 = .ok (.if_icmp .eq 7, 3) := by decide +kernel
theorem dX4_canMove_18 : decode cX4_canMove 18 = .ok (.iconst 1, 1) := by decide +kernel
theorem dX4_canMove_19 : decode cX4_canMove 19 = .ok (.goto 4, 3) := by decide +kernel
theorem dX4_canMove_22 : decode cX4_canMove 22 = .ok (.iconst 0, 1) := by decide +kernel
theorem dX4_canMove_23 : decode cX4_canMove 23 = .ok (.ireturn, 1) := by decide +kernel
theorem dX4_moves_0 : decode cX4_moves 0 = .ok (.aload_n 0, 1) := by decide +kernel
theorem dX4_moves_1 : decode cX4_moves 1 = .ok (.iload_n 1, 1) := by decide +kernel
theorem dX4_moves_2 : decode cX4_moves 2 = .ok (.invokevirtual 109, 3) := by decide +kernel
theorem dX4_moves_5 : decode cX4_moves 5 = .ok (.istore_n 3, 1) := by decide +kernel
theorem dX4_moves_6 : decode cX4_moves 6 = .ok (.aload_n 0, 1) := by decide +kernel
theorem dX4_moves_7 : decode cX4_moves 7 = .ok (.iload_n 1, 1) := by decide +kernel
theorem dX4_moves_8 : decode cX4_moves 8 = .ok (.iload_n 2, 1) := by decide +kernel
theorem dX4_moves_9 : decode cX4_moves 9 = .ok (.invokevirtual 96, 3) := by decide +kernel
theorem dX4_moves_12 : decode cX4_moves 12 = .ok (.iload_n 3, 1) := by decide +kernel
theorem dX4_moves_13 : decode cX4_moves 13 = .ok (.ireturn, 1) := by decide +kernel
theorem dX4_moveOn_0 : decode cX4_moveOn 0 = .ok (.aload_n 0, 1) := by decide +kernel
theorem dX4_moveOn_1 : decode cX4_moveOn 1 = .ok (.aload_n 0, 1) := by decide +kernel
theorem dX4_moveOn_2 : decode cX4_moveOn 2 = .ok (.iload_n 1, 1) := by decide +kernel
theorem dX4_moveOn_3 : decode cX4_moveOn 3 = .ok (.invokevirtual 67, 3) := by decide +kernel
theorem dX4_moveOn_6 : decode cX4_moveOn 6 = .ok (.ifCond .eq 10, 3) := by decide +kernel
theorem dX4_moveOn_9 : decode cX4_moveOn 9 = .ok (.iload_n 2, 1) := by decide +kernel
theorem dX4_moveOn_10 : decode cX4_moveOn 10 = .ok (.invokestatic 100, 3) := by decide +kernel
theorem dX4_moveOn_13 : decode cX4_moveOn 13 = .ok (.ifCond .ne 7, 3) := by decide +kernel
theorem dX4_moveOn_16 : decode cX4_moveOn 16 = .ok (.iconst 1, 1) := by decide +kernel
theorem dX4_moveOn_17 : decode cX4_moveOn 17 = .ok (.goto 17, 3) := by decide +kernel
theorem dX4_moveOn_20 : decode cX4_moveOn 20 = .ok (.aload_n 0, 1) := by decide +kernel
theorem dX4_moveOn_21 : decode cX4_moveOn 21 = .ok (.iload_n 1, 1) := by decide +kernel
theorem dX4_moveOn_22 : decode cX4_moveOn 22 = .ok (.iload_n 2, 1) := by decide +kernel
theorem dX4_moveOn_23 : decode cX4_moveOn 23 = .ok (.invokevirtual 112, 3) := by decide +kernel
theorem dX4_moveOn_26 : decode cX4_moveOn 26 = .ok (.ifCond .eq 7, 3) := by decide +kernel
theorem dX4_moveOn_29 : decode cX4_moveOn 29 = .ok (.iconst 0, 1) := by decide +kernel
theorem dX4_moveOn_30 : decode cX4_moveOn 30 = .ok (.goto 4, 3) := by decide +kernel
theorem dX4_moveOn_33 : decode cX4_moveOn 33 = .ok (.iconst 2, 1) := by decide +kernel
theorem dX4_moveOn_34 : decode cX4_moveOn 34 = .ok (.putfield 25, 3) := by decide +kernel
theorem dX4_moveOn_37 : decode cX4_moveOn 37 = .ok (.aload_n 0, 1) := by decide +kernel
theorem dX4_moveOn_38 : decode cX4_moveOn 38 = .ok (.getfield 25, 3) := by decide +kernel
theorem dX4_moveOn_41 : decode cX4_moveOn 41 = .ok (.ifCond .le 5, 3) := by decide +kernel
theorem dX4_moveOn_44 : decode cX4_moveOn 44 = .ok (.iconst 0, 1) := by decide +kernel
theorem dX4_moveOn_45 : decode cX4_moveOn 45 = .ok (.ireturn, 1) := by decide +kernel
theorem dX4_moveOn_46 : decode cX4_moveOn 46 = .ok (.aload_n 0, 1) := by decide +kernel
theorem dX4_moveOn_47 : decode cX4_moveOn 47 = .ok (.invokevirtual 54, 3) := by decide +kernel
theorem dX4_moveOn_50 : decode cX4_moveOn 50 = .ok (.aload_n 0, 1) := by decide +kernel
theorem dX4_moveOn_51 : decode cX4_moveOn 51 = .ok (.iload_n 1, 1) := by decide +kernel
theorem dX4_moveOn_52 : decode cX4_moveOn 52 = .ok (.iload_n 2, 1) := by decide +kernel
theorem dX4_moveOn_53 : decode cX4_moveOn 53 = .ok (.invokevirtual 116, 3) := by decide +kernel
theorem dX4_moveOn_56 : decode cX4_moveOn 56 = .ok (.ireturn, 1) := by decide +kernel
theorem dX4_bring_0 : decode cX4_bring 0 = .ok (.aload_n 0, 1) := by decide +kernel
theorem dX4_bring_1 : decode cX4_bring 1 = .ok (.aload_n 0, 1) := by decide +kernel
theorem dX4_bring_2 : decode cX4_bring 2 = .ok (.iload_n 1, 1) := by decide +kernel
theorem dX4_bring_3 : decode cX4_bring 3 = .ok (.invokevirtual 67, 3) := by decide +kernel
theorem dX4_bring_6 : decode cX4_bring 6 = .ok (.ifCond .ne 7, 3) := by decide +kernel
theorem dX4_bring_9 : decode cX4_bring 9 = .ok (.iconst 1, 1) := by decide +kernel
theorem dX4_bring_10 : decode cX4_bring 10 = .ok (.goto 16, 3) := by decide +kernel
theorem dX4_bring_13 : decode cX4_bring 13 = .ok (.aload_n 0, 1) := by decide +kernel
theorem dX4_bring_14 : decode cX4_bring 14 = .ok (.iload_n 1, 1) := by decide +kernel
theorem dX4_bring_15 : decode cX4_bring 15 = .ok (.invokevirtual 44, 3) := by decide +kernel
theorem dX4_bring_18 : decode cX4_bring 18 = .ok (.ifCond .eq 7, 3) := by decide +kernel
theorem dX4_bring_21 : decode cX4_bring 21 = .ok (.iconst 2, 1) := by decide +kernel
theorem dX4_bring_22 : decode cX4_bring 22 = .ok (.goto 4, 3) := by decide +kernel
theorem dX4_bring_25 : decode cX4_bring 25 = .ok (.iconst 0, 1) := by decide +kernel
theorem dX4_bring_26 : decode cX4_bring 26 = .ok (.putfield 25, 3) := by decide +kernel
theorem dX4_bring_29 : decode cX4_bring 29 = .ok (.aload_n 0, 1) := by decide +kernel
theorem dX4_bring_30 : decode cX4_bring 30 = .ok (.getfield 25, 3) := by decide +kernel
theorem dX4_bring_33 : decode cX4_bring 33 = .ok (.ifCond .le 5, 3) := by decide +kernel
theorem dX4_bring_36 : decode cX4_bring 36 = .ok (.iconst 0, 1) := by decide +kernel
theorem dX4_bring_37 : decode cX4_bring 37 = .ok (.ireturn, 1) := by decide +kernel
theorem dX4_bring_38 : decode cX4_bring 38 = .ok (.aload_n 0, 1) := by decide +kernel
theorem dX4_bring_39 : decode cX4_bring 39 = .ok (.invokevirtual 54, 3) := by decide +kernel
theorem dX4_bring_42 : decode cX4_bring 42 = .ok (.aload_n 0, 1) := by decide +kernel
theorem dX4_bring_43 : decode cX4_bring 43 = .ok (.iload_n 1, 1) := by decide +kernel
theorem dX4_bring_44 : decode cX4_bring 44 = .ok (.invokevirtual 109, 3) := by decide +kernel
theorem dX4_bring_47 : decode cX4_bring 47 = .ok (.ireturn, 1) := by decide +kernel
theorem dX4_bringShort_0 : decode cX4_bringShort 0 = .ok (.aload_n 0, 1) := by decide +kernel
theorem dX4_bringShort_1 : decode cX4_bringShort 1 = .ok (.aload_n 0, 1) := by decide +kernel
theorem dX4_bringShort_2 : decode cX4_bringShort 2 = .ok (.iload_n 1, 1) := by decide +kernel
theorem dX4_bringShort_3 : decode cX4_bringShort 3 = .ok (.invokevirtual 67, 3) := by decide +kernel
theorem dX4_bringShort_6 : decode cX4_bringShort 6 = .ok (.ifCond .eq 10, 3) := by decide +kernel
theorem dX4_bringShort_9 : decode cX4_bringShort 9 = .ok (.iload_n 2, 1) := by decide +kernel
theorem dX4_bringShort_10 : decode cX4_bringShort 10 = .ok (.invokestatic 64, 3) := by decide +kernel
theorem dX4_bringShort_13 : decode cX4_bringShort 13 = .ok (.ifCond .ne 7, 3) := by decide +kernel
theorem dX4_bringShort_16 : decode cX4_bringShort 16 = .ok (.iconst 1, 1) := by decide +kernel
theorem dX4_bringShort_17 : decode cX4_bringShort 17 = .ok (.goto 35, 3) := by decide +kernel
theorem dX4_bringShort_20 : decode cX4_bringShort 20 = .ok (.iload_n 3, 1) := by decide +kernel
theorem dX4_bringShort_21 : decode cX4_bringShort 21 = .ok (.iconst 1, 1) := by decide +kernel
theorem dX4_bringShort_22 : decode cX4_bringShort 22 = .ok (.if_icmp .ge 7, 3) := by decide +kernel
theorem dX4_bringShort_25 : decode cX4_bringShort 25 = .ok (.iconst 2, 1) := by decide +kernel
theorem dX4_bringShort_26 : decode cX4_bringShort 26 = .ok (.goto 26, 3) := by decide +kernel
theorem dX4_bringShort_29 : decode cX4_bringShort 29 = .ok (.aload_n 0, 1) := by decide +kernel
theorem dX4_bringShort_30 : decode cX4_bringShort 30 = .ok (.iload_n 1, 1) := by decide +kernel
theorem dX4_bringShort_31 : decode cX4_bringShort 31 = .ok (.invokevirtual 44, 3) := by decide +kernel
theorem dX4_bringShort_34 : decode cX4_bringShort 34 = .ok (.ifCond .ne 13, 3) := by decide +kernel
theorem dX4_bringShort_37 : decode cX4_bringShort 37 = .ok (.aload_n 0, 1) := by decide +kernel
theorem dX4_bringShort_38 : decode cX4_bringShort 38 = .ok (.iload_n 1, 1) := by decide +kernel
theorem dX4_bringShort_39 : decode cX4_bringShort 39 = .ok (.iload_n 2, 1) := by decide +kernel
theorem dX4_bringShort_40 : decode cX4_bringShort 40 = .ok (.iload_n 3, 1) := by decide +kernel
theorem dX4_bringShort_41 : decode cX4_bringShort 41 = .ok (.invokevirtual 73, 3) := by decide +kernel
theorem dX4_bringShort_44 : decode cX4_bringShort 44 = .ok (.ifCond .ne 7, 3) := by decide +kernel
theorem dX4_bringShort_47 : decode cX4_bringShort 47 = .ok (.iconst 3, 1) := by decide +kernel
theorem dX4_bringShort_48 : decode cX4_bringShort 48 = .ok (.goto 4, 3) := by decide +kernel
theorem dX4_bringShort_51 : decode cX4_bringShort 51 = .ok (.iconst 0, 1) := by decide +kernel
theorem dX4_bringShort_52 : decode cX4_bringShort 52 = .ok (.putfield 25, 3) := by decide +kernel
theorem dX4_bringShort_55 : decode cX4_bringShort 55 = .ok (.aload_n 0, 1) := by decide +kernel
theorem dX4_bringShort_56 : decode cX4_bringShort 56 = .ok (.getfield 25, 3) := by decide +kernel
theorem dX4_bringShort_59 : decode cX4_bringShort 59 = .ok (.ifCond .le 5, 3) := by decide +kernel
theorem dX4_bringShort_62 : decode cX4_bringShort 62 = .ok (.iconst 0, 1) := by decide +kernel
theorem dX4_bringShort_63 : decode cX4_bringShort 63 = .ok (.ireturn, 1) := by decide +kernel
theorem dX4_bringShort_64 : decode cX4_bringShort 64 = .ok (.aload_n 0, 1) := by decide +kernel
theorem dX4_bringShort_65 : decode cX4_bringShort 65 = .ok (.invokevirtual 54, 3) := by decide +kernel
theorem dX4_bringShort_68 : decode cX4_bringShort 68 = .ok (.iload_n 3, 1) := by decide +kernel
theorem dX4_bringShort_69 : decode cX4_bringShort 69 = .ok (.iload_n 2, 1) := by decide +kernel
theorem dX4_bringShort_70 : decode cX4_bringShort 70 = .ok (.invokestatic 61, 3) := by decide +kernel
theorem dX4_bringShort_73 : decode cX4_bringShort 73 = .ok (.imul, 1) := by decide +kernel
theorem dX4_bringShort_74 : decode cX4_bringShort 74 = .ok (.istore 4, 2) := by decide +kernel
theorem dX4_bringShort_76 : decode cX4_bringShort 76 = .ok (.aload_n 0, 1) := by decide +kernel
theorem dX4_bringShort_77 : decode cX4_bringShort 77 = .ok (.aload_n 0, 1) := by decide +kernel
theorem dX4_bringShort_78 : decode cX4_bringShort 78 = .ok (.iload_n 1, 1) := by decide +kernel
theorem dX4_bringShort_79 : decode cX4_bringShort 79 = .ok (.iconst 0, 1) := by decide +kernel
theorem dX4_bringShort_80 : decode cX4_bringShort 80 = .ok (.invokevirtual 36, 3) := by decide +kernel
theorem dX4_bringShort_83 : decode cX4_bringShort 83 = .ok (.iconst 1, 1) := by decide +kernel
theorem dX4_bringShort_84 : decode cX4_bringShort 84 = .ok (.iload 4, 2) := by decide +kernel
theorem dX4_bringShort_86 : decode cX4_bringShort 86 = .ok (.invokevirtual 83, 3) := by decide +kernel
theorem dX4_bringShort_89 : decode cX4_bringShort 89 = .ok (.aload_n 0, 1) := by decide +kernel
theorem dX4_bringShort_90 : decode cX4_bringShort 90 = .ok (.iload_n 1, 1) := by decide +kernel
theorem dX4_bringShort_91 : decode cX4_bringShort 91 = .ok (.iload_n 2, 1) := by decide +kernel
theorem dX4_bringShort_92 : decode cX4_bringShort 92 = .ok (.iload_n 3, 1) := by decide +kernel
theorem dX4_bringShort_93 : decode cX4_bringShort 93 = .ok (.invokevirtual 76, 3) := by decide +kernel
theorem dX4_bringShort_96 : decode cX4_bringShort 96 = .ok (.aload_n 0, 1) := by decide +kernel
theorem dX4_bringShort_97 : decode cX4_bringShort 97 = .ok (.iload_n 1, 1) := by decide +kernel
theorem dX4_bringShort_98 : decode cX4_bringShort 98 = .ok (.invokevirtual 109, 3) := by decide +kernel
theorem dX4_bringShort_101 : decode cX4_bringShort 101 = .ok (.iload 4, 2) := by decide +kernel
theorem dX4_bringShort_103 : decode cX4_bringShort 103 = .ok (.iadd, 1) := by decide +kernel
theorem dX4_bringShort_104 : decode cX4_bringShort 104 = .ok (.ireturn, 1) := by decide +kernel
theorem dX4_billedTo_0 : decode cX4_billedTo 0 = .ok (.aload_n 0, 1) := by decide +kernel
theorem dX4_billedTo_1 : decode cX4_billedTo 1 = .ok (.iload_n 1, 1) := by decide +kernel
theorem dX4_billedTo_2 : decode cX4_billedTo 2 = .ok (.iconst 0, 1) := by decide +kernel
theorem dX4_billedTo_3 : decode cX4_billedTo 3 = .ok (.invokevirtual 119, 3) := by decide +kernel
theorem dX4_billedTo_6 : decode cX4_billedTo 6 = .ok (.aload_n 0, 1) := by decide +kernel
theorem dX4_billedTo_7 : decode cX4_billedTo 7 = .ok (.iload_n 1, 1) := by decide +kernel
theorem dX4_billedTo_8 : decode cX4_billedTo 8 = .ok (.iconst 1, 1) := by decide +kernel
theorem dX4_billedTo_9 : decode cX4_billedTo 9 = .ok (.invokevirtual 119, 3) := by decide +kernel
theorem dX4_billedTo_12 : decode cX4_billedTo 12 = .ok (.iadd, 1) := by decide +kernel
theorem dX4_billedTo_13 : decode cX4_billedTo 13 = .ok (.aload_n 0, 1) := by decide +kernel
theorem dX4_billedTo_14 : decode cX4_billedTo 14 = .ok (.iload_n 1, 1) := by decide +kernel
theorem dX4_billedTo_15 : decode cX4_billedTo 15 = .ok (.iconst 2, 1) := by decide +kernel
theorem dX4_billedTo_16 : decode cX4_billedTo 16 = .ok (.invokevirtual 119, 3) := by decide +kernel
theorem dX4_billedTo_19 : decode cX4_billedTo 19 = .ok (.iadd, 1) := by decide +kernel
theorem dX4_billedTo_20 : decode cX4_billedTo 20 = .ok (.ireturn, 1) := by decide +kernel
theorem dX4_owedBy_0 : decode cX4_owedBy 0 = .ok (.aload_n 0, 1) := by decide +kernel
theorem dX4_owedBy_1 : decode cX4_owedBy 1 = .ok (.iload_n 1, 1) := by decide +kernel
theorem dX4_owedBy_2 : decode cX4_owedBy 2 = .ok (.invokevirtual 122, 3) := by decide +kernel
theorem dX4_owedBy_5 : decode cX4_owedBy 5 = .ok (.aload_n 0, 1) := by decide +kernel
theorem dX4_owedBy_6 : decode cX4_owedBy 6 = .ok (.iload_n 1, 1) := by decide +kernel
theorem dX4_owedBy_7 : decode cX4_owedBy 7 = .ok (.iconst 3, 1) := by decide +kernel
theorem dX4_owedBy_8 : decode cX4_owedBy 8 = .ok (.invokevirtual 119, 3) := by decide +kernel
theorem dX4_owedBy_11 : decode cX4_owedBy 11 = .ok (.isub, 1) := by decide +kernel
theorem dX4_owedBy_12 : decode cX4_owedBy 12 = .ok (.ireturn, 1) := by decide +kernel
theorem dX4_pay_0 : decode cX4_pay 0 = .ok (.aload_n 0, 1) := by decide +kernel
theorem dX4_pay_1 : decode cX4_pay 1 = .ok (.iload_n 1, 1) := by decide +kernel
theorem dX4_pay_2 : decode cX4_pay 2 = .ok (.invokestatic 100, 3) := by decide +kernel
theorem dX4_pay_5 : decode cX4_pay 5 = .ok (.ifCond .ne 7, 3) := by decide +kernel
theorem dX4_pay_8 : decode cX4_pay 8 = .ok (.iconst 1, 1) := by decide +kernel
theorem dX4_pay_9 : decode cX4_pay 9 = .ok (.goto 32, 3) := by decide +kernel
theorem dX4_pay_12 : decode cX4_pay 12 = .ok (.iload_n 2, 1) := by decide +kernel
theorem dX4_pay_13 : decode cX4_pay 13 = .ok (.iconst 1, 1) := by decide +kernel
theorem dX4_pay_14 : decode cX4_pay 14 = .ok (.sipush 9999, 3) := by decide +kernel
theorem dX4_pay_17 : decode cX4_pay 17 = .ok (.invokestatic 32, 3) := by decide +kernel
theorem dX4_pay_20 : decode cX4_pay 20 = .ok (.ifCond .ne 7, 3) := by decide +kernel
theorem dX4_pay_23 : decode cX4_pay 23 = .ok (.iconst 2, 1) := by decide +kernel
theorem dX4_pay_24 : decode cX4_pay 24 = .ok (.goto 17, 3) := by decide +kernel
theorem dX4_pay_27 : decode cX4_pay 27 = .ok (.aload_n 0, 1) := by decide +kernel
theorem dX4_pay_28 : decode cX4_pay 28 = .ok (.iload_n 1, 1) := by decide +kernel
theorem dX4_pay_29 : decode cX4_pay 29 = .ok (.invokevirtual 125, 3) := by decide +kernel
theorem dX4_pay_32 : decode cX4_pay 32 = .ok (.iload_n 2, 1) := by decide +kernel
theorem dX4_pay_33 : decode cX4_pay 33 = .ok (.if_icmp .ge 7, 3) := by decide +kernel
theorem dX4_pay_36 : decode cX4_pay 36 = .ok (.iconst 3, 1) := by decide +kernel
theorem dX4_pay_37 : decode cX4_pay 37 = .ok (.goto 4, 3) := by decide +kernel
theorem dX4_pay_40 : decode cX4_pay 40 = .ok (.iconst 0, 1) := by decide +kernel
theorem dX4_pay_41 : decode cX4_pay 41 = .ok (.putfield 25, 3) := by decide +kernel
theorem dX4_pay_44 : decode cX4_pay 44 = .ok (.aload_n 0, 1) := by decide +kernel
theorem dX4_pay_45 : decode cX4_pay 45 = .ok (.getfield 25, 3) := by decide +kernel
theorem dX4_pay_48 : decode cX4_pay 48 = .ok (.ifCond .le 5, 3) := by decide +kernel
theorem dX4_pay_51 : decode cX4_pay 51 = .ok (.iconst 0, 1) := by decide +kernel
theorem dX4_pay_52 : decode cX4_pay 52 = .ok (.ireturn, 1) := by decide +kernel
theorem dX4_pay_53 : decode cX4_pay 53 = .ok (.aload_n 0, 1) := by decide +kernel
theorem dX4_pay_54 : decode cX4_pay 54 = .ok (.invokevirtual 54, 3) := by decide +kernel
theorem dX4_pay_57 : decode cX4_pay 57 = .ok (.aload_n 0, 1) := by decide +kernel
theorem dX4_pay_58 : decode cX4_pay 58 = .ok (.iload_n 1, 1) := by decide +kernel
theorem dX4_pay_59 : decode cX4_pay 59 = .ok (.iconst 3, 1) := by decide +kernel
theorem dX4_pay_60 : decode cX4_pay 60 = .ok (.iload_n 2, 1) := by decide +kernel
theorem dX4_pay_61 : decode cX4_pay 61 = .ok (.invokevirtual 83, 3) := by decide +kernel
theorem dX4_pay_64 : decode cX4_pay 64 = .ok (.aload_n 0, 1) := by decide +kernel
theorem dX4_pay_65 : decode cX4_pay 65 = .ok (.iload_n 1, 1) := by decide +kernel
theorem dX4_pay_66 : decode cX4_pay 66 = .ok (.invokevirtual 125, 3) := by decide +kernel
theorem dX4_pay_69 : decode cX4_pay 69 = .ok (.ireturn, 1) := by decide +kernel
theorem dX4_areDays_0 : decode cX4_areDays 0 = .ok (.iload_n 0, 1) := by decide +kernel
theorem dX4_areDays_1 : decode cX4_areDays 1 = .ok (.iconst 1, 1) := by decide +kernel
theorem dX4_areDays_2 : decode cX4_areDays 2 = .ok (.bipush 99, 2) := by decide +kernel
theorem dX4_areDays_4 : decode cX4_areDays 4 = .ok (.invokestatic 32, 3) := by decide +kernel
theorem dX4_areDays_7 : decode cX4_areDays 7 = .ok (.ireturn, 1) := by decide +kernel
theorem dX4_canPass_0 : decode cX4_canPass 0 = .ok (.aload_n 0, 1) := by decide +kernel
theorem dX4_canPass_1 : decode cX4_canPass 1 = .ok (.getfield 7, 3) := by decide +kernel
theorem dX4_canPass_4 : decode cX4_canPass 4 = .ok (.iconst 2, 1) := by decide +kernel
theorem dX4_canPass_5 : decode cX4_canPass 5 = .ok (.iaload, 1) := by decide +kernel
theorem dX4_canPass_6 : decode cX4_canPass 6 = .ok (.iload_n 1, 1) := by decide +kernel
theorem dX4_canPass_7 : decode cX4_canPass 7 = .ok (.iadd, 1) := by decide +kernel
theorem dX4_canPass_8 : decode cX4_canPass 8 = .ok (.sipush 9999, 3) := by decide +kernel
theorem dX4_canPass_11 : decode cX4_canPass 11 = .ok (.if_icmp .gt 7, 3) := by decide +kernel
theorem dX4_canPass_14 : decode cX4_canPass 14 = .ok (.iconst 1, 1) := by decide +kernel
theorem dX4_canPass_15 : decode cX4_canPass 15 = .ok (.goto 4, 3) := by decide +kernel
theorem dX4_canPass_18 : decode cX4_canPass 18 = .ok (.iconst 0, 1) := by decide +kernel
theorem dX4_canPass_19 : decode cX4_canPass 19 = .ok (.ireturn, 1) := by decide +kernel
theorem dX4_pass_0 : decode cX4_pass 0 = .ok (.aload_n 0, 1) := by decide +kernel
theorem dX4_pass_1 : decode cX4_pass 1 = .ok (.iload_n 1, 1) := by decide +kernel
theorem dX4_pass_2 : decode cX4_pass 2 = .ok (.invokestatic 128, 3) := by decide +kernel
theorem dX4_pass_5 : decode cX4_pass 5 = .ok (.ifCond .ne 7, 3) := by decide +kernel
theorem dX4_pass_8 : decode cX4_pass 8 = .ok (.iconst 1, 1) := by decide +kernel
theorem dX4_pass_9 : decode cX4_pass 9 = .ok (.goto 16, 3) := by decide +kernel
theorem dX4_pass_12 : decode cX4_pass 12 = .ok (.aload_n 0, 1) := by decide +kernel
theorem dX4_pass_13 : decode cX4_pass 13 = .ok (.iload_n 1, 1) := by decide +kernel
theorem dX4_pass_14 : decode cX4_pass 14 = .ok (.invokevirtual 131, 3) := by decide +kernel
theorem dX4_pass_17 : decode cX4_pass 17 = .ok (.ifCond .eq 7, 3) := by decide +kernel
theorem dX4_pass_20 : decode cX4_pass 20 = .ok (.iconst 0, 1) := by decide +kernel
theorem dX4_pass_21 : decode cX4_pass 21 = .ok (.goto 4, 3) := by decide +kernel
theorem dX4_pass_24 : decode cX4_pass 24 = .ok (.iconst 2, 1) := by decide +kernel
theorem dX4_pass_25 : decode cX4_pass 25 = .ok (.putfield 25, 3) := by decide +kernel
theorem dX4_pass_28 : decode cX4_pass 28 = .ok (.aload_n 0, 1) := by decide +kernel
theorem dX4_pass_29 : decode cX4_pass 29 = .ok (.getfield 25, 3) := by decide +kernel
theorem dX4_pass_32 : decode cX4_pass 32 = .ok (.ifCond .le 5, 3) := by decide +kernel
theorem dX4_pass_35 : decode cX4_pass 35 = .ok (.iconst 0, 1) := by decide +kernel
theorem dX4_pass_36 : decode cX4_pass 36 = .ok (.ireturn, 1) := by decide +kernel
theorem dX4_pass_37 : decode cX4_pass 37 = .ok (.aload_n 0, 1) := by decide +kernel
theorem dX4_pass_38 : decode cX4_pass 38 = .ok (.invokevirtual 54, 3) := by decide +kernel
theorem dX4_pass_41 : decode cX4_pass 41 = .ok (.aload_n 0, 1) := by decide +kernel
theorem dX4_pass_42 : decode cX4_pass 42 = .ok (.getfield 7, 3) := by decide +kernel
theorem dX4_pass_45 : decode cX4_pass 45 = .ok (.iconst 2, 1) := by decide +kernel
theorem dX4_pass_46 : decode cX4_pass 46 = .ok (.dup2, 1) := by decide +kernel
theorem dX4_pass_47 : decode cX4_pass 47 = .ok (.iaload, 1) := by decide +kernel
theorem dX4_pass_48 : decode cX4_pass 48 = .ok (.iload_n 1, 1) := by decide +kernel
theorem dX4_pass_49 : decode cX4_pass 49 = .ok (.iadd, 1) := by decide +kernel
theorem dX4_pass_50 : decode cX4_pass 50 = .ok (.iastore, 1) := by decide +kernel
theorem dX4_pass_51 : decode cX4_pass 51 = .ok (.aload_n 0, 1) := by decide +kernel
theorem dX4_pass_52 : decode cX4_pass 52 = .ok (.getfield 7, 3) := by decide +kernel
theorem dX4_pass_55 : decode cX4_pass 55 = .ok (.iconst 2, 1) := by decide +kernel
theorem dX4_pass_56 : decode cX4_pass 56 = .ok (.iaload, 1) := by decide +kernel
theorem dX4_pass_57 : decode cX4_pass 57 = .ok (.ireturn, 1) := by decide +kernel
theorem dX4_isSetting_0 : decode cX4_isSetting 0 = .ok (.iload_n 0, 1) := by decide +kernel
theorem dX4_isSetting_1 : decode cX4_isSetting 1 = .ok (.iconst 0, 1) := by decide +kernel
theorem dX4_isSetting_2 : decode cX4_isSetting 2 = .ok (.iconst 1, 1) := by decide +kernel
theorem dX4_isSetting_3 : decode cX4_isSetting 3 = .ok (.invokestatic 32, 3) := by decide +kernel
theorem dX4_isSetting_6 : decode cX4_isSetting 6 = .ok (.ireturn, 1) := by decide +kernel
theorem dX4_set_0 : decode cX4_set 0 = .ok (.aload_n 0, 1) := by decide +kernel
theorem dX4_set_1 : decode cX4_set 1 = .ok (.iload_n 1, 1) := by decide +kernel
theorem dX4_set_2 : decode cX4_set 2 = .ok (.invokestatic 134, 3) := by decide +kernel
theorem dX4_set_5 : decode cX4_set 5 = .ok (.ifCond .ne 7, 3) := by decide +kernel
theorem dX4_set_8 : decode cX4_set 8 = .ok (.iconst 1, 1) := by decide +kernel
theorem dX4_set_9 : decode cX4_set 9 = .ok (.goto 37, 3) := by decide +kernel
theorem dX4_set_12 : decode cX4_set 12 = .ok (.iload_n 1, 1) := by decide +kernel
theorem dX4_set_13 : decode cX4_set 13 = .ok (.ifCond .ne 13, 3) := by decide +kernel
theorem dX4_set_16 : decode cX4_set 16 = .ok (.iload_n 2, 1) := by decide +kernel
theorem dX4_set_17 : decode cX4_set 17 = .ok (.iconst 0, 1) := by decide +kernel
theorem dX4_set_18 : decode cX4_set 18 = .ok (.bipush 90, 2) := by decide +kernel
theorem dX4_set_20 : decode cX4_set 20 = .ok (.invokestatic 32, 3) := by decide +kernel
theorem dX4_set_23 : decode cX4_set 23 = .ok (.ifCond .ne 18, 3) := by decide +kernel
theorem dX4_set_26 : decode cX4_set 26 = .ok (.iload_n 1, 1) := by decide +kernel
theorem dX4_set_27 : decode cX4_set 27 = .ok (.iconst 1, 1) := by decide +kernel
theorem dX4_set_28 : decode cX4_set 28 = .ok (.if_icmp .ne 17, 3) := by decide +kernel
theorem dX4_set_31 : decode cX4_set 31 = .ok (.iload_n 2, 1) := by decide +kernel
theorem dX4_set_32 : decode cX4_set 32 = .ok (.iconst 1, 1) := by decide +kernel
theorem dX4_set_33 : decode cX4_set 33 = .ok (.bipush 99, 2) := by decide +kernel
theorem dX4_set_35 : decode cX4_set 35 = .ok (.invokestatic 32, 3) := by decide +kernel
theorem dX4_set_38 : decode cX4_set 38 = .ok (.ifCond .eq 7, 3) := by decide +kernel
theorem dX4_set_41 : decode cX4_set 41 = .ok (.iconst 0, 1) := by decide +kernel
theorem dX4_set_42 : decode cX4_set 42 = .ok (.goto 4, 3) := by decide +kernel
theorem dX4_set_45 : decode cX4_set 45 = .ok (.iconst 2, 1) := by decide +kernel
theorem dX4_set_46 : decode cX4_set 46 = .ok (.putfield 25, 3) := by decide +kernel
theorem dX4_set_49 : decode cX4_set 49 = .ok (.aload_n 0, 1) := by decide +kernel
theorem dX4_set_50 : decode cX4_set 50 = .ok (.getfield 25, 3) := by decide +kernel
theorem dX4_set_53 : decode cX4_set 53 = .ok (.ifCond .le 5, 3) := by decide +kernel
theorem dX4_set_56 : decode cX4_set 56 = .ok (.iconst 0, 1) := by decide +kernel
theorem dX4_set_57 : decode cX4_set 57 = .ok (.ireturn, 1) := by decide +kernel
theorem dX4_set_58 : decode cX4_set 58 = .ok (.aload_n 0, 1) := by decide +kernel
theorem dX4_set_59 : decode cX4_set 59 = .ok (.invokevirtual 54, 3) := by decide +kernel
theorem dX4_set_62 : decode cX4_set 62 = .ok (.aload_n 0, 1) := by decide +kernel
theorem dX4_set_63 : decode cX4_set 63 = .ok (.getfield 7, 3) := by decide +kernel
theorem dX4_set_66 : decode cX4_set 66 = .ok (.iload_n 1, 1) := by decide +kernel
theorem dX4_set_67 : decode cX4_set 67 = .ok (.iaload, 1) := by decide +kernel
theorem dX4_set_68 : decode cX4_set 68 = .ok (.istore_n 3, 1) := by decide +kernel
theorem dX4_set_69 : decode cX4_set 69 = .ok (.aload_n 0, 1) := by decide +kernel
theorem dX4_set_70 : decode cX4_set 70 = .ok (.getfield 7, 3) := by decide +kernel
theorem dX4_set_73 : decode cX4_set 73 = .ok (.iload_n 1, 1) := by decide +kernel
theorem dX4_set_74 : decode cX4_set 74 = .ok (.iload_n 2, 1) := by decide +kernel
theorem dX4_set_75 : decode cX4_set 75 = .ok (.iastore, 1) := by decide +kernel
theorem dX4_set_76 : decode cX4_set 76 = .ok (.iload_n 3, 1) := by decide +kernel
theorem dX4_set_77 : decode cX4_set 77 = .ok (.ireturn, 1) := by decide +kernel
theorem dX4_append_0 : decode cX4_append 0 = .ok (.aload_n 0, 1) := by decide +kernel
theorem dX4_append_1 : decode cX4_append 1 = .ok (.iload_n 1, 1) := by decide +kernel
theorem dX4_append_2 : decode cX4_append 2 = .ok (.bipush 33, 2) := by decide +kernel
theorem dX4_append_4 : decode cX4_append 4 = .ok (.bipush 126, 2) := by decide +kernel
theorem dX4_append_6 : decode cX4_append 6 = .ok (.invokestatic 32, 3) := by decide +kernel
theorem dX4_append_9 : decode cX4_append 9 = .ok (.ifCond .ne 7, 3) := by decide +kernel
theorem dX4_append_12 : decode cX4_append 12 = .ok (.iconst 1, 1) := by decide +kernel
theorem dX4_append_13 : decode cX4_append 13 = .ok (.goto 17, 3) := by decide +kernel
theorem dX4_append_16 : decode cX4_append 16 = .ok (.aload_n 0, 1) := by decide +kernel
theorem dX4_append_17 : decode cX4_append 17 = .ok (.getfield 137, 3) := by decide +kernel
theorem dX4_append_20 : decode cX4_append 20 = .ok (.bipush 60, 2) := by decide +kernel
theorem dX4_append_22 : decode cX4_append 22 = .ok (.if_icmp .ne 7, 3) := by decide +kernel
theorem dX4_append_25 : decode cX4_append 25 = .ok (.iconst 2, 1) := by decide +kernel
theorem dX4_append_26 : decode cX4_append 26 = .ok (.goto 4, 3) := by decide +kernel
theorem dX4_append_29 : decode cX4_append 29 = .ok (.iconst 0, 1) := by decide +kernel
theorem dX4_append_30 : decode cX4_append 30 = .ok (.putfield 25, 3) := by decide +kernel
theorem dX4_append_33 : decode cX4_append 33 = .ok (.aload_n 0, 1) := by decide +kernel
theorem dX4_append_34 : decode cX4_append 34 = .ok (.getfield 25, 3) := by decide +kernel
theorem dX4_append_37 : decode cX4_append 37 = .ok (.ifCond .le 5, 3) := by decide +kernel
theorem dX4_append_40 : decode cX4_append 40 = .ok (.iconst 0, 1) := by decide +kernel
theorem dX4_append_41 : decode cX4_append 41 = .ok (.ireturn, 1) := by decide +kernel
theorem dX4_append_42 : decode cX4_append 42 = .ok (.aload_n 0, 1) := by decide +kernel
theorem dX4_append_43 : decode cX4_append 43 = .ok (.getfield 16, 3) := by decide +kernel
theorem dX4_append_46 : decode cX4_append 46 = .ok (.aload_n 0, 1) := by decide +kernel
theorem dX4_append_47 : decode cX4_append 47 = .ok (.getfield 137, 3) := by decide +kernel
theorem dX4_append_50 : decode cX4_append 50 = .ok (.iload_n 1, 1) := by decide +kernel
theorem dX4_append_51 : decode cX4_append 51 = .ok (.iastore, 1) := by decide +kernel
theorem dX4_append_52 : decode cX4_append 52 = .ok (.aload_n 0, 1) := by decide +kernel
theorem dX4_append_53 : decode cX4_append 53 = .ok (.dup, 1) := by decide +kernel
theorem dX4_append_54 : decode cX4_append 54 = .ok (.getfield 137, 3) := by decide +kernel
theorem dX4_append_57 : decode cX4_append 57 = .ok (.iconst 1, 1) := by decide +kernel
theorem dX4_append_58 : decode cX4_append 58 = .ok (.iadd, 1) := by decide +kernel
theorem dX4_append_59 : decode cX4_append 59 = .ok (.putfield 137, 3) := by decide +kernel
theorem dX4_append_62 : decode cX4_append 62 = .ok (.aload_n 0, 1) := by decide +kernel
theorem dX4_append_63 : decode cX4_append 63 = .ok (.getfield 137, 3) := by decide +kernel
theorem dX4_append_66 : decode cX4_append 66 = .ok (.ireturn, 1) := by decide +kernel
theorem dX4_clearBuffer_0 : decode cX4_clearBuffer 0 = .ok (.aload_n 0, 1) := by decide +kernel
theorem dX4_clearBuffer_1 : decode cX4_clearBuffer 1 = .ok (.iconst 0, 1) := by decide +kernel
theorem dX4_clearBuffer_2 : decode cX4_clearBuffer 2 = .ok (.putfield 25, 3) := by decide +kernel
theorem dX4_clearBuffer_5 : decode cX4_clearBuffer 5 = .ok (.aload_n 0, 1) := by decide +kernel
theorem dX4_clearBuffer_6 : decode cX4_clearBuffer 6 = .ok (.getfield 137, 3) := by decide +kernel
theorem dX4_clearBuffer_9 : decode cX4_clearBuffer 9 = .ok (.istore_n 1, 1) := by decide +kernel
theorem dX4_clearBuffer_10 : decode cX4_clearBuffer 10 = .ok (.aload_n 0, 1) := by decide +kernel
theorem dX4_clearBuffer_11 : decode cX4_clearBuffer 11 = .ok (.iconst 0, 1) := by decide +kernel
theorem dX4_clearBuffer_12 : decode cX4_clearBuffer 12 = .ok (.putfield 137, 3) := by decide +kernel
theorem dX4_clearBuffer_15 : decode cX4_clearBuffer 15 = .ok (.iload_n 1, 1) := by decide +kernel
theorem dX4_clearBuffer_16 : decode cX4_clearBuffer 16 = .ok (.ireturn, 1) := by decide +kernel
theorem dX4_begins_0 : decode cX4_begins 0 = .ok (.aload_n 0, 1) := by decide +kernel
theorem dX4_begins_1 : decode cX4_begins 1 = .ok (.getfield 19, 3) := by decide +kernel
theorem dX4_begins_4 : decode cX4_begins 4 = .ok (.iconst 3, 1) := by decide +kernel
theorem dX4_begins_5 : decode cX4_begins 5 = .ok (.aload_n 0, 1) := by decide +kernel
theorem dX4_begins_6 : decode cX4_begins 6 = .ok (.getfield 140, 3) := by decide +kernel
theorem dX4_begins_9 : decode cX4_begins 9 = .ok (.imul, 1) := by decide +kernel
theorem dX4_begins_10 : decode cX4_begins 10 = .ok (.iload_n 1, 1) := by decide +kernel
theorem dX4_begins_11 : decode cX4_begins 11 = .ok (.iastore, 1) := by decide +kernel
theorem dX4_begins_12 : decode cX4_begins 12 = .ok (.aload_n 0, 1) := by decide +kernel
theorem dX4_begins_13 : decode cX4_begins 13 = .ok (.iconst (-1), 1) := by decide +kernel
theorem dX4_begins_14 : decode cX4_begins 14 = .ok (.putfield 143, 3) := by decide +kernel
theorem dX4_begins_17 : decode cX4_begins 17 = .ok (.aload_n 0, 1) := by decide +kernel
theorem dX4_begins_18 : decode cX4_begins 18 = .ok (.iload_n 1, 1) := by decide +kernel
theorem dX4_begins_19 : decode cX4_begins 19 = .ok (.bipush 104, 2) := by decide +kernel
theorem dX4_begins_21 : decode cX4_begins 21 = .ok (.if_icmp .ne 7, 3) := by decide +kernel
theorem dX4_begins_24 : decode cX4_begins 24 = .ok (.iconst 1, 1) := by decide +kernel
theorem dX4_begins_25 : decode cX4_begins 25 = .ok (.goto 4, 3) := by decide +kernel
theorem dX4_begins_28 : decode cX4_begins 28 = .ok (.iconst 3, 1) := by decide +kernel
theorem dX4_begins_29 : decode cX4_begins 29 = .ok (.putfield 146, 3) := by decide +kernel
theorem dX4_begins_32 : decode cX4_begins 32 = .ok (.iload_n 1, 1) := by decide +kernel
theorem dX4_begins_33 : decode cX4_begins 33 = .ok (.bipush 104, 2) := by decide +kernel
theorem dX4_begins_35 : decode cX4_begins 35 = .ok (.if_icmp .eq 21, 3) := by decide +kernel
theorem dX4_begins_38 : decode cX4_begins 38 = .ok (.iload_n 1, 1) := by decide +kernel
theorem dX4_begins_39 : decode cX4_begins 39 = .ok (.bipush 109, 2) := by decide +kernel
theorem dX4_begins_41 : decode cX4_begins 41 = .ok (.if_icmp .eq 15, 3) := by decide +kernel
theorem dX4_begins_44 : decode cX4_begins 44 = .ok (.iload_n 1, 1) := by decide +kernel
theorem dX4_begins_45 : decode cX4_begins 45 = .ok (.bipush 98, 2) := by decide +kernel
theorem dX4_begins_47 : decode cX4_begins 47 = .ok (.if_icmp .eq 9, 3) := by decide +kernel
theorem dX4_begins_50 : decode cX4_begins 50 = .ok (.iload_n 1, 1) := by decide +kernel
theorem dX4_begins_51 : decode cX4_begins 51 = .ok (.bipush 100, 2) := by decide +kernel
theorem dX4_begins_53 : decode cX4_begins 53 = .ok (.if_icmp .ne 7, 3) := by decide +kernel
theorem dX4_begins_56 : decode cX4_begins 56 = .ok (.iconst 1, 1) := by decide +kernel
theorem dX4_begins_57 : decode cX4_begins 57 = .ok (.goto 4, 3) := by decide +kernel
theorem dX4_begins_60 : decode cX4_begins 60 = .ok (.iconst 0, 1) := by decide +kernel
theorem dX4_begins_61 : decode cX4_begins 61 = .ok (.ireturn, 1) := by decide +kernel
theorem dX4_takesDigit_0 : decode cX4_takesDigit 0 = .ok (.aload_n 0, 1) := by decide +kernel
theorem dX4_takesDigit_1 : decode cX4_takesDigit 1 = .ok (.getfield 19, 3) := by decide +kernel
theorem dX4_takesDigit_4 : decode cX4_takesDigit 4 = .ok (.iconst 3, 1) := by decide +kernel
theorem dX4_takesDigit_5 : decode cX4_takesDigit 5 = .ok (.aload_n 0, 1) := by decide +kernel
theorem dX4_takesDigit_6 : decode cX4_takesDigit 6 = .ok (.getfield 140, 3) := by decide +kernel
theorem dX4_takesDigit_9 : decode cX4_takesDigit 9 = .ok (.imul, 1) := by decide +kernel
theorem dX4_takesDigit_10 : decode cX4_takesDigit 10 = .ok (.iaload, 1) := by decide +kernel
theorem dX4_takesDigit_11 : decode cX4_takesDigit 11 = .ok (.istore_n 2, 1) := by decide +kernel
theorem dX4_takesDigit_12 : decode cX4_takesDigit 12 = .ok (.iload_n 2, 1) := by decide +kernel
theorem dX4_takesDigit_13 : decode cX4_takesDigit 13 = .ok (.bipush 109, 2) := by decide +kernel
theorem dX4_takesDigit_15 : decode cX4_takesDigit 15 = .ok (.if_icmp .eq 9, 3) := by decide +kernel
theorem dX4_takesDigit_18 : decode cX4_takesDigit 18 = .ok (.iload_n 2, 1) := by decide +kernel
theorem dX4_takesDigit_19 : decode cX4_takesDigit 19 = .ok (.bipush 98, 2) := by decide +kernel
theorem dX4_takesDigit_21 : decode cX4_takesDigit 21 = .ok (.if_icmp .ne 7, 3) := by decide +kernel
theorem dX4_takesDigit_24 : decode cX4_takesDigit 24 = .ok (.iconst 1, 1) := by decide +kernel
theorem dX4_takesDigit_25 : decode cX4_takesDigit 25 = .ok (.goto 4, 3) := by decide +kernel
theorem dX4_takesDigit_28 : decode cX4_takesDigit 28 = .ok (.iconst 0, 1) := by decide +kernel
theorem dX4_takesDigit_29 : decode cX4_takesDigit 29 = .ok (.istore_n 3, 1) := by decide +kernel
theorem dX4_takesDigit_30 : decode cX4_takesDigit 30 = .ok (.iload_n 3, 1) := by decide +kernel
theorem dX4_takesDigit_31 : decode cX4_takesDigit 31 = .ok (.ifCond .eq 7, 3) := by decide +kernel
theorem dX4_takesDigit_34 : decode cX4_takesDigit 34 = .ok (.iconst 0, 1) := by decide +kernel
theorem dX4_takesDigit_35 : decode cX4_takesDigit 35 = .ok (.goto 4, 3) := by decide +kernel
theorem dX4_takesDigit_38 : decode cX4_takesDigit 38 = .ok (.iconst 1, 1) := by decide +kernel
theorem dX4_takesDigit_39 : decode cX4_takesDigit 39 = .ok (.istore 4, 2) := by decide +kernel
theorem dX4_takesDigit_41 : decode cX4_takesDigit 41 = .ok (.iload_n 3, 1) := by decide +kernel
theorem dX4_takesDigit_42 : decode cX4_takesDigit 42 = .ok (.ifCond .eq 8, 3) := by decide +kernel
theorem dX4_takesDigit_45 : decode cX4_takesDigit 45 = .ok (.bipush 23, 2) := by decide +kernel
theorem dX4_takesDigit_47 : decode cX4_takesDigit 47 = .ok (.goto 16, 3) := by decide +kernel
theorem dX4_takesDigit_50 : decode cX4_takesDigit 50 = .ok (.iload_n 2, 1) := by decide +kernel
theorem dX4_takesDigit_51 : decode cX4_takesDigit 51 = .ok (.bipush 104, 2) := by decide +kernel
theorem dX4_takesDigit_53 : decode cX4_takesDigit 53 = .ok (.if_icmp .ne 8, 3) := by decide +kernel
theorem dX4_takesDigit_56 : decode cX4_takesDigit 56 = .ok (.bipush 24, 2) := by decide +kernel
theorem dX4_takesDigit_58 : decode cX4_takesDigit 58 = .ok (.goto 5, 3) := by decide +kernel
theorem dX4_takesDigit_61 : decode cX4_takesDigit 61 = .ok (.bipush 99, 2) := by decide +kernel
theorem dX4_takesDigit_63 : decode cX4_takesDigit 63 = .ok (.istore 5, 2) := by decide +kernel
theorem dX4_takesDigit_65 : decode cX4_takesDigit 65 = .ok (.aload_n 0, 1) := by decide +kernel
theorem dX4_takesDigit_66 : decode cX4_takesDigit 66 = .ok (.getfield 143, 3) := by decide +kernel
theorem dX4_takesDigit_69 : decode cX4_takesDigit 69 = .ok (.iconst (-1), 1) := by decide +kernel
theorem dX4_takesDigit_70 : decode cX4_takesDigit 70 = .ok (.if_icmp .ne 7, 3) := by decide +kernel
theorem dX4_takesDigit_73 : decode cX4_takesDigit 73 = .ok (.iload_n 1, 1) := by decide +kernel
theorem dX4_takesDigit_74 : decode cX4_takesDigit 74 = .ok (.goto 12, 3) := by decide +kernel
theorem dX4_takesDigit_77 : decode cX4_takesDigit 77 = .ok (.bipush 10, 2) := by decide +kernel
theorem dX4_takesDigit_79 : decode cX4_takesDigit 79 = .ok (.aload_n 0, 1) := by decide +kernel
theorem dX4_takesDigit_80 : decode cX4_takesDigit 80 = .ok (.getfield 143, 3) := by decide +kernel
theorem dX4_takesDigit_83 : decode cX4_takesDigit 83 = .ok (.imul, 1) := by decide +kernel
theorem dX4_takesDigit_84 : decode cX4_takesDigit 84 = .ok (.iload_n 1, 1) := by decide +kernel
theorem dX4_takesDigit_85 : decode cX4_takesDigit 85 = .ok (.iadd, 1) := by decide +kernel
theorem dX4_takesDigit_86 : decode cX4_takesDigit 86 = .ok (.istore 6, 2) := by decide +kernel
theorem dX4_takesDigit_88 : decode cX4_takesDigit 88 = .ok (.iload_n 1, 1) := by decide +kernel
theorem dX4_takesDigit_89 : decode cX4_takesDigit 89 = .ok (.iconst 0, 1) := by decide +kernel
theorem dX4_takesDigit_90 : decode cX4_takesDigit 90 = .ok (.bipush 9, 2) := by decide +kernel
theorem dX4_takesDigit_92 : decode cX4_takesDigit 92 = .ok (.invokestatic 32, 3) := by decide +kernel
theorem dX4_takesDigit_95 : decode cX4_takesDigit 95 = .ok (.ifCond .eq 26, 3) := by decide +kernel
theorem dX4_takesDigit_98 : decode cX4_takesDigit 98 = .ok (.aload_n 0, 1) := by decide +kernel
theorem dX4_takesDigit_99 : decode cX4_takesDigit 99 = .ok (.getfield 143, 3) := by decide +kernel
theorem dX4_takesDigit_102 : decode cX4_takesDigit 102 = .ok (.ifCond .eq 19, 3) := by decide +kernel
theorem dX4_takesDigit_105 : decode cX4_takesDigit 105 = .ok (.iload 6, 2) := by decide +kernel
theorem dX4_takesDigit_107 : decode cX4_takesDigit 107 = .ok (.iload 4, 2) := by decide +kernel
theorem dX4_takesDigit_109 : decode cX4_takesDigit 109 = .ok (.iload 5, 2) := by decide +kernel
theorem dX4_takesDigit_111 : decode cX4_takesDigit 111 = .ok (.invokestatic 32, 3) := by decide +kernel
theorem dX4_takesDigit_114 : decode cX4_takesDigit 114 = .ok (.ifCond .eq 7, 3) := by decide +kernel
theorem dX4_takesDigit_117 : decode cX4_takesDigit 117 = .ok (.iconst 1, 1) := by decide +kernel
theorem dX4_takesDigit_118 : decode cX4_takesDigit 118 = .ok (.goto 4, 3) := by decide +kernel
theorem dX4_takesDigit_121 : decode cX4_takesDigit 121 = .ok (.iconst 0, 1) := by decide +kernel
theorem dX4_takesDigit_122 : decode cX4_takesDigit 122 = .ok (.istore 7, 2) := by decide +kernel
theorem dX4_takesDigit_124 : decode cX4_takesDigit 124 = .ok (.aload_n 0, 1) := by decide +kernel
theorem dX4_takesDigit_125 : decode cX4_takesDigit 125 = .ok (.iload 7, 2) := by decide +kernel
theorem dX4_takesDigit_127 : decode cX4_takesDigit 127 = .ok (.ifCond .eq 8, 3) := by decide +kernel
theorem dX4_takesDigit_130 : decode cX4_takesDigit 130 = .ok (.iload 6, 2) := by decide +kernel
theorem dX4_takesDigit_132 : decode cX4_takesDigit 132 = .ok (.goto 7, 3) := by decide +kernel
theorem dX4_takesDigit_135 : decode cX4_takesDigit 135 = .ok (.aload_n 0, 1) := by decide +kernel
theorem dX4_takesDigit_136 : decode cX4_takesDigit 136 = .ok (.getfield 143, 3) := by decide +kernel
theorem dX4_takesDigit_139 : decode cX4_takesDigit 139 = .ok (.putfield 143, 3) := by decide +kernel
theorem dX4_takesDigit_142 : decode cX4_takesDigit 142 = .ok (.aload_n 0, 1) := by decide +kernel
theorem dX4_takesDigit_143 : decode cX4_takesDigit 143 = .ok (.getfield 19, 3) := by decide +kernel
theorem dX4_takesDigit_146 : decode cX4_takesDigit 146 = .ok (.iconst 3, 1) := by decide +kernel
theorem dX4_takesDigit_147 : decode cX4_takesDigit 147 = .ok (.aload_n 0, 1) := by decide +kernel
theorem dX4_takesDigit_148 : decode cX4_takesDigit 148 = .ok (.getfield 140, 3) := by decide +kernel
theorem dX4_takesDigit_151 : decode cX4_takesDigit 151 = .ok (.imul, 1) := by decide +kernel
theorem dX4_takesDigit_152 : decode cX4_takesDigit 152 = .ok (.iload_n 3, 1) := by decide +kernel
theorem dX4_takesDigit_153 : decode cX4_takesDigit 153 = .ok (.ifCond .eq 7, 3) := by decide +kernel
theorem dX4_takesDigit_156 : decode cX4_takesDigit 156 = .ok (.iconst 1, 1) := by decide +kernel
theorem dX4_takesDigit_157 : decode cX4_takesDigit 157 = .ok (.goto 4, 3) := by decide +kernel
theorem dX4_takesDigit_160 : decode cX4_takesDigit 160 = .ok (.iconst 2, 1) := by decide +kernel
theorem dX4_takesDigit_161 : decode cX4_takesDigit 161 = .ok (.iadd, 1) := by decide +kernel
theorem dX4_takesDigit_162 : decode cX4_takesDigit 162 = .ok (.aload_n 0, 1) := by decide +kernel
theorem dX4_takesDigit_163 : decode cX4_takesDigit 163 = .ok (.getfield 143, 3) := by decide +kernel
theorem dX4_takesDigit_166 : decode cX4_takesDigit 166 = .ok (.iastore, 1) := by decide +kernel
theorem dX4_takesDigit_167 : decode cX4_takesDigit 167 = .ok (.iload 7, 2) := by decide +kernel
theorem dX4_takesDigit_169 : decode cX4_takesDigit 169 = .ok (.ireturn, 1) := by decide +kernel
theorem dX4_takesSite_0 : decode cX4_takesSite 0 = .ok (.aload_n 0, 1) := by decide +kernel
theorem dX4_takesSite_1 : decode cX4_takesSite 1 = .ok (.getfield 19, 3) := by decide +kernel
theorem dX4_takesSite_4 : decode cX4_takesSite 4 = .ok (.iconst 3, 1) := by decide +kernel
theorem dX4_takesSite_5 : decode cX4_takesSite 5 = .ok (.aload_n 0, 1) := by decide +kernel
theorem dX4_takesSite_6 : decode cX4_takesSite 6 = .ok (.getfield 140, 3) := by decide +kernel
theorem dX4_takesSite_9 : decode cX4_takesSite 9 = .ok (.imul, 1) := by decide +kernel
theorem dX4_takesSite_10 : decode cX4_takesSite 10 = .ok (.iload_n 2, 1) := by decide +kernel
theorem dX4_takesSite_11 : decode cX4_takesSite 11 = .ok (.iadd, 1) := by decide +kernel
theorem dX4_takesSite_12 : decode cX4_takesSite 12 = .ok (.iload_n 1, 1) := by decide +kernel
theorem dX4_takesSite_13 : decode cX4_takesSite 13 = .ok (.bipush 48, 2) := by decide +kernel
theorem dX4_takesSite_15 : decode cX4_takesSite 15 = .ok (.isub, 1) := by decide +kernel
theorem dX4_takesSite_16 : decode cX4_takesSite 16 = .ok (.iastore, 1) := by decide +kernel
theorem dX4_takesSite_17 : decode cX4_takesSite 17 = .ok (.aload_n 0, 1) := by decide +kernel
theorem dX4_takesSite_18 : decode cX4_takesSite 18 = .ok (.iload_n 3, 1) := by decide +kernel
theorem dX4_takesSite_19 : decode cX4_takesSite 19 = .ok (.putfield 146, 3) := by decide +kernel
theorem dX4_takesSite_22 : decode cX4_takesSite 22 = .ok (.iload_n 1, 1) := by decide +kernel
theorem dX4_takesSite_23 : decode cX4_takesSite 23 = .ok (.bipush 48, 2) := by decide +kernel
theorem dX4_takesSite_25 : decode cX4_takesSite 25 = .ok (.isub, 1) := by decide +kernel
theorem dX4_takesSite_26 : decode cX4_takesSite 26 = .ok (.invokestatic 100, 3) := by decide +kernel
theorem dX4_takesSite_29 : decode cX4_takesSite 29 = .ok (.ireturn, 1) := by decide +kernel
theorem dX4_isEnded_0 : decode cX4_isEnded 0 = .ok (.aload_n 0, 1) := by decide +kernel
theorem dX4_isEnded_1 : decode cX4_isEnded 1 = .ok (.getfield 146, 3) := by decide +kernel
theorem dX4_isEnded_4 : decode cX4_isEnded 4 = .ok (.iconst 5, 1) := by decide +kernel
theorem dX4_isEnded_5 : decode cX4_isEnded 5 = .ok (.if_icmp .eq 35, 3) := by decide +kernel
theorem dX4_isEnded_8 : decode cX4_isEnded 8 = .ok (.aload_n 0, 1) := by decide +kernel
theorem dX4_isEnded_9 : decode cX4_isEnded 9 = .ok (.getfield 146, 3) := by decide +kernel
theorem dX4_isEnded_12 : decode cX4_isEnded 12 = .ok (.iconst 3, 1) := by decide +kernel
theorem dX4_isEnded_13 : decode cX4_isEnded 13 = .ok (.if_icmp .ne 31, 3) := by decide +kernel
theorem dX4_isEnded_16 : decode cX4_isEnded 16 = .ok (.aload_n 0, 1) := by decide +kernel
theorem dX4_isEnded_17 : decode cX4_isEnded 17 = .ok (.getfield 143, 3) := by decide +kernel
theorem dX4_isEnded_20 : decode cX4_isEnded 20 = .ok (.iconst (-1), 1) := by decide +kernel
theorem dX4_isEnded_21 : decode cX4_isEnded 21 = .ok (.if_icmp .eq 23, 3) := by decide +kernel
theorem dX4_isEnded_24 : decode cX4_isEnded 24 = .ok (.aload_n 0, 1) := by decide +kernel
theorem dX4_isEnded_25 : decode cX4_isEnded 25 = .ok (.getfield 19, 3) := by decide +kernel
theorem dX4_isEnded_28 : decode cX4_isEnded 28 = .ok (.iconst 3, 1) := by decide +kernel
theorem dX4_isEnded_29 : decode cX4_isEnded 29 = .ok (.aload_n 0, 1) := by decide +kernel
theorem dX4_isEnded_30 : decode cX4_isEnded 30 = .ok (.getfield 140, 3) := by decide +kernel
theorem dX4_isEnded_33 : decode cX4_isEnded 33 = .ok (.imul, 1) := by decide +kernel
theorem dX4_isEnded_34 : decode cX4_isEnded 34 = .ok (.iaload, 1) := by decide +kernel
theorem dX4_isEnded_35 : decode cX4_isEnded 35 = .ok (.bipush 109, 2) := by decide +kernel
theorem dX4_isEnded_37 : decode cX4_isEnded 37 = .ok (.if_icmp .eq 7, 3) := by decide +kernel
theorem dX4_isEnded_40 : decode cX4_isEnded 40 = .ok (.iconst 1, 1) := by decide +kernel
theorem dX4_isEnded_41 : decode cX4_isEnded 41 = .ok (.goto 4, 3) := by decide +kernel
theorem dX4_isEnded_44 : decode cX4_isEnded 44 = .ok (.iconst 0, 1) := by decide +kernel
theorem dX4_isEnded_45 : decode cX4_isEnded 45 = .ok (.ireturn, 1) := by decide +kernel
theorem dX4_takes_0 : decode cX4_takes 0 = .ok (.iload_n 1, 1) := by decide +kernel
theorem dX4_takes_1 : decode cX4_takes 1 = .ok (.bipush 59, 2) := by decide +kernel
theorem dX4_takes_3 : decode cX4_takes 3 = .ok (.if_icmp .ne 27, 3) := by decide +kernel
theorem dX4_takes_6 : decode cX4_takes 6 = .ok (.aload_n 0, 1) := by decide +kernel
theorem dX4_takes_7 : decode cX4_takes 7 = .ok (.invokevirtual 149, 3) := by decide +kernel
theorem dX4_takes_10 : decode cX4_takes 10 = .ok (.ifCond .eq 20, 3) := by decide +kernel
theorem dX4_takes_13 : decode cX4_takes 13 = .ok (.aload_n 0, 1) := by decide +kernel
theorem dX4_takes_14 : decode cX4_takes 14 = .ok (.dup, 1) := by decide +kernel
theorem dX4_takes_15 : decode cX4_takes 15 = .ok (.getfield 140, 3) := by decide +kernel
theorem dX4_takes_18 : decode cX4_takes 18 = .ok (.iconst 1, 1) := by decide +kernel
theorem dX4_takes_19 : decode cX4_takes 19 = .ok (.iadd, 1) := by decide +kernel
theorem dX4_takes_20 : decode cX4_takes 20 = .ok (.putfield 140, 3) := by decide +kernel
theorem dX4_takes_23 : decode cX4_takes 23 = .ok (.aload_n 0, 1) := by decide +kernel
theorem dX4_takes_24 : decode cX4_takes 24 = .ok (.iconst 0, 1) := by decide +kernel
theorem dX4_takes_25 : decode cX4_takes 25 = .ok (.putfield 146, 3) := by decide +kernel
theorem dX4_takes_28 : decode cX4_takes 28 = .ok (.iconst 1, 1) := by decide +kernel
theorem dX4_takes_29 : decode cX4_takes 29 = .ok (.ireturn, 1) := by decide +kernel
theorem dX4_takes_30 : decode cX4_takes 30 = .ok (.iload_n 1, 1) := by decide +kernel
theorem dX4_takes_31 : decode cX4_takes 31 = .ok (.bipush 62, 2) := by decide +kernel
theorem dX4_takes_33 : decode cX4_takes 33 = .ok (.if_icmp .ne 42, 3) := by decide +kernel
theorem dX4_takes_36 : decode cX4_takes 36 = .ok (.aload_n 0, 1) := by decide +kernel
theorem dX4_takes_37 : decode cX4_takes 37 = .ok (.getfield 146, 3) := by decide +kernel
theorem dX4_takes_40 : decode cX4_takes 40 = .ok (.iconst 3, 1) := by decide +kernel
theorem dX4_takes_41 : decode cX4_takes 41 = .ok (.if_icmp .ne 34, 3) := by decide +kernel
theorem dX4_takes_44 : decode cX4_takes 44 = .ok (.aload_n 0, 1) := by decide +kernel
theorem dX4_takes_45 : decode cX4_takes 45 = .ok (.getfield 143, 3) := by decide +kernel
theorem dX4_takes_48 : decode cX4_takes 48 = .ok (.iconst (-1), 1) := by decide +kernel
theorem dX4_takes_49 : decode cX4_takes 49 = .ok (.if_icmp .eq 26, 3) := by decide +kernel
theorem dX4_takes_52 : decode cX4_takes 52 = .ok (.aload_n 0, 1) := by decide +kernel
theorem dX4_takes_53 : decode cX4_takes 53 = .ok (.getfield 19, 3) := by decide +kernel
theorem dX4_takes_56 : decode cX4_takes 56 = .ok (.iconst 3, 1) := by decide +kernel
theorem dX4_takes_57 : decode cX4_takes 57 = .ok (.aload_n 0, 1) := by decide +kernel
theorem dX4_takes_58 : decode cX4_takes 58 = .ok (.getfield 140, 3) := by decide +kernel
theorem dX4_takes_61 : decode cX4_takes 61 = .ok (.imul, 1) := by decide +kernel
theorem dX4_takes_62 : decode cX4_takes 62 = .ok (.iaload, 1) := by decide +kernel
theorem dX4_takes_63 : decode cX4_takes 63 = .ok (.bipush 109, 2) := by decide +kernel
theorem dX4_takes_65 : decode cX4_takes 65 = .ok (.if_icmp .ne 10, 3) := by decide +kernel
theorem dX4_takes_68 : decode cX4_takes 68 = .ok (.aload_n 0, 1) := by decide +kernel
theorem dX4_takes_69 : decode cX4_takes 69 = .ok (.iconst 4, 1) := by decide +kernel
theorem dX4_takes_70 : decode cX4_takes 70 = .ok (.putfield 146, 3) := by decide +kernel
theorem dX4_takes_73 : decode cX4_takes 73 = .ok (.iconst 1, 1) := by decide +kernel
theorem dX4_takes_74 : decode cX4_takes 74 = .ok (.ireturn, 1) := by decide +kernel
theorem dX4_takes_75 : decode cX4_takes 75 = .ok (.aload_n 0, 1) := by decide +kernel
theorem dX4_takes_76 : decode cX4_takes 76 = .ok (.getfield 146, 3) := by decide +kernel
theorem dX4_takes_79 : decode cX4_takes 79 = .ok (.tableswitch 81 0 4 #[33, 39, 47, 64, 73], 33) := by decide +kernel
theorem dX4_takes_112 : decode cX4_takes 112 = .ok (.aload_n 0, 1) := by decide +kernel
theorem dX4_takes_113 : decode cX4_takes 113 = .ok (.iload_n 1, 1) := by decide +kernel
theorem dX4_takes_114 : decode cX4_takes 114 = .ok (.invokevirtual 153, 3) := by decide +kernel
theorem dX4_takes_117 : decode cX4_takes 117 = .ok (.ireturn, 1) := by decide +kernel
theorem dX4_takes_118 : decode cX4_takes 118 = .ok (.aload_n 0, 1) := by decide +kernel
theorem dX4_takes_119 : decode cX4_takes 119 = .ok (.iload_n 1, 1) := by decide +kernel
theorem dX4_takes_120 : decode cX4_takes 120 = .ok (.iconst 1, 1) := by decide +kernel
theorem dX4_takes_121 : decode cX4_takes 121 = .ok (.iconst 2, 1) := by decide +kernel
theorem dX4_takes_122 : decode cX4_takes 122 = .ok (.invokevirtual 156, 3) := by decide +kernel
theorem dX4_takes_125 : decode cX4_takes 125 = .ok (.ireturn, 1) := by decide +kernel
theorem dX4_takes_126 : decode cX4_takes 126 = .ok (.aload_n 0, 1) := by decide +kernel
theorem dX4_takes_127 : decode cX4_takes 127 = .ok (.iconst 3, 1) := by decide +kernel
theorem dX4_takes_128 : decode cX4_takes 128 = .ok (.putfield 146, 3) := by decide +kernel
theorem dX4_takes_131 : decode cX4_takes 131 = .ok (.iload_n 1, 1) := by decide +kernel
theorem dX4_takes_132 : decode cX4_takes 132 = .ok (.bipush 42, 2) := by decide +kernel
theorem dX4_takes_134 : decode cX4_takes 134 = .ok (.if_icmp .ne 7, 3) := by decide +kernel
theorem dX4_takes_137 : decode cX4_takes 137 = .ok (.iconst 1, 1) := by decide +kernel
theorem dX4_takes_138 : decode cX4_takes 138 = .ok (.goto 4, 3) := by decide +kernel
theorem dX4_takes_141 : decode cX4_takes 141 = .ok (.iconst 0, 1) := by decide +kernel
theorem dX4_takes_142 : decode cX4_takes 142 = .ok (.ireturn, 1) := by decide +kernel
theorem dX4_takes_143 : decode cX4_takes 143 = .ok (.aload_n 0, 1) := by decide +kernel
theorem dX4_takes_144 : decode cX4_takes 144 = .ok (.iload_n 1, 1) := by decide +kernel
theorem dX4_takes_145 : decode cX4_takes 145 = .ok (.bipush 48, 2) := by decide +kernel
theorem dX4_takes_147 : decode cX4_takes 147 = .ok (.isub, 1) := by decide +kernel
theorem dX4_takes_148 : decode cX4_takes 148 = .ok (.invokevirtual 159, 3) := by decide +kernel
theorem dX4_takes_151 : decode cX4_takes 151 = .ok (.ireturn, 1) := by decide +kernel
theorem dX4_takes_152 : decode cX4_takes 152 = .ok (.aload_n 0, 1) := by decide +kernel
theorem dX4_takes_153 : decode cX4_takes 153 = .ok (.iload_n 1, 1) := by decide +kernel
theorem dX4_takes_154 : decode cX4_takes 154 = .ok (.iconst 2, 1) := by decide +kernel
theorem dX4_takes_155 : decode cX4_takes 155 = .ok (.iconst 5, 1) := by decide +kernel
theorem dX4_takes_156 : decode cX4_takes 156 = .ok (.invokevirtual 156, 3) := by decide +kernel
theorem dX4_takes_159 : decode cX4_takes 159 = .ok (.ireturn, 1) := by decide +kernel
theorem dX4_takes_160 : decode cX4_takes 160 = .ok (.iconst 0, 1) := by decide +kernel
theorem dX4_takes_161 : decode cX4_takes 161 = .ok (.ireturn, 1) := by decide +kernel
theorem dX4_rightUpTo_0 : decode cX4_rightUpTo 0 = .ok (.aload_n 0, 1) := by decide +kernel
theorem dX4_rightUpTo_1 : decode cX4_rightUpTo 1 = .ok (.iconst 0, 1) := by decide +kernel
theorem dX4_rightUpTo_2 : decode cX4_rightUpTo 2 = .ok (.putfield 140, 3) := by decide +kernel
theorem dX4_rightUpTo_5 : decode cX4_rightUpTo 5 = .ok (.aload_n 0, 1) := by decide +kernel
theorem dX4_rightUpTo_6 : decode cX4_rightUpTo 6 = .ok (.iconst 0, 1) := by decide +kernel
theorem dX4_rightUpTo_7 : decode cX4_rightUpTo 7 = .ok (.putfield 146, 3) := by decide +kernel
theorem dX4_rightUpTo_10 : decode cX4_rightUpTo 10 = .ok (.iconst 0, 1) := by decide +kernel
theorem dX4_rightUpTo_11 : decode cX4_rightUpTo 11 = .ok (.istore_n 1, 1) := by decide +kernel
theorem dX4_rightUpTo_12 : decode cX4_rightUpTo 12 = .ok (.iload_n 1, 1) := by decide +kernel
theorem dX4_rightUpTo_13 : decode cX4_rightUpTo 13 = .ok (.aload_n 0, 1) := by decide +kernel
theorem dX4_rightUpTo_14 : decode cX4_rightUpTo 14 = .ok (.getfield 137, 3) := by decide +kernel
theorem dX4_rightUpTo_17 : decode cX4_rightUpTo 17 = .ok (.if_icmp .ge 22, 3) := by decide +kernel
theorem dX4_rightUpTo_20 : decode cX4_rightUpTo 20 = .ok (.aload_n 0, 1) := by decide +kernel
theorem dX4_rightUpTo_21 : decode cX4_rightUpTo 21 = .ok (.aload_n 0, 1) := by decide +kernel
theorem dX4_rightUpTo_22 : decode cX4_rightUpTo 22 = .ok (.getfield 16, 3) := by decide +kernel
theorem dX4_rightUpTo_25 : decode cX4_rightUpTo 25 = .ok (.iload_n 1, 1) := by decide +kernel
theorem dX4_rightUpTo_26 : decode cX4_rightUpTo 26 = .ok (.iaload, 1) := by decide +kernel
theorem dX4_rightUpTo_27 : decode cX4_rightUpTo 27 = .ok (.invokevirtual 162, 3) := by decide +kernel
theorem dX4_rightUpTo_30 : decode cX4_rightUpTo 30 = .ok (.ifCond .eq 9, 3) := by decide +kernel
theorem dX4_rightUpTo_33 : decode cX4_rightUpTo 33 = .ok (.iinc 1 1, 3) := by decide +kernel
theorem dX4_rightUpTo_36 : decode cX4_rightUpTo 36 = .ok (.goto (-24), 3) := by decide +kernel
theorem dX4_rightUpTo_39 : decode cX4_rightUpTo 39 = .ok (.iload_n 1, 1) := by decide +kernel
theorem dX4_rightUpTo_40 : decode cX4_rightUpTo 40 = .ok (.ireturn, 1) := by decide +kernel
theorem dX4_firstError_0 : decode cX4_firstError 0 = .ok (.aload_n 0, 1) := by decide +kernel
theorem dX4_firstError_1 : decode cX4_firstError 1 = .ok (.iconst 0, 1) := by decide +kernel
theorem dX4_firstError_2 : decode cX4_firstError 2 = .ok (.putfield 25, 3) := by decide +kernel
theorem dX4_firstError_5 : decode cX4_firstError 5 = .ok (.aload_n 0, 1) := by decide +kernel
theorem dX4_firstError_6 : decode cX4_firstError 6 = .ok (.invokevirtual 165, 3) := by decide +kernel
theorem dX4_firstError_9 : decode cX4_firstError 9 = .ok (.ireturn, 1) := by decide +kernel
theorem dX4_canCarry_0 : decode cX4_canCarry 0 = .ok (.iload_n 1, 1) := by decide +kernel
theorem dX4_canCarry_1 : decode cX4_canCarry 1 = .ok (.lookupswitch 86 #[(98, 64), (104, 35), (109, 41)], 35) := by decide +kernel
theorem dX4_canCarry_36 : decode cX4_canCarry 36 = .ok (.aload_n 0, 1) := by decide +kernel
theorem dX4_canCarry_37 : decode cX4_canCarry 37 = .ok (.iload_n 3, 1) := by decide +kernel
theorem dX4_canCarry_38 : decode cX4_canCarry 38 = .ok (.invokevirtual 103, 3) := by decide +kernel
theorem dX4_canCarry_41 : decode cX4_canCarry 41 = .ok (.ireturn, 1) := by decide +kernel
theorem dX4_canCarry_42 : decode cX4_canCarry 42 = .ok (.aload_n 0, 1) := by decide +kernel
theorem dX4_canCarry_43 : decode cX4_canCarry 43 = .ok (.iload_n 2, 1) := by decide +kernel
theorem dX4_canCarry_44 : decode cX4_canCarry 44 = .ok (.invokevirtual 67, 3) := by decide +kernel
theorem dX4_canCarry_47 : decode cX4_canCarry 47 = .ok (.ifCond .eq 16, 3) := by decide +kernel
theorem dX4_canCarry_50 : decode cX4_canCarry 50 = .ok (.aload_n 0, 1) := by decide +kernel
theorem dX4_canCarry_51 : decode cX4_canCarry 51 = .ok (.iload_n 2, 1) := by decide +kernel
theorem dX4_canCarry_52 : decode cX4_canCarry 52 = .ok (.iload_n 3, 1) := by decide +kernel
theorem dX4_canCarry_53 : decode cX4_canCarry 53 = .ok (.invokevirtual 112, 3) := by decide +kernel
theorem dX4_canCarry_56 : decode cX4_canCarry 56 = .ok (.ifCond .eq 7, 3) := by decide +kernel
theorem dX4_canCarry_59 : decode cX4_canCarry 59 = .ok (.iconst 1, 1) := by decide +kernel
theorem dX4_canCarry_60 : decode cX4_canCarry 60 = .ok (.goto 4, 3) := by decide +kernel
theorem dX4_canCarry_63 : decode cX4_canCarry 63 = .ok (.iconst 0, 1) := by decide +kernel
theorem dX4_canCarry_64 : decode cX4_canCarry 64 = .ok (.ireturn, 1) := by decide +kernel
theorem dX4_canCarry_65 : decode cX4_canCarry 65 = .ok (.aload_n 0, 1) := by decide +kernel
theorem dX4_canCarry_66 : decode cX4_canCarry 66 = .ok (.iload_n 2, 1) := by decide +kernel
theorem dX4_canCarry_67 : decode cX4_canCarry 67 = .ok (.invokevirtual 67, 3) := by decide +kernel
theorem dX4_canCarry_70 : decode cX4_canCarry 70 = .ok (.ifCond .eq 15, 3) := by decide +kernel
theorem dX4_canCarry_73 : decode cX4_canCarry 73 = .ok (.aload_n 0, 1) := by decide +kernel
theorem dX4_canCarry_74 : decode cX4_canCarry 74 = .ok (.iload_n 2, 1) := by decide +kernel
theorem dX4_canCarry_75 : decode cX4_canCarry 75 = .ok (.invokevirtual 44, 3) := by decide +kernel
theorem dX4_canCarry_78 : decode cX4_canCarry 78 = .ok (.ifCond .ne 7, 3) := by decide +kernel
theorem dX4_canCarry_81 : decode cX4_canCarry 81 = .ok (.iconst 1, 1) := by decide +kernel
theorem dX4_canCarry_82 : decode cX4_canCarry 82 = .ok (.goto 4, 3) := by decide +kernel
theorem dX4_canCarry_85 : decode cX4_canCarry 85 = .ok (.iconst 0, 1) := by decide +kernel
theorem dX4_canCarry_86 : decode cX4_canCarry 86 = .ok (.ireturn, 1) := by decide +kernel
theorem dX4_canCarry_87 : decode cX4_canCarry 87 = .ok (.aload_n 0, 1) := by decide +kernel
theorem dX4_canCarry_88 : decode cX4_canCarry 88 = .ok (.iload_n 3, 1) := by decide +kernel
theorem dX4_canCarry_89 : decode cX4_canCarry 89 = .ok (.invokevirtual 131, 3) := by decide +kernel
theorem dX4_canCarry_92 : decode cX4_canCarry 92 = .ok (.ireturn, 1) := by decide +kernel
theorem dX4_carries_0 : decode cX4_carries 0 = .ok (.aload_n 0, 1) := by decide +kernel
theorem dX4_carries_1 : decode cX4_carries 1 = .ok (.getfield 19, 3) := by decide +kernel
theorem dX4_carries_4 : decode cX4_carries 4 = .ok (.iconst 3, 1) := by decide +kernel
theorem dX4_carries_5 : decode cX4_carries 5 = .ok (.iload_n 1, 1) := by decide +kernel
theorem dX4_carries_6 : decode cX4_carries 6 = .ok (.imul, 1) := by decide +kernel
theorem dX4_carries_7 : decode cX4_carries 7 = .ok (.iaload, 1) := by decide +kernel
theorem dX4_carries_8 : decode cX4_carries 8 = .ok (.istore_n 2, 1) := by decide +kernel
theorem dX4_carries_9 : decode cX4_carries 9 = .ok (.aload_n 0, 1) := by decide +kernel
theorem dX4_carries_10 : decode cX4_carries 10 = .ok (.getfield 19, 3) := by decide +kernel
theorem dX4_carries_13 : decode cX4_carries 13 = .ok (.iconst 3, 1) := by decide +kernel
theorem dX4_carries_14 : decode cX4_carries 14 = .ok (.iload_n 1, 1) := by decide +kernel
theorem dX4_carries_15 : decode cX4_carries 15 = .ok (.imul, 1) := by decide +kernel
theorem dX4_carries_16 : decode cX4_carries 16 = .ok (.iconst 1, 1) := by decide +kernel
theorem dX4_carries_17 : decode cX4_carries 17 = .ok (.iadd, 1) := by decide +kernel
theorem dX4_carries_18 : decode cX4_carries 18 = .ok (.iaload, 1) := by decide +kernel
theorem dX4_carries_19 : decode cX4_carries 19 = .ok (.istore_n 3, 1) := by decide +kernel
theorem dX4_carries_20 : decode cX4_carries 20 = .ok (.aload_n 0, 1) := by decide +kernel
theorem dX4_carries_21 : decode cX4_carries 21 = .ok (.getfield 19, 3) := by decide +kernel
theorem dX4_carries_24 : decode cX4_carries 24 = .ok (.iconst 3, 1) := by decide +kernel
theorem dX4_carries_25 : decode cX4_carries 25 = .ok (.iload_n 1, 1) := by decide +kernel
theorem dX4_carries_26 : decode cX4_carries 26 = .ok (.imul, 1) := by decide +kernel
theorem dX4_carries_27 : decode cX4_carries 27 = .ok (.iconst 2, 1) := by decide +kernel
theorem dX4_carries_28 : decode cX4_carries 28 = .ok (.iadd, 1) := by decide +kernel
theorem dX4_carries_29 : decode cX4_carries 29 = .ok (.iaload, 1) := by decide +kernel
theorem dX4_carries_30 : decode cX4_carries 30 = .ok (.istore 4, 2) := by decide +kernel
theorem dX4_carries_32 : decode cX4_carries 32 = .ok (.aload_n 0, 1) := by decide +kernel
theorem dX4_carries_33 : decode cX4_carries 33 = .ok (.iload_n 2, 1) := by decide +kernel
theorem dX4_carries_34 : decode cX4_carries 34 = .ok (.iload_n 3, 1) := by decide +kernel
theorem dX4_carries_35 : decode cX4_carries 35 = .ok (.iload 4, 2) := by decide +kernel
theorem dX4_carries_37 : decode cX4_carries 37 = .ok (.invokevirtual 169, 3) := by decide +kernel
theorem dX4_carries_40 : decode cX4_carries 40 = .ok (.ifCond .ne 5, 3) := by decide +kernel
theorem dX4_carries_43 : decode cX4_carries 43 = .ok (.iconst 0, 1) := by decide +kernel
theorem dX4_carries_44 : decode cX4_carries 44 = .ok (.ireturn, 1) := by decide +kernel
theorem dX4_carries_45 : decode cX4_carries 45 = .ok (.iload_n 2, 1) := by decide +kernel
theorem dX4_carries_46 : decode cX4_carries 46 = .ok (.bipush 104, 2) := by decide +kernel
theorem dX4_carries_48 : decode cX4_carries 48 = .ok (.if_icmp .ne 13, 3) := by decide +kernel
theorem dX4_carries_51 : decode cX4_carries 51 = .ok (.aload_n 0, 1) := by decide +kernel
theorem dX4_carries_52 : decode cX4_carries 52 = .ok (.iload_n 3, 1) := by decide +kernel
theorem dX4_carries_53 : decode cX4_carries 53 = .ok (.iload 4, 2) := by decide +kernel
theorem dX4_carries_55 : decode cX4_carries 55 = .ok (.invokevirtual 106, 3) := by decide +kernel
theorem dX4_carries_58 : decode cX4_carries 58 = .ok (.goto 34, 3) := by decide +kernel
theorem dX4_carries_61 : decode cX4_carries 61 = .ok (.iload_n 2, 1) := by decide +kernel
theorem dX4_carries_62 : decode cX4_carries 62 = .ok (.bipush 109, 2) := by decide +kernel
theorem dX4_carries_64 : decode cX4_carries 64 = .ok (.if_icmp .ne 13, 3) := by decide +kernel
theorem dX4_carries_67 : decode cX4_carries 67 = .ok (.aload_n 0, 1) := by decide +kernel
theorem dX4_carries_68 : decode cX4_carries 68 = .ok (.iload_n 3, 1) := by decide +kernel
theorem dX4_carries_69 : decode cX4_carries 69 = .ok (.iload 4, 2) := by decide +kernel
theorem dX4_carries_71 : decode cX4_carries 71 = .ok (.invokevirtual 116, 3) := by decide +kernel
theorem dX4_carries_74 : decode cX4_carries 74 = .ok (.goto 18, 3) := by decide +kernel
theorem dX4_carries_77 : decode cX4_carries 77 = .ok (.iload_n 2, 1) := by decide +kernel
theorem dX4_carries_78 : decode cX4_carries 78 = .ok (.bipush 98, 2) := by decide +kernel
theorem dX4_carries_80 : decode cX4_carries 80 = .ok (.if_icmp .ne 11, 3) := by decide +kernel
theorem dX4_carries_83 : decode cX4_carries 83 = .ok (.aload_n 0, 1) := by decide +kernel
theorem dX4_carries_84 : decode cX4_carries 84 = .ok (.iload_n 3, 1) := by decide +kernel
theorem dX4_carries_85 : decode cX4_carries 85 = .ok (.invokevirtual 109, 3) := by decide +kernel
theorem dX4_carries_88 : decode cX4_carries 88 = .ok (.goto 4, 3) := by decide +kernel
theorem dX4_carries_91 : decode cX4_carries 91 = .ok (.iconst 0, 1) := by decide +kernel
theorem dX4_carries_92 : decode cX4_carries 92 = .ok (.istore 5, 2) := by decide +kernel
theorem dX4_carries_94 : decode cX4_carries 94 = .ok (.aload_n 0, 1) := by decide +kernel
theorem dX4_carries_95 : decode cX4_carries 95 = .ok (.getfield 7, 3) := by decide +kernel
theorem dX4_carries_98 : decode cX4_carries 98 = .ok (.iconst 2, 1) := by decide +kernel
theorem dX4_carries_99 : decode cX4_carries 99 = .ok (.dup2, 1) := by decide +kernel
theorem dX4_carries_100 : decode cX4_carries 100 = .ok (.iaload, 1) := by decide +kernel
theorem dX4_carries_101 : decode cX4_carries 101 = .ok (.iload_n 2, 1) := by decide +kernel
theorem dX4_carries_102 : decode cX4_carries 102 = .ok (.bipush 100, 2) := by decide +kernel
theorem dX4_carries_104 : decode cX4_carries 104 = .ok (.if_icmp .ne 8, 3) := by decide +kernel
theorem dX4_carries_107 : decode cX4_carries 107 = .ok (.iload 4, 2) := by decide +kernel
theorem dX4_carries_109 : decode cX4_carries 109 = .ok (.goto 4, 3) := by decide +kernel
theorem dX4_carries_112 : decode cX4_carries 112 = .ok (.iconst 0, 1) := by decide +kernel
theorem dX4_carries_113 : decode cX4_carries 113 = .ok (.iadd, 1) := by decide +kernel
theorem dX4_carries_114 : decode cX4_carries 114 = .ok (.iastore, 1) := by decide +kernel
theorem dX4_carries_115 : decode cX4_carries 115 = .ok (.iconst 1, 1) := by decide +kernel
theorem dX4_carries_116 : decode cX4_carries 116 = .ok (.ireturn, 1) := by decide +kernel
theorem dX4_run_0 : decode cX4_run 0 = .ok (.aload_n 0, 1) := by decide +kernel
theorem dX4_run_1 : decode cX4_run 1 = .ok (.invokevirtual 165, 3) := by decide +kernel
theorem dX4_run_4 : decode cX4_run 4 = .ok (.aload_n 0, 1) := by decide +kernel
theorem dX4_run_5 : decode cX4_run 5 = .ok (.getfield 137, 3) := by decide +kernel
theorem dX4_run_8 : decode cX4_run 8 = .ok (.if_icmp .ne 14, 3) := by decide +kernel
theorem dX4_run_11 : decode cX4_run 11 = .ok (.aload_n 0, 1) := by decide +kernel
theorem dX4_run_12 : decode cX4_run 12 = .ok (.invokevirtual 149, 3) := by decide +kernel
theorem dX4_run_15 : decode cX4_run 15 = .ok (.ifCond .eq 7, 3) := by decide +kernel
theorem dX4_run_18 : decode cX4_run 18 = .ok (.iconst 1, 1) := by decide +kernel
theorem dX4_run_19 : decode cX4_run 19 = .ok (.goto 4, 3) := by decide +kernel
theorem dX4_run_22 : decode cX4_run 22 = .ok (.iconst 0, 1) := by decide +kernel
theorem dX4_run_23 : decode cX4_run 23 = .ok (.istore_n 1, 1) := by decide +kernel
theorem dX4_run_24 : decode cX4_run 24 = .ok (.aload_n 0, 1) := by decide +kernel
theorem dX4_run_25 : decode cX4_run 25 = .ok (.iload_n 1, 1) := by decide +kernel
theorem dX4_run_26 : decode cX4_run 26 = .ok (.ifCond .eq 7, 3) := by decide +kernel
theorem dX4_run_29 : decode cX4_run 29 = .ok (.iconst 0, 1) := by decide +kernel
theorem dX4_run_30 : decode cX4_run 30 = .ok (.goto 4, 3) := by decide +kernel
theorem dX4_run_33 : decode cX4_run 33 = .ok (.iconst 1, 1) := by decide +kernel
theorem dX4_run_34 : decode cX4_run 34 = .ok (.putfield 25, 3) := by decide +kernel
theorem dX4_run_37 : decode cX4_run 37 = .ok (.aload_n 0, 1) := by decide +kernel
theorem dX4_run_38 : decode cX4_run 38 = .ok (.getfield 25, 3) := by decide +kernel
theorem dX4_run_41 : decode cX4_run 41 = .ok (.ifCond .le 5, 3) := by decide +kernel
theorem dX4_run_44 : decode cX4_run 44 = .ok (.iconst 0, 1) := by decide +kernel
theorem dX4_run_45 : decode cX4_run 45 = .ok (.ireturn, 1) := by decide +kernel
theorem dX4_run_46 : decode cX4_run 46 = .ok (.aload_n 0, 1) := by decide +kernel
theorem dX4_run_47 : decode cX4_run 47 = .ok (.invokevirtual 54, 3) := by decide +kernel
theorem dX4_run_50 : decode cX4_run 50 = .ok (.aload_n 0, 1) := by decide +kernel
theorem dX4_run_51 : decode cX4_run 51 = .ok (.iconst 0, 1) := by decide +kernel
theorem dX4_run_52 : decode cX4_run 52 = .ok (.putfield 137, 3) := by decide +kernel
theorem dX4_run_55 : decode cX4_run 55 = .ok (.iconst 0, 1) := by decide +kernel
theorem dX4_run_56 : decode cX4_run 56 = .ok (.istore_n 2, 1) := by decide +kernel
theorem dX4_run_57 : decode cX4_run 57 = .ok (.iload_n 2, 1) := by decide +kernel
theorem dX4_run_58 : decode cX4_run 58 = .ok (.aload_n 0, 1) := by decide +kernel
theorem dX4_run_59 : decode cX4_run 59 = .ok (.getfield 140, 3) := by decide +kernel
theorem dX4_run_62 : decode cX4_run 62 = .ok (.if_icmp .gt 17, 3) := by decide +kernel
theorem dX4_run_65 : decode cX4_run 65 = .ok (.aload_n 0, 1) := by decide +kernel
theorem dX4_run_66 : decode cX4_run 66 = .ok (.iload_n 2, 1) := by decide +kernel
theorem dX4_run_67 : decode cX4_run 67 = .ok (.invokevirtual 172, 3) := by decide +kernel
theorem dX4_run_70 : decode cX4_run 70 = .ok (.ifCond .eq 9, 3) := by decide +kernel
theorem dX4_run_73 : decode cX4_run 73 = .ok (.iinc 2 1, 3) := by decide +kernel
theorem dX4_run_76 : decode cX4_run 76 = .ok (.goto (-19), 3) := by decide +kernel
theorem dX4_run_79 : decode cX4_run 79 = .ok (.iload_n 2, 1) := by decide +kernel
theorem dX4_run_80 : decode cX4_run 80 = .ok (.ireturn, 1) := by decide +kernel
theorem dX4_undo_0 : decode cX4_undo 0 = .ok (.aload_n 0, 1) := by decide +kernel
theorem dX4_undo_1 : decode cX4_undo 1 = .ok (.aload_n 0, 1) := by decide +kernel
theorem dX4_undo_2 : decode cX4_undo 2 = .ok (.getfield 29, 3) := by decide +kernel
theorem dX4_undo_5 : decode cX4_undo 5 = .ok (.ifCond .le 7, 3) := by decide +kernel
theorem dX4_undo_8 : decode cX4_undo 8 = .ok (.iconst 0, 1) := by decide +kernel
theorem dX4_undo_9 : decode cX4_undo 9 = .ok (.goto 4, 3) := by decide +kernel
theorem dX4_undo_12 : decode cX4_undo 12 = .ok (.iconst 1, 1) := by decide +kernel
theorem dX4_undo_13 : decode cX4_undo 13 = .ok (.putfield 25, 3) := by decide +kernel
theorem dX4_undo_16 : decode cX4_undo 16 = .ok (.aload_n 0, 1) := by decide +kernel
theorem dX4_undo_17 : decode cX4_undo 17 = .ok (.getfield 25, 3) := by decide +kernel
theorem dX4_undo_20 : decode cX4_undo 20 = .ok (.ifCond .le 5, 3) := by decide +kernel
theorem dX4_undo_23 : decode cX4_undo 23 = .ok (.iconst 0, 1) := by decide +kernel
theorem dX4_undo_24 : decode cX4_undo 24 = .ok (.ireturn, 1) := by decide +kernel
theorem dX4_undo_25 : decode cX4_undo 25 = .ok (.aload_n 0, 1) := by decide +kernel
theorem dX4_undo_26 : decode cX4_undo 26 = .ok (.dup, 1) := by decide +kernel
theorem dX4_undo_27 : decode cX4_undo 27 = .ok (.getfield 29, 3) := by decide +kernel
theorem dX4_undo_30 : decode cX4_undo 30 = .ok (.iconst 1, 1) := by decide +kernel
theorem dX4_undo_31 : decode cX4_undo 31 = .ok (.isub, 1) := by decide +kernel
theorem dX4_undo_32 : decode cX4_undo 32 = .ok (.putfield 29, 3) := by decide +kernel
theorem dX4_undo_35 : decode cX4_undo 35 = .ok (.iconst 0, 1) := by decide +kernel
theorem dX4_undo_36 : decode cX4_undo 36 = .ok (.istore_n 1, 1) := by decide +kernel
theorem dX4_undo_37 : decode cX4_undo 37 = .ok (.iload_n 1, 1) := by decide +kernel
theorem dX4_undo_38 : decode cX4_undo 38 = .ok (.sipush 283, 3) := by decide +kernel
theorem dX4_undo_41 : decode cX4_undo 41 = .ok (.if_icmp .ge 30, 3) := by decide +kernel
theorem dX4_undo_44 : decode cX4_undo 44 = .ok (.aload_n 0, 1) := by decide +kernel
theorem dX4_undo_45 : decode cX4_undo 45 = .ok (.getfield 7, 3) := by decide +kernel
theorem dX4_undo_48 : decode cX4_undo 48 = .ok (.iload_n 1, 1) := by decide +kernel
theorem dX4_undo_49 : decode cX4_undo 49 = .ok (.aload_n 0, 1) := by decide +kernel
theorem dX4_undo_50 : decode cX4_undo 50 = .ok (.getfield 13, 3) := by decide +kernel
theorem dX4_undo_53 : decode cX4_undo 53 = .ok (.sipush 283, 3) := by decide +kernel
theorem dX4_undo_56 : decode cX4_undo 56 = .ok (.aload_n 0, 1) := by decide +kernel
theorem dX4_undo_57 : decode cX4_undo 57 = .ok (.getfield 29, 3) := by decide +kernel
theorem dX4_undo_60 : decode cX4_undo 60 = .ok (.imul, 1) := by decide +kernel
theorem dX4_undo_61 : decode cX4_undo 61 = .ok (.iload_n 1, 1) := by decide +kernel
theorem dX4_undo_62 : decode cX4_undo 62 = .ok (.iadd, 1) := by decide +kernel
theorem dX4_undo_63 : decode cX4_undo 63 = .ok (.iaload, 1) := by decide +kernel
theorem dX4_undo_64 : decode cX4_undo 64 = .ok (.iastore, 1) := by decide +kernel
theorem dX4_undo_65 : decode cX4_undo 65 = .ok (.iinc 1 1, 3) := by decide +kernel
theorem dX4_undo_68 : decode cX4_undo 68 = .ok (.goto (-31), 3) := by decide +kernel
theorem dX4_undo_71 : decode cX4_undo 71 = .ok (.aload_n 0, 1) := by decide +kernel
theorem dX4_undo_72 : decode cX4_undo 72 = .ok (.getfield 29, 3) := by decide +kernel
theorem dX4_undo_75 : decode cX4_undo 75 = .ok (.ireturn, 1) := by decide +kernel
theorem dX4_bundleNow_0 : decode cX4_bundleNow 0 = .ok (.iload_n 2, 1) := by decide +kernel
theorem dX4_bundleNow_1 : decode cX4_bundleNow 1 = .ok (.tableswitch 105 0 8 #[51, 51, 58, 72, 78, 78, 78, 90, 97], 51) := by decide +kernel
theorem dX4_bundleNow_52 : decode cX4_bundleNow 52 = .ok (.aload_n 0, 1) := by decide +kernel
theorem dX4_bundleNow_53 : decode cX4_bundleNow 53 = .ok (.iload_n 1, 1) := by decide +kernel
theorem dX4_bundleNow_54 : decode cX4_bundleNow 54 = .ok (.iload_n 2, 1) := by decide +kernel
theorem dX4_bundleNow_55 : decode cX4_bundleNow 55 = .ok (.invokevirtual 36, 3) := by decide +kernel
theorem dX4_bundleNow_58 : decode cX4_bundleNow 58 = .ok (.ireturn, 1) := by decide +kernel
theorem dX4_bundleNow_59 : decode cX4_bundleNow 59 = .ok (.aload_n 0, 1) := by decide +kernel
theorem dX4_bundleNow_60 : decode cX4_bundleNow 60 = .ok (.iload_n 1, 1) := by decide +kernel
theorem dX4_bundleNow_61 : decode cX4_bundleNow 61 = .ok (.invokevirtual 48, 3) := by decide +kernel
theorem dX4_bundleNow_64 : decode cX4_bundleNow 64 = .ok (.ifCond .eq 7, 3) := by decide +kernel
theorem dX4_bundleNow_67 : decode cX4_bundleNow 67 = .ok (.iconst 1, 1) := by decide +kernel
theorem dX4_bundleNow_68 : decode cX4_bundleNow 68 = .ok (.goto 4, 3) := by decide +kernel
theorem dX4_bundleNow_71 : decode cX4_bundleNow 71 = .ok (.iconst 0, 1) := by decide +kernel
theorem dX4_bundleNow_72 : decode cX4_bundleNow 72 = .ok (.ireturn, 1) := by decide +kernel
theorem dX4_bundleNow_73 : decode cX4_bundleNow 73 = .ok (.aload_n 0, 1) := by decide +kernel
theorem dX4_bundleNow_74 : decode cX4_bundleNow 74 = .ok (.iload_n 1, 1) := by decide +kernel
theorem dX4_bundleNow_75 : decode cX4_bundleNow 75 = .ok (.invokevirtual 86, 3) := by decide +kernel
theorem dX4_bundleNow_78 : decode cX4_bundleNow 78 = .ok (.ireturn, 1) := by decide +kernel
theorem dX4_bundleNow_79 : decode cX4_bundleNow 79 = .ok (.aload_n 0, 1) := by decide +kernel
theorem dX4_bundleNow_80 : decode cX4_bundleNow 80 = .ok (.iload_n 1, 1) := by decide +kernel
theorem dX4_bundleNow_81 : decode cX4_bundleNow 81 = .ok (.bipush 6, 2) := by decide +kernel
theorem dX4_bundleNow_83 : decode cX4_bundleNow 83 = .ok (.iload_n 2, 1) := by decide +kernel
theorem dX4_bundleNow_84 : decode cX4_bundleNow 84 = .ok (.iadd, 1) := by decide +kernel
theorem dX4_bundleNow_85 : decode cX4_bundleNow 85 = .ok (.iconst 4, 1) := by decide +kernel
theorem dX4_bundleNow_86 : decode cX4_bundleNow 86 = .ok (.isub, 1) := by decide +kernel
theorem dX4_bundleNow_87 : decode cX4_bundleNow 87 = .ok (.invokevirtual 36, 3) := by decide +kernel
theorem dX4_bundleNow_90 : decode cX4_bundleNow 90 = .ok (.ireturn, 1) := by decide +kernel
theorem dX4_bundleNow_91 : decode cX4_bundleNow 91 = .ok (.aload_n 0, 1) := by decide +kernel
theorem dX4_bundleNow_92 : decode cX4_bundleNow 92 = .ok (.iload_n 1, 1) := by decide +kernel
theorem dX4_bundleNow_93 : decode cX4_bundleNow 93 = .ok (.iconst 0, 1) := by decide +kernel
theorem dX4_bundleNow_94 : decode cX4_bundleNow 94 = .ok (.invokevirtual 89, 3) := by decide +kernel
theorem dX4_bundleNow_97 : decode cX4_bundleNow 97 = .ok (.ireturn, 1) := by decide +kernel
theorem dX4_bundleNow_98 : decode cX4_bundleNow 98 = .ok (.aload_n 0, 1) := by decide +kernel
theorem dX4_bundleNow_99 : decode cX4_bundleNow 99 = .ok (.iload_n 1, 1) := by decide +kernel
theorem dX4_bundleNow_100 : decode cX4_bundleNow 100 = .ok (.bipush 9, 2) := by decide +kernel
theorem dX4_bundleNow_102 : decode cX4_bundleNow 102 = .ok (.invokevirtual 36, 3) := by decide +kernel
theorem dX4_bundleNow_105 : decode cX4_bundleNow 105 = .ok (.ireturn, 1) := by decide +kernel
theorem dX4_bundleNow_106 : decode cX4_bundleNow 106 = .ok (.aload_n 0, 1) := by decide +kernel
theorem dX4_bundleNow_107 : decode cX4_bundleNow 107 = .ok (.iload_n 1, 1) := by decide +kernel
theorem dX4_bundleNow_108 : decode cX4_bundleNow 108 = .ok (.iconst 2, 1) := by decide +kernel
theorem dX4_bundleNow_109 : decode cX4_bundleNow 109 = .ok (.iload_n 2, 1) := by decide +kernel
theorem dX4_bundleNow_110 : decode cX4_bundleNow 110 = .ok (.iadd, 1) := by decide +kernel
theorem dX4_bundleNow_111 : decode cX4_bundleNow 111 = .ok (.bipush 10, 2) := by decide +kernel
theorem dX4_bundleNow_113 : decode cX4_bundleNow 113 = .ok (.isub, 1) := by decide +kernel
theorem dX4_bundleNow_114 : decode cX4_bundleNow 114 = .ok (.invokevirtual 36, 3) := by decide +kernel
theorem dX4_bundleNow_117 : decode cX4_bundleNow 117 = .ok (.ireturn, 1) := by decide +kernel
theorem dX4_bundle_0 : decode cX4_bundle 0 = .ok (.aload_n 0, 1) := by decide +kernel
theorem dX4_bundle_1 : decode cX4_bundle 1 = .ok (.aload_n 0, 1) := by decide +kernel
theorem dX4_bundle_2 : decode cX4_bundle 2 = .ok (.iload_n 1, 1) := by decide +kernel
theorem dX4_bundle_3 : decode cX4_bundle 3 = .ok (.invokevirtual 67, 3) := by decide +kernel
theorem dX4_bundle_6 : decode cX4_bundle 6 = .ok (.ifCond .ne 7, 3) := by decide +kernel
theorem dX4_bundle_9 : decode cX4_bundle 9 = .ok (.iconst 1, 1) := by decide +kernel
theorem dX4_bundle_10 : decode cX4_bundle 10 = .ok (.goto 29, 3) := by decide +kernel
theorem dX4_bundle_13 : decode cX4_bundle 13 = .ok (.iload_n 2, 1) := by decide +kernel
theorem dX4_bundle_14 : decode cX4_bundle 14 = .ok (.iconst 0, 1) := by decide +kernel
theorem dX4_bundle_15 : decode cX4_bundle 15 = .ok (.bipush 8, 2) := by decide +kernel
theorem dX4_bundle_17 : decode cX4_bundle 17 = .ok (.invokestatic 32, 3) := by decide +kernel
theorem dX4_bundle_20 : decode cX4_bundle 20 = .ok (.ifCond .ne 14, 3) := by decide +kernel
theorem dX4_bundle_23 : decode cX4_bundle 23 = .ok (.iload_n 2, 1) := by decide +kernel
theorem dX4_bundle_24 : decode cX4_bundle 24 = .ok (.bipush 10, 2) := by decide +kernel
theorem dX4_bundle_26 : decode cX4_bundle 26 = .ok (.bipush 13, 2) := by decide +kernel
theorem dX4_bundle_28 : decode cX4_bundle 28 = .ok (.invokestatic 32, 3) := by decide +kernel
theorem dX4_bundle_31 : decode cX4_bundle 31 = .ok (.ifCond .eq 7, 3) := by decide +kernel
theorem dX4_bundle_34 : decode cX4_bundle 34 = .ok (.iconst 0, 1) := by decide +kernel
theorem dX4_bundle_35 : decode cX4_bundle 35 = .ok (.goto 4, 3) := by decide +kernel
theorem dX4_bundle_38 : decode cX4_bundle 38 = .ok (.iconst 2, 1) := by decide +kernel
theorem dX4_bundle_39 : decode cX4_bundle 39 = .ok (.putfield 25, 3) := by decide +kernel
theorem dX4_bundle_42 : decode cX4_bundle 42 = .ok (.aload_n 0, 1) := by decide +kernel
theorem dX4_bundle_43 : decode cX4_bundle 43 = .ok (.getfield 25, 3) := by decide +kernel
theorem dX4_bundle_46 : decode cX4_bundle 46 = .ok (.ifCond .le 7, 3) := by decide +kernel
theorem dX4_bundle_49 : decode cX4_bundle 49 = .ok (.iconst 0, 1) := by decide +kernel
theorem dX4_bundle_50 : decode cX4_bundle 50 = .ok (.goto 9, 3) := by decide +kernel
theorem dX4_bundle_53 : decode cX4_bundle 53 = .ok (.aload_n 0, 1) := by decide +kernel
theorem dX4_bundle_54 : decode cX4_bundle 54 = .ok (.iload_n 1, 1) := by decide +kernel
theorem dX4_bundle_55 : decode cX4_bundle 55 = .ok (.iload_n 2, 1) := by decide +kernel
theorem dX4_bundle_56 : decode cX4_bundle 56 = .ok (.invokevirtual 175, 3) := by decide +kernel
theorem dX4_bundle_59 : decode cX4_bundle 59 = .ok (.ireturn, 1) := by decide +kernel
theorem dX4_sumOnSite_0 : decode cX4_sumOnSite 0 = .ok (.iconst 0, 1) := by decide +kernel
theorem dX4_sumOnSite_1 : decode cX4_sumOnSite 1 = .ok (.istore_n 3, 1) := by decide +kernel
theorem dX4_sumOnSite_2 : decode cX4_sumOnSite 2 = .ok (.iconst 0, 1) := by decide +kernel
theorem dX4_sumOnSite_3 : decode cX4_sumOnSite 3 = .ok (.istore 4, 2) := by decide +kernel
theorem dX4_sumOnSite_5 : decode cX4_sumOnSite 5 = .ok (.iload 4, 2) := by decide +kernel
theorem dX4_sumOnSite_7 : decode cX4_sumOnSite 7 = .ok (.aload_n 0, 1) := by decide +kernel
theorem dX4_sumOnSite_8 : decode cX4_sumOnSite 8 = .ok (.getfield 7, 3) := by decide +kernel
theorem dX4_sumOnSite_11 : decode cX4_sumOnSite 11 = .ok (.iconst 3, 1) := by decide +kernel
theorem dX4_sumOnSite_12 : decode cX4_sumOnSite 12 = .ok (.iaload, 1) := by decide +kernel
theorem dX4_sumOnSite_13 : decode cX4_sumOnSite 13 = .ok (.if_icmp .ge 83, 3) := by decide +kernel
theorem dX4_sumOnSite_16 : decode cX4_sumOnSite 16 = .ok (.iload_n 2, 1) := by decide +kernel
theorem dX4_sumOnSite_17 : decode cX4_sumOnSite 17 = .ok (.ifCond .ne 7, 3) := by decide +kernel
theorem dX4_sumOnSite_20 : decode cX4_sumOnSite 20 = .ok (.iconst 1, 1) := by decide +kernel
theorem dX4_sumOnSite_21 : decode cX4_sumOnSite 21 = .ok (.goto 47, 3) := by decide +kernel
theorem dX4_sumOnSite_24 : decode cX4_sumOnSite 24 = .ok (.iload_n 2, 1) := by decide +kernel
theorem dX4_sumOnSite_25 : decode cX4_sumOnSite 25 = .ok (.bipush 6, 2) := by decide +kernel
theorem dX4_sumOnSite_27 : decode cX4_sumOnSite 27 = .ok (.if_icmp .ne 13, 3) := by decide +kernel
theorem dX4_sumOnSite_30 : decode cX4_sumOnSite 30 = .ok (.aload_n 0, 1) := by decide +kernel
theorem dX4_sumOnSite_31 : decode cX4_sumOnSite 31 = .ok (.iload 4, 2) := by decide +kernel
theorem dX4_sumOnSite_33 : decode cX4_sumOnSite 33 = .ok (.iconst 0, 1) := by decide +kernel
theorem dX4_sumOnSite_34 : decode cX4_sumOnSite 34 = .ok (.invokevirtual 89, 3) := by decide +kernel
theorem dX4_sumOnSite_37 : decode cX4_sumOnSite 37 = .ok (.goto 31, 3) := by decide +kernel
theorem dX4_sumOnSite_40 : decode cX4_sumOnSite 40 = .ok (.aload_n 0, 1) := by decide +kernel
theorem dX4_sumOnSite_41 : decode cX4_sumOnSite 41 = .ok (.getfield 7, 3) := by decide +kernel
theorem dX4_sumOnSite_44 : decode cX4_sumOnSite 44 = .ok (.iconst 2, 1) := by decide +kernel
theorem dX4_sumOnSite_45 : decode cX4_sumOnSite 45 = .ok (.iaload, 1) := by decide +kernel
theorem dX4_sumOnSite_46 : decode cX4_sumOnSite 46 = .ok (.aload_n 0, 1) := by decide +kernel
theorem dX4_sumOnSite_47 : decode cX4_sumOnSite 47 = .ok (.iload 4, 2) := by decide +kernel
theorem dX4_sumOnSite_49 : decode cX4_sumOnSite 49 = .ok (.iconst 1, 1) := by decide +kernel
theorem dX4_sumOnSite_50 : decode cX4_sumOnSite 50 = .ok (.invokevirtual 36, 3) := by decide +kernel
theorem dX4_sumOnSite_53 : decode cX4_sumOnSite 53 = .ok (.isub, 1) := by decide +kernel
theorem dX4_sumOnSite_54 : decode cX4_sumOnSite 54 = .ok (.aload_n 0, 1) := by decide +kernel
theorem dX4_sumOnSite_55 : decode cX4_sumOnSite 55 = .ok (.getfield 7, 3) := by decide +kernel
theorem dX4_sumOnSite_58 : decode cX4_sumOnSite 58 = .ok (.iconst 0, 1) := by decide +kernel
theorem dX4_sumOnSite_59 : decode cX4_sumOnSite 59 = .ok (.iaload, 1) := by decide +kernel
theorem dX4_sumOnSite_60 : decode cX4_sumOnSite 60 = .ok (.if_icmp .ge 7, 3) := by decide +kernel
theorem dX4_sumOnSite_63 : decode cX4_sumOnSite 63 = .ok (.iconst 1, 1) := by decide +kernel
theorem dX4_sumOnSite_64 : decode cX4_sumOnSite 64 = .ok (.goto 4, 3) := by decide +kernel
theorem dX4_sumOnSite_67 : decode cX4_sumOnSite 67 = .ok (.iconst 0, 1) := by decide +kernel
theorem dX4_sumOnSite_68 : decode cX4_sumOnSite 68 = .ok (.istore 5, 2) := by decide +kernel
theorem dX4_sumOnSite_70 : decode cX4_sumOnSite 70 = .ok (.iload_n 3, 1) := by decide +kernel
theorem dX4_sumOnSite_71 : decode cX4_sumOnSite 71 = .ok (.aload_n 0, 1) := by decide +kernel
theorem dX4_sumOnSite_72 : decode cX4_sumOnSite 72 = .ok (.iload 4, 2) := by decide +kernel
theorem dX4_sumOnSite_74 : decode cX4_sumOnSite 74 = .ok (.iconst 0, 1) := by decide +kernel
theorem dX4_sumOnSite_75 : decode cX4_sumOnSite 75 = .ok (.invokevirtual 36, 3) := by decide +kernel
theorem dX4_sumOnSite_78 : decode cX4_sumOnSite 78 = .ok (.iload_n 1, 1) := by decide +kernel
theorem dX4_sumOnSite_79 : decode cX4_sumOnSite 79 = .ok (.if_icmp .ne 8, 3) := by decide +kernel
theorem dX4_sumOnSite_82 : decode cX4_sumOnSite 82 = .ok (.iload 5, 2) := by decide +kernel
theorem dX4_sumOnSite_84 : decode cX4_sumOnSite 84 = .ok (.goto 4, 3) := by decide +kernel
theorem dX4_sumOnSite_87 : decode cX4_sumOnSite 87 = .ok (.iconst 0, 1) := by decide +kernel
theorem dX4_sumOnSite_88 : decode cX4_sumOnSite 88 = .ok (.iadd, 1) := by decide +kernel
theorem dX4_sumOnSite_89 : decode cX4_sumOnSite 89 = .ok (.istore_n 3, 1) := by decide +kernel
theorem dX4_sumOnSite_90 : decode cX4_sumOnSite 90 = .ok (.iinc 4 1, 3) := by decide +kernel
theorem dX4_sumOnSite_93 : decode cX4_sumOnSite 93 = .ok (.goto (-88), 3) := by decide +kernel
theorem dX4_sumOnSite_96 : decode cX4_sumOnSite 96 = .ok (.iload_n 3, 1) := by decide +kernel
theorem dX4_sumOnSite_97 : decode cX4_sumOnSite 97 = .ok (.ireturn, 1) := by decide +kernel
theorem dX4_siteNow_0 : decode cX4_siteNow 0 = .ok (.iload_n 2, 1) := by decide +kernel
theorem dX4_siteNow_1 : decode cX4_siteNow 1 = .ok (.tableswitch 50 1 5 #[35, 41, 41, 41, 41], 35) := by decide +kernel
theorem dX4_siteNow_36 : decode cX4_siteNow 36 = .ok (.aload_n 0, 1) := by decide +kernel
theorem dX4_siteNow_37 : decode cX4_siteNow 37 = .ok (.iload_n 1, 1) := by decide +kernel
theorem dX4_siteNow_38 : decode cX4_siteNow 38 = .ok (.invokevirtual 125, 3) := by decide +kernel
theorem dX4_siteNow_41 : decode cX4_siteNow 41 = .ok (.ireturn, 1) := by decide +kernel
theorem dX4_siteNow_42 : decode cX4_siteNow 42 = .ok (.aload_n 0, 1) := by decide +kernel
theorem dX4_siteNow_43 : decode cX4_siteNow 43 = .ok (.iload_n 1, 1) := by decide +kernel
theorem dX4_siteNow_44 : decode cX4_siteNow 44 = .ok (.iload_n 2, 1) := by decide +kernel
theorem dX4_siteNow_45 : decode cX4_siteNow 45 = .ok (.iconst 2, 1) := by decide +kernel
theorem dX4_siteNow_46 : decode cX4_siteNow 46 = .ok (.isub, 1) := by decide +kernel
theorem dX4_siteNow_47 : decode cX4_siteNow 47 = .ok (.invokevirtual 119, 3) := by decide +kernel
theorem dX4_siteNow_50 : decode cX4_siteNow 50 = .ok (.ireturn, 1) := by decide +kernel
theorem dX4_siteNow_51 : decode cX4_siteNow 51 = .ok (.aload_n 0, 1) := by decide +kernel
theorem dX4_siteNow_52 : decode cX4_siteNow 52 = .ok (.iload_n 1, 1) := by decide +kernel
theorem dX4_siteNow_53 : decode cX4_siteNow 53 = .ok (.iload_n 2, 1) := by decide +kernel
theorem dX4_siteNow_54 : decode cX4_siteNow 54 = .ok (.invokevirtual 178, 3) := by decide +kernel
theorem dX4_siteNow_57 : decode cX4_siteNow 57 = .ok (.ireturn, 1) := by decide +kernel
theorem dX4_site_0 : decode cX4_site 0 = .ok (.aload_n 0, 1) := by decide +kernel
theorem dX4_site_1 : decode cX4_site 1 = .ok (.iload_n 1, 1) := by decide +kernel
theorem dX4_site_2 : decode cX4_site 2 = .ok (.invokestatic 100, 3) := by decide +kernel
theorem dX4_site_5 : decode cX4_site 5 = .ok (.ifCond .ne 7, 3) := by decide +kernel
theorem dX4_site_8 : decode cX4_site 8 = .ok (.iconst 1, 1) := by decide +kernel
theorem dX4_site_9 : decode cX4_site 9 = .ok (.goto 18, 3) := by decide +kernel
theorem dX4_site_12 : decode cX4_site 12 = .ok (.iload_n 2, 1) := by decide +kernel
theorem dX4_site_13 : decode cX4_site 13 = .ok (.iconst 0, 1) := by decide +kernel
theorem dX4_site_14 : decode cX4_site 14 = .ok (.bipush 7, 2) := by decide +kernel
theorem dX4_site_16 : decode cX4_site 16 = .ok (.invokestatic 32, 3) := by decide +kernel
theorem dX4_site_19 : decode cX4_site 19 = .ok (.ifCond .eq 7, 3) := by decide +kernel
theorem dX4_site_22 : decode cX4_site 22 = .ok (.iconst 0, 1) := by decide +kernel
theorem dX4_site_23 : decode cX4_site 23 = .ok (.goto 4, 3) := by decide +kernel
theorem dX4_site_26 : decode cX4_site 26 = .ok (.iconst 2, 1) := by decide +kernel
theorem dX4_site_27 : decode cX4_site 27 = .ok (.putfield 25, 3) := by decide +kernel
theorem dX4_site_30 : decode cX4_site 30 = .ok (.aload_n 0, 1) := by decide +kernel
theorem dX4_site_31 : decode cX4_site 31 = .ok (.getfield 25, 3) := by decide +kernel
theorem dX4_site_34 : decode cX4_site 34 = .ok (.ifCond .le 7, 3) := by decide +kernel
theorem dX4_site_37 : decode cX4_site 37 = .ok (.iconst 0, 1) := by decide +kernel
theorem dX4_site_38 : decode cX4_site 38 = .ok (.goto 9, 3) := by decide +kernel
theorem dX4_site_41 : decode cX4_site 41 = .ok (.aload_n 0, 1) := by decide +kernel
theorem dX4_site_42 : decode cX4_site 42 = .ok (.iload_n 1, 1) := by decide +kernel
theorem dX4_site_43 : decode cX4_site 43 = .ok (.iload_n 2, 1) := by decide +kernel
theorem dX4_site_44 : decode cX4_site 44 = .ok (.invokevirtual 181, 3) := by decide +kernel
theorem dX4_site_47 : decode cX4_site 47 = .ok (.ireturn, 1) := by decide +kernel
theorem dX4_inSets_0 : decode cX4_inSets 0 = .ok (.iconst 0, 1) := by decide +kernel
theorem dX4_inSets_1 : decode cX4_inSets 1 = .ok (.istore_n 2, 1) := by decide +kernel
theorem dX4_inSets_2 : decode cX4_inSets 2 = .ok (.iconst 0, 1) := by decide +kernel
theorem dX4_inSets_3 : decode cX4_inSets 3 = .ok (.istore_n 3, 1) := by decide +kernel
theorem dX4_inSets_4 : decode cX4_inSets 4 = .ok (.iload_n 3, 1) := by decide +kernel
theorem dX4_inSets_5 : decode cX4_inSets 5 = .ok (.aload_n 0, 1) := by decide +kernel
theorem dX4_inSets_6 : decode cX4_inSets 6 = .ok (.getfield 7, 3) := by decide +kernel
theorem dX4_inSets_9 : decode cX4_inSets 9 = .ok (.iconst 3, 1) := by decide +kernel
theorem dX4_inSets_10 : decode cX4_inSets 10 = .ok (.iaload, 1) := by decide +kernel
theorem dX4_inSets_11 : decode cX4_inSets 11 = .ok (.if_icmp .ge 20, 3) := by decide +kernel
theorem dX4_inSets_14 : decode cX4_inSets 14 = .ok (.iload_n 2, 1) := by decide +kernel
theorem dX4_inSets_15 : decode cX4_inSets 15 = .ok (.aload_n 0, 1) := by decide +kernel
theorem dX4_inSets_16 : decode cX4_inSets 16 = .ok (.iload_n 3, 1) := by decide +kernel
theorem dX4_inSets_17 : decode cX4_inSets 17 = .ok (.iconst 2, 1) := by decide +kernel
theorem dX4_inSets_18 : decode cX4_inSets 18 = .ok (.iload_n 1, 1) := by decide +kernel
theorem dX4_inSets_19 : decode cX4_inSets 19 = .ok (.iadd, 1) := by decide +kernel
theorem dX4_inSets_20 : decode cX4_inSets 20 = .ok (.invokevirtual 36, 3) := by decide +kernel
theorem dX4_inSets_23 : decode cX4_inSets 23 = .ok (.iadd, 1) := by decide +kernel
theorem dX4_inSets_24 : decode cX4_inSets 24 = .ok (.istore_n 2, 1) := by decide +kernel
theorem dX4_inSets_25 : decode cX4_inSets 25 = .ok (.iinc 3 1, 3) := by decide +kernel
theorem dX4_inSets_28 : decode cX4_inSets 28 = .ok (.goto (-24), 3) := by decide +kernel
theorem dX4_inSets_31 : decode cX4_inSets 31 = .ok (.iload_n 2, 1) := by decide +kernel
theorem dX4_inSets_32 : decode cX4_inSets 32 = .ok (.ireturn, 1) := by decide +kernel
theorem dX4_partNow_0 : decode cX4_partNow 0 = .ok (.iload_n 2, 1) := by decide +kernel
theorem dX4_partNow_1 : decode cX4_partNow 1 = .ok (.tableswitch 67 0 3 #[31, 37, 47, 57], 31) := by decide +kernel
theorem dX4_partNow_32 : decode cX4_partNow 32 = .ok (.aload_n 0, 1) := by decide +kernel
theorem dX4_partNow_33 : decode cX4_partNow 33 = .ok (.iload_n 1, 1) := by decide +kernel
theorem dX4_partNow_34 : decode cX4_partNow 34 = .ok (.invokevirtual 184, 3) := by decide +kernel
theorem dX4_partNow_37 : decode cX4_partNow 37 = .ok (.ireturn, 1) := by decide +kernel
theorem dX4_partNow_38 : decode cX4_partNow 38 = .ok (.aload_n 0, 1) := by decide +kernel
theorem dX4_partNow_39 : decode cX4_partNow 39 = .ok (.getfield 7, 3) := by decide +kernel
theorem dX4_partNow_42 : decode cX4_partNow 42 = .ok (.bipush 7, 2) := by decide +kernel
theorem dX4_partNow_44 : decode cX4_partNow 44 = .ok (.iload_n 1, 1) := by decide +kernel
theorem dX4_partNow_45 : decode cX4_partNow 45 = .ok (.iadd, 1) := by decide +kernel
theorem dX4_partNow_46 : decode cX4_partNow 46 = .ok (.iaload, 1) := by decide +kernel
theorem dX4_partNow_47 : decode cX4_partNow 47 = .ok (.ireturn, 1) := by decide +kernel
theorem dX4_partNow_48 : decode cX4_partNow 48 = .ok (.aload_n 0, 1) := by decide +kernel
theorem dX4_partNow_49 : decode cX4_partNow 49 = .ok (.getfield 7, 3) := by decide +kernel
theorem dX4_partNow_52 : decode cX4_partNow 52 = .ok (.bipush 11, 2) := by decide +kernel
theorem dX4_partNow_54 : decode cX4_partNow 54 = .ok (.iload_n 1, 1) := by decide +kernel
theorem dX4_partNow_55 : decode cX4_partNow 55 = .ok (.iadd, 1) := by decide +kernel
theorem dX4_partNow_56 : decode cX4_partNow 56 = .ok (.iaload, 1) := by decide +kernel
theorem dX4_partNow_57 : decode cX4_partNow 57 = .ok (.ireturn, 1) := by decide +kernel
theorem dX4_partNow_58 : decode cX4_partNow 58 = .ok (.aload_n 0, 1) := by decide +kernel
theorem dX4_partNow_59 : decode cX4_partNow 59 = .ok (.getfield 7, 3) := by decide +kernel
theorem dX4_partNow_62 : decode cX4_partNow 62 = .ok (.bipush 15, 2) := by decide +kernel
theorem dX4_partNow_64 : decode cX4_partNow 64 = .ok (.iload_n 1, 1) := by decide +kernel
theorem dX4_partNow_65 : decode cX4_partNow 65 = .ok (.iadd, 1) := by decide +kernel
theorem dX4_partNow_66 : decode cX4_partNow 66 = .ok (.iaload, 1) := by decide +kernel
theorem dX4_partNow_67 : decode cX4_partNow 67 = .ok (.ireturn, 1) := by decide +kernel
theorem dX4_partNow_68 : decode cX4_partNow 68 = .ok (.iload_n 1, 1) := by decide +kernel
theorem dX4_partNow_69 : decode cX4_partNow 69 = .ok (.invokestatic 40, 3) := by decide +kernel
theorem dX4_partNow_72 : decode cX4_partNow 72 = .ok (.aload_n 0, 1) := by decide +kernel
theorem dX4_partNow_73 : decode cX4_partNow 73 = .ok (.getfield 7, 3) := by decide +kernel
theorem dX4_partNow_76 : decode cX4_partNow 76 = .ok (.iconst 3, 1) := by decide +kernel
theorem dX4_partNow_77 : decode cX4_partNow 77 = .ok (.iaload, 1) := by decide +kernel
theorem dX4_partNow_78 : decode cX4_partNow 78 = .ok (.imul, 1) := by decide +kernel
theorem dX4_partNow_79 : decode cX4_partNow 79 = .ok (.aload_n 0, 1) := by decide +kernel
theorem dX4_partNow_80 : decode cX4_partNow 80 = .ok (.iload_n 1, 1) := by decide +kernel
theorem dX4_partNow_81 : decode cX4_partNow 81 = .ok (.invokevirtual 184, 3) := by decide +kernel
theorem dX4_partNow_84 : decode cX4_partNow 84 = .ok (.isub, 1) := by decide +kernel
theorem dX4_partNow_85 : decode cX4_partNow 85 = .ok (.ireturn, 1) := by decide +kernel
theorem dX4_parts_0 : decode cX4_parts 0 = .ok (.aload_n 0, 1) := by decide +kernel
theorem dX4_parts_1 : decode cX4_parts 1 = .ok (.iload_n 1, 1) := by decide +kernel
theorem dX4_parts_2 : decode cX4_parts 2 = .ok (.invokestatic 64, 3) := by decide +kernel
theorem dX4_parts_5 : decode cX4_parts 5 = .ok (.ifCond .ne 7, 3) := by decide +kernel
theorem dX4_parts_8 : decode cX4_parts 8 = .ok (.iconst 1, 1) := by decide +kernel
theorem dX4_parts_9 : decode cX4_parts 9 = .ok (.goto 17, 3) := by decide +kernel
theorem dX4_parts_12 : decode cX4_parts 12 = .ok (.iload_n 2, 1) := by decide +kernel
theorem dX4_parts_13 : decode cX4_parts 13 = .ok (.iconst 0, 1) := by decide +kernel
theorem dX4_parts_14 : decode cX4_parts 14 = .ok (.iconst 4, 1) := by decide +kernel
theorem dX4_parts_15 : decode cX4_parts 15 = .ok (.invokestatic 32, 3) := by decide +kernel
theorem dX4_parts_18 : decode cX4_parts 18 = .ok (.ifCond .eq 7, 3) := by decide +kernel
theorem dX4_parts_21 : decode cX4_parts 21 = .ok (.iconst 0, 1) := by decide +kernel
theorem dX4_parts_22 : decode cX4_parts 22 = .ok (.goto 4, 3) := by decide +kernel
theorem dX4_parts_25 : decode cX4_parts 25 = .ok (.iconst 2, 1) := by decide +kernel
theorem dX4_parts_26 : decode cX4_parts 26 = .ok (.putfield 25, 3) := by decide +kernel
theorem dX4_parts_29 : decode cX4_parts 29 = .ok (.aload_n 0, 1) := by decide +kernel
theorem dX4_parts_30 : decode cX4_parts 30 = .ok (.getfield 25, 3) := by decide +kernel
theorem dX4_parts_33 : decode cX4_parts 33 = .ok (.ifCond .le 7, 3) := by decide +kernel
theorem dX4_parts_36 : decode cX4_parts 36 = .ok (.iconst 0, 1) := by decide +kernel
theorem dX4_parts_37 : decode cX4_parts 37 = .ok (.goto 9, 3) := by decide +kernel
theorem dX4_parts_40 : decode cX4_parts 40 = .ok (.aload_n 0, 1) := by decide +kernel
theorem dX4_parts_41 : decode cX4_parts 41 = .ok (.iload_n 1, 1) := by decide +kernel
theorem dX4_parts_42 : decode cX4_parts 42 = .ok (.iload_n 2, 1) := by decide +kernel
theorem dX4_parts_43 : decode cX4_parts 43 = .ok (.invokevirtual 187, 3) := by decide +kernel
theorem dX4_parts_46 : decode cX4_parts 46 = .ok (.ireturn, 1) := by decide +kernel
theorem dX4_billedToAll_0 : decode cX4_billedToAll 0 = .ok (.iconst 0, 1) := by decide +kernel
theorem dX4_billedToAll_1 : decode cX4_billedToAll 1 = .ok (.istore_n 1, 1) := by decide +kernel
theorem dX4_billedToAll_2 : decode cX4_billedToAll 2 = .ok (.iconst 0, 1) := by decide +kernel
theorem dX4_billedToAll_3 : decode cX4_billedToAll 3 = .ok (.istore_n 2, 1) := by decide +kernel
theorem dX4_billedToAll_4 : decode cX4_billedToAll 4 = .ok (.iload_n 2, 1) := by decide +kernel
theorem dX4_billedToAll_5 : decode cX4_billedToAll 5 = .ok (.bipush 6, 2) := by decide +kernel
theorem dX4_billedToAll_7 : decode cX4_billedToAll 7 = .ok (.if_icmp .ge 17, 3) := by decide +kernel
theorem dX4_billedToAll_10 : decode cX4_billedToAll 10 = .ok (.iload_n 1, 1) := by decide +kernel
theorem dX4_billedToAll_11 : decode cX4_billedToAll 11 = .ok (.aload_n 0, 1) := by decide +kernel
theorem dX4_billedToAll_12 : decode cX4_billedToAll 12 = .ok (.iload_n 2, 1) := by decide +kernel
theorem dX4_billedToAll_13 : decode cX4_billedToAll 13 = .ok (.invokevirtual 122, 3) := by decide +kernel
theorem dX4_billedToAll_16 : decode cX4_billedToAll 16 = .ok (.iadd, 1) := by decide +kernel
theorem dX4_billedToAll_17 : decode cX4_billedToAll 17 = .ok (.istore_n 1, 1) := by decide +kernel
theorem dX4_billedToAll_18 : decode cX4_billedToAll 18 = .ok (.iinc 2 1, 3) := by decide +kernel
theorem dX4_billedToAll_21 : decode cX4_billedToAll 21 = .ok (.goto (-17), 3) := by decide +kernel
theorem dX4_billedToAll_24 : decode cX4_billedToAll 24 = .ok (.iload_n 1, 1) := by decide +kernel
theorem dX4_billedToAll_25 : decode cX4_billedToAll 25 = .ok (.ireturn, 1) := by decide +kernel
theorem dX4_paidByAll_0 : decode cX4_paidByAll 0 = .ok (.iconst 0, 1) := by decide +kernel
theorem dX4_paidByAll_1 : decode cX4_paidByAll 1 = .ok (.istore_n 1, 1) := by decide +kernel
theorem dX4_paidByAll_2 : decode cX4_paidByAll 2 = .ok (.iconst 0, 1) := by decide +kernel
theorem dX4_paidByAll_3 : decode cX4_paidByAll 3 = .ok (.istore_n 2, 1) := by decide +kernel
theorem dX4_paidByAll_4 : decode cX4_paidByAll 4 = .ok (.iload_n 2, 1) := by decide +kernel
theorem dX4_paidByAll_5 : decode cX4_paidByAll 5 = .ok (.bipush 6, 2) := by decide +kernel
theorem dX4_paidByAll_7 : decode cX4_paidByAll 7 = .ok (.if_icmp .ge 18, 3) := by decide +kernel
theorem dX4_paidByAll_10 : decode cX4_paidByAll 10 = .ok (.iload_n 1, 1) := by decide +kernel
theorem dX4_paidByAll_11 : decode cX4_paidByAll 11 = .ok (.aload_n 0, 1) := by decide +kernel
theorem dX4_paidByAll_12 : decode cX4_paidByAll 12 = .ok (.iload_n 2, 1) := by decide +kernel
theorem dX4_paidByAll_13 : decode cX4_paidByAll 13 = .ok (.iconst 3, 1) := by decide +kernel
theorem dX4_paidByAll_14 : decode cX4_paidByAll 14 = .ok (.invokevirtual 119, 3) := by decide +kernel
theorem dX4_paidByAll_17 : decode cX4_paidByAll 17 = .ok (.iadd, 1) := by decide +kernel
theorem dX4_paidByAll_18 : decode cX4_paidByAll 18 = .ok (.istore_n 1, 1) := by decide +kernel
theorem dX4_paidByAll_19 : decode cX4_paidByAll 19 = .ok (.iinc 2 1, 3) := by decide +kernel
theorem dX4_paidByAll_22 : decode cX4_paidByAll 22 = .ok (.goto (-18), 3) := by decide +kernel
theorem dX4_paidByAll_25 : decode cX4_paidByAll 25 = .ok (.iload_n 1, 1) := by decide +kernel
theorem dX4_paidByAll_26 : decode cX4_paidByAll 26 = .ok (.ireturn, 1) := by decide +kernel
theorem dX4_counted_0 : decode cX4_counted 0 = .ok (.iload_n 1, 1) := by decide +kernel
theorem dX4_counted_1 : decode cX4_counted 1 = .ok (.tableswitch 96 0 9 #[55, 62, 68, 74, 81, 86, 96, 96, 96, 91], 55) := by decide +kernel
theorem dX4_counted_56 : decode cX4_counted 56 = .ok (.aload_n 0, 1) := by decide +kernel
theorem dX4_counted_57 : decode cX4_counted 57 = .ok (.getfield 7, 3) := by decide +kernel
theorem dX4_counted_60 : decode cX4_counted 60 = .ok (.iconst 3, 1) := by decide +kernel
theorem dX4_counted_61 : decode cX4_counted 61 = .ok (.iaload, 1) := by decide +kernel
theorem dX4_counted_62 : decode cX4_counted 62 = .ok (.ireturn, 1) := by decide +kernel
theorem dX4_counted_63 : decode cX4_counted 63 = .ok (.aload_n 0, 1) := by decide +kernel
theorem dX4_counted_64 : decode cX4_counted 64 = .ok (.iconst 0, 1) := by decide +kernel
theorem dX4_counted_65 : decode cX4_counted 65 = .ok (.invokevirtual 92, 3) := by decide +kernel
theorem dX4_counted_68 : decode cX4_counted 68 = .ok (.ireturn, 1) := by decide +kernel
theorem dX4_counted_69 : decode cX4_counted 69 = .ok (.aload_n 0, 1) := by decide +kernel
theorem dX4_counted_70 : decode cX4_counted 70 = .ok (.iconst 1, 1) := by decide +kernel
theorem dX4_counted_71 : decode cX4_counted 71 = .ok (.invokevirtual 92, 3) := by decide +kernel
theorem dX4_counted_74 : decode cX4_counted 74 = .ok (.ireturn, 1) := by decide +kernel
theorem dX4_counted_75 : decode cX4_counted 75 = .ok (.aload_n 0, 1) := by decide +kernel
theorem dX4_counted_76 : decode cX4_counted 76 = .ok (.getfield 7, 3) := by decide +kernel
theorem dX4_counted_79 : decode cX4_counted 79 = .ok (.iconst 2, 1) := by decide +kernel
theorem dX4_counted_80 : decode cX4_counted 80 = .ok (.iaload, 1) := by decide +kernel
theorem dX4_counted_81 : decode cX4_counted 81 = .ok (.ireturn, 1) := by decide +kernel
theorem dX4_counted_82 : decode cX4_counted 82 = .ok (.aload_n 0, 1) := by decide +kernel
theorem dX4_counted_83 : decode cX4_counted 83 = .ok (.invokevirtual 190, 3) := by decide +kernel
theorem dX4_counted_86 : decode cX4_counted 86 = .ok (.ireturn, 1) := by decide +kernel
theorem dX4_counted_87 : decode cX4_counted 87 = .ok (.aload_n 0, 1) := by decide +kernel
theorem dX4_counted_88 : decode cX4_counted 88 = .ok (.invokevirtual 193, 3) := by decide +kernel
theorem dX4_counted_91 : decode cX4_counted 91 = .ok (.ireturn, 1) := by decide +kernel
theorem dX4_counted_92 : decode cX4_counted 92 = .ok (.aload_n 0, 1) := by decide +kernel
theorem dX4_counted_93 : decode cX4_counted 93 = .ok (.getfield 29, 3) := by decide +kernel
theorem dX4_counted_96 : decode cX4_counted 96 = .ok (.ireturn, 1) := by decide +kernel
theorem dX4_counted_97 : decode cX4_counted 97 = .ok (.aload_n 0, 1) := by decide +kernel
theorem dX4_counted_98 : decode cX4_counted 98 = .ok (.getfield 7, 3) := by decide +kernel
theorem dX4_counted_101 : decode cX4_counted 101 = .ok (.iconst 4, 1) := by decide +kernel
theorem dX4_counted_102 : decode cX4_counted 102 = .ok (.iload_n 1, 1) := by decide +kernel
theorem dX4_counted_103 : decode cX4_counted 103 = .ok (.iadd, 1) := by decide +kernel
theorem dX4_counted_104 : decode cX4_counted 104 = .ok (.bipush 6, 2) := by decide +kernel
theorem dX4_counted_106 : decode cX4_counted 106 = .ok (.isub, 1) := by decide +kernel
theorem dX4_counted_107 : decode cX4_counted 107 = .ok (.iaload, 1) := by decide +kernel
theorem dX4_counted_108 : decode cX4_counted 108 = .ok (.ireturn, 1) := by decide +kernel
theorem dX4_count_0 : decode cX4_count 0 = .ok (.aload_n 0, 1) := by decide +kernel
theorem dX4_count_1 : decode cX4_count 1 = .ok (.iload_n 1, 1) := by decide +kernel
theorem dX4_count_2 : decode cX4_count 2 = .ok (.iconst 0, 1) := by decide +kernel
theorem dX4_count_3 : decode cX4_count 3 = .ok (.bipush 9, 2) := by decide +kernel
theorem dX4_count_5 : decode cX4_count 5 = .ok (.invokestatic 32, 3) := by decide +kernel
theorem dX4_count_8 : decode cX4_count 8 = .ok (.ifCond .eq 7, 3) := by decide +kernel
theorem dX4_count_11 : decode cX4_count 11 = .ok (.iconst 0, 1) := by decide +kernel
theorem dX4_count_12 : decode cX4_count 12 = .ok (.goto 4, 3) := by decide +kernel
theorem dX4_count_15 : decode cX4_count 15 = .ok (.iconst 1, 1) := by decide +kernel
theorem dX4_count_16 : decode cX4_count 16 = .ok (.putfield 25, 3) := by decide +kernel
theorem dX4_count_19 : decode cX4_count 19 = .ok (.aload_n 0, 1) := by decide +kernel
theorem dX4_count_20 : decode cX4_count 20 = .ok (.getfield 25, 3) := by decide +kernel
theorem dX4_count_23 : decode cX4_count 23 = .ok (.ifCond .le 7, 3) := by decide +kernel
theorem dX4_count_26 : decode cX4_count 26 = .ok (.iconst 0, 1) := by decide +kernel
theorem dX4_count_27 : decode cX4_count 27 = .ok (.goto 8, 3) := by decide +kernel
theorem dX4_count_30 : decode cX4_count 30 = .ok (.aload_n 0, 1) := by decide +kernel
theorem dX4_count_31 : decode cX4_count 31 = .ok (.iload_n 1, 1) := by decide +kernel
theorem dX4_count_32 : decode cX4_count 32 = .ok (.invokevirtual 196, 3) := by decide +kernel
theorem dX4_count_35 : decode cX4_count 35 = .ok (.ireturn, 1) := by decide +kernel
theorem dX4_setting_0 : decode cX4_setting 0 = .ok (.aload_n 0, 1) := by decide +kernel
theorem dX4_setting_1 : decode cX4_setting 1 = .ok (.iload_n 1, 1) := by decide +kernel
theorem dX4_setting_2 : decode cX4_setting 2 = .ok (.invokestatic 134, 3) := by decide +kernel
theorem dX4_setting_5 : decode cX4_setting 5 = .ok (.ifCond .eq 7, 3) := by decide +kernel
theorem dX4_setting_8 : decode cX4_setting 8 = .ok (.iconst 0, 1) := by decide +kernel
theorem dX4_setting_9 : decode cX4_setting 9 = .ok (.goto 4, 3) := by decide +kernel
theorem dX4_setting_12 : decode cX4_setting 12 = .ok (.iconst 1, 1) := by decide +kernel
theorem dX4_setting_13 : decode cX4_setting 13 = .ok (.putfield 25, 3) := by decide +kernel
theorem dX4_setting_16 : decode cX4_setting 16 = .ok (.aload_n 0, 1) := by decide +kernel
theorem dX4_setting_17 : decode cX4_setting 17 = .ok (.getfield 25, 3) := by decide +kernel
theorem dX4_setting_20 : decode cX4_setting 20 = .ok (.ifCond .le 7, 3) := by decide +kernel
theorem dX4_setting_23 : decode cX4_setting 23 = .ok (.iconst 0, 1) := by decide +kernel
theorem dX4_setting_24 : decode cX4_setting 24 = .ok (.goto 9, 3) := by decide +kernel
theorem dX4_setting_27 : decode cX4_setting 27 = .ok (.aload_n 0, 1) := by decide +kernel
theorem dX4_setting_28 : decode cX4_setting 28 = .ok (.getfield 7, 3) := by decide +kernel
theorem dX4_setting_31 : decode cX4_setting 31 = .ok (.iload_n 1, 1) := by decide +kernel
theorem dX4_setting_32 : decode cX4_setting 32 = .ok (.iaload, 1) := by decide +kernel
theorem dX4_setting_33 : decode cX4_setting 33 = .ok (.ireturn, 1) := by decide +kernel
theorem dX4_billIn_0 : decode cX4_billIn 0 = .ok (.aload_n 0, 1) := by decide +kernel
theorem dX4_billIn_1 : decode cX4_billIn 1 = .ok (.aload_n 0, 1) := by decide +kernel
theorem dX4_billIn_2 : decode cX4_billIn 2 = .ok (.iload_n 1, 1) := by decide +kernel
theorem dX4_billIn_3 : decode cX4_billIn 3 = .ok (.invokevirtual 67, 3) := by decide +kernel
theorem dX4_billIn_6 : decode cX4_billIn 6 = .ok (.ifCond .ne 7, 3) := by decide +kernel
theorem dX4_billIn_9 : decode cX4_billIn 9 = .ok (.iconst 1, 1) := by decide +kernel
theorem dX4_billIn_10 : decode cX4_billIn 10 = .ok (.goto 19, 3) := by decide +kernel
theorem dX4_billIn_13 : decode cX4_billIn 13 = .ok (.iload_n 2, 1) := by decide +kernel
theorem dX4_billIn_14 : decode cX4_billIn 14 = .ok (.iconst 0, 1) := by decide +kernel
theorem dX4_billIn_15 : decode cX4_billIn 15 = .ok (.sipush 200, 3) := by decide +kernel
theorem dX4_billIn_18 : decode cX4_billIn 18 = .ok (.invokestatic 32, 3) := by decide +kernel
theorem dX4_billIn_21 : decode cX4_billIn 21 = .ok (.ifCond .eq 7, 3) := by decide +kernel
theorem dX4_billIn_24 : decode cX4_billIn 24 = .ok (.iconst 0, 1) := by decide +kernel
theorem dX4_billIn_25 : decode cX4_billIn 25 = .ok (.goto 4, 3) := by decide +kernel
theorem dX4_billIn_28 : decode cX4_billIn 28 = .ok (.iconst 2, 1) := by decide +kernel
theorem dX4_billIn_29 : decode cX4_billIn 29 = .ok (.putfield 25, 3) := by decide +kernel
theorem dX4_billIn_32 : decode cX4_billIn 32 = .ok (.aload_n 0, 1) := by decide +kernel
theorem dX4_billIn_33 : decode cX4_billIn 33 = .ok (.getfield 25, 3) := by decide +kernel
theorem dX4_billIn_36 : decode cX4_billIn 36 = .ok (.ifCond .le 7, 3) := by decide +kernel
theorem dX4_billIn_39 : decode cX4_billIn 39 = .ok (.iconst 0, 1) := by decide +kernel
theorem dX4_billIn_40 : decode cX4_billIn 40 = .ok (.goto 9, 3) := by decide +kernel
theorem dX4_billIn_43 : decode cX4_billIn 43 = .ok (.aload_n 0, 1) := by decide +kernel
theorem dX4_billIn_44 : decode cX4_billIn 44 = .ok (.iload_n 1, 1) := by decide +kernel
theorem dX4_billIn_45 : decode cX4_billIn 45 = .ok (.iload_n 2, 1) := by decide +kernel
theorem dX4_billIn_46 : decode cX4_billIn 46 = .ok (.invokevirtual 89, 3) := by decide +kernel
theorem dX4_billIn_49 : decode cX4_billIn 49 = .ok (.ireturn, 1) := by decide +kernel
theorem dX4_splitNow_0 : decode cX4_splitNow 0 = .ok (.iconst 0, 1) := by decide +kernel
theorem dX4_splitNow_1 : decode cX4_splitNow 1 = .ok (.istore 4, 2) := by decide +kernel
theorem dX4_splitNow_3 : decode cX4_splitNow 3 = .ok (.iconst 0, 1) := by decide +kernel
theorem dX4_splitNow_4 : decode cX4_splitNow 4 = .ok (.istore 5, 2) := by decide +kernel
theorem dX4_splitNow_6 : decode cX4_splitNow 6 = .ok (.iload 5, 2) := by decide +kernel
theorem dX4_splitNow_8 : decode cX4_splitNow 8 = .ok (.iconst 3, 1) := by decide +kernel
theorem dX4_splitNow_9 : decode cX4_splitNow 9 = .ok (.if_icmp .ge 40, 3) := by decide +kernel
theorem dX4_splitNow_12 : decode cX4_splitNow 12 = .ok (.iload 4, 2) := by decide +kernel
theorem dX4_splitNow_14 : decode cX4_splitNow 14 = .ok (.aload_n 0, 1) := by decide +kernel
theorem dX4_splitNow_15 : decode cX4_splitNow 15 = .ok (.iload_n 1, 1) := by decide +kernel
theorem dX4_splitNow_16 : decode cX4_splitNow 16 = .ok (.bipush 6, 2) := by decide +kernel
theorem dX4_splitNow_18 : decode cX4_splitNow 18 = .ok (.iload 5, 2) := by decide +kernel
theorem dX4_splitNow_20 : decode cX4_splitNow 20 = .ok (.iadd, 1) := by decide +kernel
theorem dX4_splitNow_21 : decode cX4_splitNow 21 = .ok (.invokevirtual 36, 3) := by decide +kernel
theorem dX4_splitNow_24 : decode cX4_splitNow 24 = .ok (.iload_n 3, 1) := by decide +kernel
theorem dX4_splitNow_25 : decode cX4_splitNow 25 = .ok (.if_icmp .ne 14, 3) := by decide +kernel
theorem dX4_splitNow_28 : decode cX4_splitNow 28 = .ok (.aload_n 0, 1) := by decide +kernel
theorem dX4_splitNow_29 : decode cX4_splitNow 29 = .ok (.iload_n 1, 1) := by decide +kernel
theorem dX4_splitNow_30 : decode cX4_splitNow 30 = .ok (.iload 5, 2) := by decide +kernel
theorem dX4_splitNow_32 : decode cX4_splitNow 32 = .ok (.iload_n 2, 1) := by decide +kernel
theorem dX4_splitNow_33 : decode cX4_splitNow 33 = .ok (.invokevirtual 79, 3) := by decide +kernel
theorem dX4_splitNow_36 : decode cX4_splitNow 36 = .ok (.goto 4, 3) := by decide +kernel
theorem dX4_splitNow_39 : decode cX4_splitNow 39 = .ok (.iconst 0, 1) := by decide +kernel
theorem dX4_splitNow_40 : decode cX4_splitNow 40 = .ok (.iadd, 1) := by decide +kernel
theorem dX4_splitNow_41 : decode cX4_splitNow 41 = .ok (.istore 4, 2) := by decide +kernel
theorem dX4_splitNow_43 : decode cX4_splitNow 43 = .ok (.iinc 5 1, 3) := by decide +kernel
theorem dX4_splitNow_46 : decode cX4_splitNow 46 = .ok (.goto (-40), 3) := by decide +kernel
theorem dX4_splitNow_49 : decode cX4_splitNow 49 = .ok (.iload 4, 2) := by decide +kernel
theorem dX4_splitNow_51 : decode cX4_splitNow 51 = .ok (.ireturn, 1) := by decide +kernel
theorem dX4_splitOn_0 : decode cX4_splitOn 0 = .ok (.aload_n 0, 1) := by decide +kernel
theorem dX4_splitOn_1 : decode cX4_splitOn 1 = .ok (.aload_n 0, 1) := by decide +kernel
theorem dX4_splitOn_2 : decode cX4_splitOn 2 = .ok (.iload_n 1, 1) := by decide +kernel
theorem dX4_splitOn_3 : decode cX4_splitOn 3 = .ok (.invokevirtual 67, 3) := by decide +kernel
theorem dX4_splitOn_6 : decode cX4_splitOn 6 = .ok (.ifCond .eq 10, 3) := by decide +kernel
theorem dX4_splitOn_9 : decode cX4_splitOn 9 = .ok (.iload_n 3, 1) := by decide +kernel
theorem dX4_splitOn_10 : decode cX4_splitOn 10 = .ok (.invokestatic 100, 3) := by decide +kernel
theorem dX4_splitOn_13 : decode cX4_splitOn 13 = .ok (.ifCond .ne 7, 3) := by decide +kernel
theorem dX4_splitOn_16 : decode cX4_splitOn 16 = .ok (.iconst 1, 1) := by decide +kernel
theorem dX4_splitOn_17 : decode cX4_splitOn 17 = .ok (.goto 19, 3) := by decide +kernel
theorem dX4_splitOn_20 : decode cX4_splitOn 20 = .ok (.iload_n 2, 1) := by decide +kernel
theorem dX4_splitOn_21 : decode cX4_splitOn 21 = .ok (.iconst 0, 1) := by decide +kernel
theorem dX4_splitOn_22 : decode cX4_splitOn 22 = .ok (.sipush 9999, 3) := by decide +kernel
theorem dX4_splitOn_25 : decode cX4_splitOn 25 = .ok (.invokestatic 32, 3) := by decide +kernel
theorem dX4_splitOn_28 : decode cX4_splitOn 28 = .ok (.ifCond .eq 7, 3) := by decide +kernel
theorem dX4_splitOn_31 : decode cX4_splitOn 31 = .ok (.iconst 0, 1) := by decide +kernel
theorem dX4_splitOn_32 : decode cX4_splitOn 32 = .ok (.goto 4, 3) := by decide +kernel
theorem dX4_splitOn_35 : decode cX4_splitOn 35 = .ok (.iconst 2, 1) := by decide +kernel
theorem dX4_splitOn_36 : decode cX4_splitOn 36 = .ok (.putfield 25, 3) := by decide +kernel
theorem dX4_splitOn_39 : decode cX4_splitOn 39 = .ok (.aload_n 0, 1) := by decide +kernel
theorem dX4_splitOn_40 : decode cX4_splitOn 40 = .ok (.getfield 25, 3) := by decide +kernel
theorem dX4_splitOn_43 : decode cX4_splitOn 43 = .ok (.ifCond .le 7, 3) := by decide +kernel
theorem dX4_splitOn_46 : decode cX4_splitOn 46 = .ok (.iconst 0, 1) := by decide +kernel
theorem dX4_splitOn_47 : decode cX4_splitOn 47 = .ok (.goto 10, 3) := by decide +kernel
theorem dX4_splitOn_50 : decode cX4_splitOn 50 = .ok (.aload_n 0, 1) := by decide +kernel
theorem dX4_splitOn_51 : decode cX4_splitOn 51 = .ok (.iload_n 1, 1) := by decide +kernel
theorem dX4_splitOn_52 : decode cX4_splitOn 52 = .ok (.iload_n 2, 1) := by decide +kernel
theorem dX4_splitOn_53 : decode cX4_splitOn 53 = .ok (.iload_n 3, 1) := by decide +kernel
theorem dX4_splitOn_54 : decode cX4_splitOn 54 = .ok (.invokevirtual 199, 3) := by decide +kernel
theorem dX4_splitOn_57 : decode cX4_splitOn 57 = .ok (.ireturn, 1) := by decide +kernel
theorem dX4_oldestOn_0 : decode cX4_oldestOn 0 = .ok (.iconst (-1), 1) := by decide +kernel
theorem dX4_oldestOn_1 : decode cX4_oldestOn 1 = .ok (.istore_n 2, 1) := by decide +kernel
theorem dX4_oldestOn_2 : decode cX4_oldestOn 2 = .ok (.iconst 0, 1) := by decide +kernel
theorem dX4_oldestOn_3 : decode cX4_oldestOn 3 = .ok (.istore_n 3, 1) := by decide +kernel
theorem dX4_oldestOn_4 : decode cX4_oldestOn 4 = .ok (.iload_n 3, 1) := by decide +kernel
theorem dX4_oldestOn_5 : decode cX4_oldestOn 5 = .ok (.aload_n 0, 1) := by decide +kernel
theorem dX4_oldestOn_6 : decode cX4_oldestOn 6 = .ok (.getfield 7, 3) := by decide +kernel
theorem dX4_oldestOn_9 : decode cX4_oldestOn 9 = .ok (.iconst 3, 1) := by decide +kernel
theorem dX4_oldestOn_10 : decode cX4_oldestOn 10 = .ok (.iaload, 1) := by decide +kernel
theorem dX4_oldestOn_11 : decode cX4_oldestOn 11 = .ok (.if_icmp .ge 79, 3) := by decide +kernel
theorem dX4_oldestOn_14 : decode cX4_oldestOn 14 = .ok (.aload_n 0, 1) := by decide +kernel
theorem dX4_oldestOn_15 : decode cX4_oldestOn 15 = .ok (.iload_n 3, 1) := by decide +kernel
theorem dX4_oldestOn_16 : decode cX4_oldestOn 16 = .ok (.iconst 0, 1) := by decide +kernel
theorem dX4_oldestOn_17 : decode cX4_oldestOn 17 = .ok (.invokevirtual 36, 3) := by decide +kernel
theorem dX4_oldestOn_20 : decode cX4_oldestOn 20 = .ok (.iload_n 1, 1) := by decide +kernel
theorem dX4_oldestOn_21 : decode cX4_oldestOn 21 = .ok (.if_icmp .ne 29, 3) := by decide +kernel
theorem dX4_oldestOn_24 : decode cX4_oldestOn 24 = .ok (.aload_n 0, 1) := by decide +kernel
theorem dX4_oldestOn_25 : decode cX4_oldestOn 25 = .ok (.getfield 7, 3) := by decide +kernel
theorem dX4_oldestOn_28 : decode cX4_oldestOn 28 = .ok (.iconst 2, 1) := by decide +kernel
theorem dX4_oldestOn_29 : decode cX4_oldestOn 29 = .ok (.iaload, 1) := by decide +kernel
theorem dX4_oldestOn_30 : decode cX4_oldestOn 30 = .ok (.aload_n 0, 1) := by decide +kernel
theorem dX4_oldestOn_31 : decode cX4_oldestOn 31 = .ok (.iload_n 3, 1) := by decide +kernel
theorem dX4_oldestOn_32 : decode cX4_oldestOn 32 = .ok (.iconst 1, 1) := by decide +kernel
theorem dX4_oldestOn_33 : decode cX4_oldestOn 33 = .ok (.invokevirtual 36, 3) := by decide +kernel
theorem dX4_oldestOn_36 : decode cX4_oldestOn 36 = .ok (.isub, 1) := by decide +kernel
theorem dX4_oldestOn_37 : decode cX4_oldestOn 37 = .ok (.aload_n 0, 1) := by decide +kernel
theorem dX4_oldestOn_38 : decode cX4_oldestOn 38 = .ok (.getfield 7, 3) := by decide +kernel
theorem dX4_oldestOn_41 : decode cX4_oldestOn 41 = .ok (.iconst 0, 1) := by decide +kernel
theorem dX4_oldestOn_42 : decode cX4_oldestOn 42 = .ok (.iaload, 1) := by decide +kernel
theorem dX4_oldestOn_43 : decode cX4_oldestOn 43 = .ok (.if_icmp .lt 7, 3) := by decide +kernel
theorem dX4_oldestOn_46 : decode cX4_oldestOn 46 = .ok (.iconst 1, 1) := by decide +kernel
theorem dX4_oldestOn_47 : decode cX4_oldestOn 47 = .ok (.goto 4, 3) := by decide +kernel
theorem dX4_oldestOn_50 : decode cX4_oldestOn 50 = .ok (.iconst 0, 1) := by decide +kernel
theorem dX4_oldestOn_51 : decode cX4_oldestOn 51 = .ok (.istore 4, 2) := by decide +kernel
theorem dX4_oldestOn_53 : decode cX4_oldestOn 53 = .ok (.iload 4, 2) := by decide +kernel
theorem dX4_oldestOn_55 : decode cX4_oldestOn 55 = .ok (.ifCond .eq 27, 3) := by decide +kernel
theorem dX4_oldestOn_58 : decode cX4_oldestOn 58 = .ok (.iload_n 2, 1) := by decide +kernel
theorem dX4_oldestOn_59 : decode cX4_oldestOn 59 = .ok (.iconst (-1), 1) := by decide +kernel
theorem dX4_oldestOn_60 : decode cX4_oldestOn 60 = .ok (.if_icmp .eq 18, 3) := by decide +kernel
theorem dX4_oldestOn_63 : decode cX4_oldestOn 63 = .ok (.aload_n 0, 1) := by decide +kernel
theorem dX4_oldestOn_64 : decode cX4_oldestOn 64 = .ok (.iload_n 3, 1) := by decide +kernel
theorem dX4_oldestOn_65 : decode cX4_oldestOn 65 = .ok (.iconst 1, 1) := by decide +kernel
theorem dX4_oldestOn_66 : decode cX4_oldestOn 66 = .ok (.invokevirtual 36, 3) := by decide +kernel
theorem dX4_oldestOn_69 : decode cX4_oldestOn 69 = .ok (.aload_n 0, 1) := by decide +kernel
theorem dX4_oldestOn_70 : decode cX4_oldestOn 70 = .ok (.iload_n 2, 1) := by decide +kernel
theorem dX4_oldestOn_71 : decode cX4_oldestOn 71 = .ok (.iconst 1, 1) := by decide +kernel
theorem dX4_oldestOn_72 : decode cX4_oldestOn 72 = .ok (.invokevirtual 36, 3) := by decide +kernel
theorem dX4_oldestOn_75 : decode cX4_oldestOn 75 = .ok (.if_icmp .ge 7, 3) := by decide +kernel
theorem dX4_oldestOn_78 : decode cX4_oldestOn 78 = .ok (.iload_n 3, 1) := by decide +kernel
theorem dX4_oldestOn_79 : decode cX4_oldestOn 79 = .ok (.goto 4, 3) := by decide +kernel
theorem dX4_oldestOn_82 : decode cX4_oldestOn 82 = .ok (.iload_n 2, 1) := by decide +kernel
theorem dX4_oldestOn_83 : decode cX4_oldestOn 83 = .ok (.istore_n 2, 1) := by decide +kernel
theorem dX4_oldestOn_84 : decode cX4_oldestOn 84 = .ok (.iinc 3 1, 3) := by decide +kernel
theorem dX4_oldestOn_87 : decode cX4_oldestOn 87 = .ok (.goto (-83), 3) := by decide +kernel
theorem dX4_oldestOn_90 : decode cX4_oldestOn 90 = .ok (.iload_n 2, 1) := by decide +kernel
theorem dX4_oldestOn_91 : decode cX4_oldestOn 91 = .ok (.ireturn, 1) := by decide +kernel
theorem dX4_oldest_0 : decode cX4_oldest 0 = .ok (.aload_n 0, 1) := by decide +kernel
theorem dX4_oldest_1 : decode cX4_oldest 1 = .ok (.iload_n 1, 1) := by decide +kernel
theorem dX4_oldest_2 : decode cX4_oldest 2 = .ok (.invokestatic 100, 3) := by decide +kernel
theorem dX4_oldest_5 : decode cX4_oldest 5 = .ok (.ifCond .eq 7, 3) := by decide +kernel
theorem dX4_oldest_8 : decode cX4_oldest 8 = .ok (.iconst 0, 1) := by decide +kernel
theorem dX4_oldest_9 : decode cX4_oldest 9 = .ok (.goto 4, 3) := by decide +kernel
theorem dX4_oldest_12 : decode cX4_oldest 12 = .ok (.iconst 1, 1) := by decide +kernel
theorem dX4_oldest_13 : decode cX4_oldest 13 = .ok (.putfield 25, 3) := by decide +kernel
theorem dX4_oldest_16 : decode cX4_oldest 16 = .ok (.aload_n 0, 1) := by decide +kernel
theorem dX4_oldest_17 : decode cX4_oldest 17 = .ok (.getfield 25, 3) := by decide +kernel
theorem dX4_oldest_20 : decode cX4_oldest 20 = .ok (.ifCond .le 7, 3) := by decide +kernel
theorem dX4_oldest_23 : decode cX4_oldest 23 = .ok (.iconst 0, 1) := by decide +kernel
theorem dX4_oldest_24 : decode cX4_oldest 24 = .ok (.goto 8, 3) := by decide +kernel
theorem dX4_oldest_27 : decode cX4_oldest 27 = .ok (.aload_n 0, 1) := by decide +kernel
theorem dX4_oldest_28 : decode cX4_oldest 28 = .ok (.iload_n 1, 1) := by decide +kernel
theorem dX4_oldest_29 : decode cX4_oldest 29 = .ok (.invokevirtual 202, 3) := by decide +kernel
theorem dX4_oldest_32 : decode cX4_oldest 32 = .ok (.ireturn, 1) := by decide +kernel
theorem dX4_repairsThen_0 : decode cX4_repairsThen 0 = .ok (.iconst 1, 1) := by decide +kernel
theorem dX4_repairsThen_1 : decode cX4_repairsThen 1 = .ok (.istore_n 2, 1) := by decide +kernel
theorem dX4_repairsThen_2 : decode cX4_repairsThen 2 = .ok (.iconst 0, 1) := by decide +kernel
theorem dX4_repairsThen_3 : decode cX4_repairsThen 3 = .ok (.istore_n 3, 1) := by decide +kernel
theorem dX4_repairsThen_4 : decode cX4_repairsThen 4 = .ok (.iload_n 3, 1) := by decide +kernel
theorem dX4_repairsThen_5 : decode cX4_repairsThen 5 = .ok (.iconst 4, 1) := by decide +kernel
theorem dX4_repairsThen_6 : decode cX4_repairsThen 6 = .ok (.if_icmp .ge 76, 3) := by decide +kernel
theorem dX4_repairsThen_9 : decode cX4_repairsThen 9 = .ok (.iload_n 3, 1) := by decide +kernel
theorem dX4_repairsThen_10 : decode cX4_repairsThen 10 = .ok (.invokestatic 40, 3) := by decide +kernel
theorem dX4_repairsThen_13 : decode cX4_repairsThen 13 = .ok (.aload_n 0, 1) := by decide +kernel
theorem dX4_repairsThen_14 : decode cX4_repairsThen 14 = .ok (.iload_n 1, 1) := by decide +kernel
theorem dX4_repairsThen_15 : decode cX4_repairsThen 15 = .ok (.iconst 2, 1) := by decide +kernel
theorem dX4_repairsThen_16 : decode cX4_repairsThen 16 = .ok (.iload_n 3, 1) := by decide +kernel
theorem dX4_repairsThen_17 : decode cX4_repairsThen 17 = .ok (.iadd, 1) := by decide +kernel
theorem dX4_repairsThen_18 : decode cX4_repairsThen 18 = .ok (.invokevirtual 36, 3) := by decide +kernel
theorem dX4_repairsThen_21 : decode cX4_repairsThen 21 = .ok (.isub, 1) := by decide +kernel
theorem dX4_repairsThen_22 : decode cX4_repairsThen 22 = .ok (.istore 4, 2) := by decide +kernel
theorem dX4_repairsThen_24 : decode cX4_repairsThen 24 = .ok (.iload_n 2, 1) := by decide +kernel
theorem dX4_repairsThen_25 : decode cX4_repairsThen 25 = .ok (.ifCond .eq 18, 3) := by decide +kernel
theorem dX4_repairsThen_28 : decode cX4_repairsThen 28 = .ok (.iload 4, 2) := by decide +kernel
theorem dX4_repairsThen_30 : decode cX4_repairsThen 30 = .ok (.aload_n 0, 1) := by decide +kernel
theorem dX4_repairsThen_31 : decode cX4_repairsThen 31 = .ok (.getfield 22, 3) := by decide +kernel
theorem dX4_repairsThen_34 : decode cX4_repairsThen 34 = .ok (.iload_n 3, 1) := by decide +kernel
theorem dX4_repairsThen_35 : decode cX4_repairsThen 35 = .ok (.iaload, 1) := by decide +kernel
theorem dX4_repairsThen_36 : decode cX4_repairsThen 36 = .ok (.if_icmp .gt 7, 3) := by decide +kernel
theorem dX4_repairsThen_39 : decode cX4_repairsThen 39 = .ok (.iconst 1, 1) := by decide +kernel
theorem dX4_repairsThen_40 : decode cX4_repairsThen 40 = .ok (.goto 4, 3) := by decide +kernel
theorem dX4_repairsThen_43 : decode cX4_repairsThen 43 = .ok (.iconst 0, 1) := by decide +kernel
theorem dX4_repairsThen_44 : decode cX4_repairsThen 44 = .ok (.istore_n 2, 1) := by decide +kernel
theorem dX4_repairsThen_45 : decode cX4_repairsThen 45 = .ok (.aload_n 0, 1) := by decide +kernel
theorem dX4_repairsThen_46 : decode cX4_repairsThen 46 = .ok (.getfield 22, 3) := by decide +kernel
theorem dX4_repairsThen_49 : decode cX4_repairsThen 49 = .ok (.iload_n 3, 1) := by decide +kernel
theorem dX4_repairsThen_50 : decode cX4_repairsThen 50 = .ok (.dup2, 1) := by decide +kernel
theorem dX4_repairsThen_51 : decode cX4_repairsThen 51 = .ok (.iaload, 1) := by decide +kernel
theorem dX4_repairsThen_52 : decode cX4_repairsThen 52 = .ok (.iload 4, 2) := by decide +kernel
theorem dX4_repairsThen_54 : decode cX4_repairsThen 54 = .ok (.aload_n 0, 1) := by decide +kernel
theorem dX4_repairsThen_55 : decode cX4_repairsThen 55 = .ok (.getfield 22, 3) := by decide +kernel
theorem dX4_repairsThen_58 : decode cX4_repairsThen 58 = .ok (.iload_n 3, 1) := by decide +kernel
theorem dX4_repairsThen_59 : decode cX4_repairsThen 59 = .ok (.iaload, 1) := by decide +kernel
theorem dX4_repairsThen_60 : decode cX4_repairsThen 60 = .ok (.if_icmp .ge 8, 3) := by decide +kernel
theorem dX4_repairsThen_63 : decode cX4_repairsThen 63 = .ok (.iload 4, 2) := by decide +kernel
theorem dX4_repairsThen_65 : decode cX4_repairsThen 65 = .ok (.goto 9, 3) := by decide +kernel
theorem dX4_repairsThen_68 : decode cX4_repairsThen 68 = .ok (.aload_n 0, 1) := by decide +kernel
theorem dX4_repairsThen_69 : decode cX4_repairsThen 69 = .ok (.getfield 22, 3) := by decide +kernel
theorem dX4_repairsThen_72 : decode cX4_repairsThen 72 = .ok (.iload_n 3, 1) := by decide +kernel
theorem dX4_repairsThen_73 : decode cX4_repairsThen 73 = .ok (.iaload, 1) := by decide +kernel
theorem dX4_repairsThen_74 : decode cX4_repairsThen 74 = .ok (.isub, 1) := by decide +kernel
theorem dX4_repairsThen_75 : decode cX4_repairsThen 75 = .ok (.iastore, 1) := by decide +kernel
theorem dX4_repairsThen_76 : decode cX4_repairsThen 76 = .ok (.iinc 3 1, 3) := by decide +kernel
theorem dX4_repairsThen_79 : decode cX4_repairsThen 79 = .ok (.goto (-75), 3) := by decide +kernel
theorem dX4_repairsThen_82 : decode cX4_repairsThen 82 = .ok (.iload_n 2, 1) := by decide +kernel
theorem dX4_repairsThen_83 : decode cX4_repairsThen 83 = .ok (.ireturn, 1) := by decide +kernel
theorem dX4_repairedThen_0 : decode cX4_repairedThen 0 = .ok (.iconst 0, 1) := by decide +kernel
theorem dX4_repairedThen_1 : decode cX4_repairedThen 1 = .ok (.istore_n 1, 1) := by decide +kernel
theorem dX4_repairedThen_2 : decode cX4_repairedThen 2 = .ok (.iload_n 1, 1) := by decide +kernel
theorem dX4_repairedThen_3 : decode cX4_repairedThen 3 = .ok (.iconst 4, 1) := by decide +kernel
theorem dX4_repairedThen_4 : decode cX4_repairedThen 4 = .ok (.if_icmp .ge 24, 3) := by decide +kernel
theorem dX4_repairedThen_7 : decode cX4_repairedThen 7 = .ok (.aload_n 0, 1) := by decide +kernel
theorem dX4_repairedThen_8 : decode cX4_repairedThen 8 = .ok (.getfield 22, 3) := by decide +kernel
theorem dX4_repairedThen_11 : decode cX4_repairedThen 11 = .ok (.iload_n 1, 1) := by decide +kernel
theorem dX4_repairedThen_12 : decode cX4_repairedThen 12 = .ok (.aload_n 0, 1) := by decide +kernel
theorem dX4_repairedThen_13 : decode cX4_repairedThen 13 = .ok (.getfield 7, 3) := by decide +kernel
theorem dX4_repairedThen_16 : decode cX4_repairedThen 16 = .ok (.bipush 7, 2) := by decide +kernel
theorem dX4_repairedThen_18 : decode cX4_repairedThen 18 = .ok (.iload_n 1, 1) := by decide +kernel
theorem dX4_repairedThen_19 : decode cX4_repairedThen 19 = .ok (.iadd, 1) := by decide +kernel
theorem dX4_repairedThen_20 : decode cX4_repairedThen 20 = .ok (.iaload, 1) := by decide +kernel
theorem dX4_repairedThen_21 : decode cX4_repairedThen 21 = .ok (.iastore, 1) := by decide +kernel
theorem dX4_repairedThen_22 : decode cX4_repairedThen 22 = .ok (.iinc 1 1, 3) := by decide +kernel
theorem dX4_repairedThen_25 : decode cX4_repairedThen 25 = .ok (.goto (-23), 3) := by decide +kernel
theorem dX4_repairedThen_28 : decode cX4_repairedThen 28 = .ok (.iconst 0, 1) := by decide +kernel
theorem dX4_repairedThen_29 : decode cX4_repairedThen 29 = .ok (.istore_n 1, 1) := by decide +kernel
theorem dX4_repairedThen_30 : decode cX4_repairedThen 30 = .ok (.iconst 0, 1) := by decide +kernel
theorem dX4_repairedThen_31 : decode cX4_repairedThen 31 = .ok (.istore_n 2, 1) := by decide +kernel
theorem dX4_repairedThen_32 : decode cX4_repairedThen 32 = .ok (.iload_n 2, 1) := by decide +kernel
theorem dX4_repairedThen_33 : decode cX4_repairedThen 33 = .ok (.aload_n 0, 1) := by decide +kernel
theorem dX4_repairedThen_34 : decode cX4_repairedThen 34 = .ok (.getfield 7, 3) := by decide +kernel
theorem dX4_repairedThen_37 : decode cX4_repairedThen 37 = .ok (.iconst 3, 1) := by decide +kernel
theorem dX4_repairedThen_38 : decode cX4_repairedThen 38 = .ok (.iaload, 1) := by decide +kernel
theorem dX4_repairedThen_39 : decode cX4_repairedThen 39 = .ok (.if_icmp .ge 33, 3) := by decide +kernel
theorem dX4_repairedThen_42 : decode cX4_repairedThen 42 = .ok (.iload_n 1, 1) := by decide +kernel
theorem dX4_repairedThen_43 : decode cX4_repairedThen 43 = .ok (.aload_n 0, 1) := by decide +kernel
theorem dX4_repairedThen_44 : decode cX4_repairedThen 44 = .ok (.iload_n 2, 1) := by decide +kernel
theorem dX4_repairedThen_45 : decode cX4_repairedThen 45 = .ok (.invokevirtual 44, 3) := by decide +kernel
theorem dX4_repairedThen_48 : decode cX4_repairedThen 48 = .ok (.ifCond .eq 15, 3) := by decide +kernel
theorem dX4_repairedThen_51 : decode cX4_repairedThen 51 = .ok (.aload_n 0, 1) := by decide +kernel
theorem dX4_repairedThen_52 : decode cX4_repairedThen 52 = .ok (.iload_n 2, 1) := by decide +kernel
theorem dX4_repairedThen_53 : decode cX4_repairedThen 53 = .ok (.invokevirtual 205, 3) := by decide +kernel
theorem dX4_repairedThen_56 : decode cX4_repairedThen 56 = .ok (.ifCond .eq 7, 3) := by decide +kernel
theorem dX4_repairedThen_59 : decode cX4_repairedThen 59 = .ok (.iconst 1, 1) := by decide +kernel
theorem dX4_repairedThen_60 : decode cX4_repairedThen 60 = .ok (.goto 4, 3) := by decide +kernel
theorem dX4_repairedThen_63 : decode cX4_repairedThen 63 = .ok (.iconst 0, 1) := by decide +kernel
theorem dX4_repairedThen_64 : decode cX4_repairedThen 64 = .ok (.iadd, 1) := by decide +kernel
theorem dX4_repairedThen_65 : decode cX4_repairedThen 65 = .ok (.istore_n 1, 1) := by decide +kernel
theorem dX4_repairedThen_66 : decode cX4_repairedThen 66 = .ok (.iinc 2 1, 3) := by decide +kernel
theorem dX4_repairedThen_69 : decode cX4_repairedThen 69 = .ok (.goto (-37), 3) := by decide +kernel
theorem dX4_repairedThen_72 : decode cX4_repairedThen 72 = .ok (.iload_n 1, 1) := by decide +kernel
theorem dX4_repairedThen_73 : decode cX4_repairedThen 73 = .ok (.ireturn, 1) := by decide +kernel
theorem dX4_ifRepaired_0 : decode cX4_ifRepaired 0 = .ok (.aload_n 0, 1) := by decide +kernel
theorem dX4_ifRepaired_1 : decode cX4_ifRepaired 1 = .ok (.iconst 0, 1) := by decide +kernel
theorem dX4_ifRepaired_2 : decode cX4_ifRepaired 2 = .ok (.putfield 25, 3) := by decide +kernel
theorem dX4_ifRepaired_5 : decode cX4_ifRepaired 5 = .ok (.aload_n 0, 1) := by decide +kernel
theorem dX4_ifRepaired_6 : decode cX4_ifRepaired 6 = .ok (.invokevirtual 208, 3) := by decide +kernel
theorem dX4_ifRepaired_9 : decode cX4_ifRepaired 9 = .ok (.ireturn, 1) := by decide +kernel
theorem dX4_share_0 : decode cX4_share 0 = .ok (.aload_n 0, 1) := by decide +kernel
theorem dX4_share_1 : decode cX4_share 1 = .ok (.getfield 7, 3) := by decide +kernel
theorem dX4_share_4 : decode cX4_share 4 = .ok (.iconst 3, 1) := by decide +kernel
theorem dX4_share_5 : decode cX4_share 5 = .ok (.iaload, 1) := by decide +kernel
theorem dX4_share_6 : decode cX4_share 6 = .ok (.ifCond .ne 7, 3) := by decide +kernel
theorem dX4_share_9 : decode cX4_share 9 = .ok (.dconst 0, 1) := by decide +kernel
theorem dX4_share_10 : decode cX4_share 10 = .ok (.goto 24, 3) := by decide +kernel
theorem dX4_share_13 : decode cX4_share 13 = .ok (.aload_n 0, 1) := by decide +kernel
theorem dX4_share_14 : decode cX4_share 14 = .ok (.getfield 7, 3) := by decide +kernel
theorem dX4_share_17 : decode cX4_share 17 = .ok (.iconst 3, 1) := by decide +kernel
theorem dX4_share_18 : decode cX4_share 18 = .ok (.iaload, 1) := by decide +kernel
theorem dX4_share_19 : decode cX4_share 19 = .ok (.aload_n 0, 1) := by decide +kernel
theorem dX4_share_20 : decode cX4_share 20 = .ok (.iconst 0, 1) := by decide +kernel
theorem dX4_share_21 : decode cX4_share 21 = .ok (.invokevirtual 92, 3) := by decide +kernel
theorem dX4_share_24 : decode cX4_share 24 = .ok (.isub, 1) := by decide +kernel
theorem dX4_share_25 : decode cX4_share 25 = .ok (.i2d, 1) := by decide +kernel
theorem dX4_share_26 : decode cX4_share 26 = .ok (.aload_n 0, 1) := by decide +kernel
theorem dX4_share_27 : decode cX4_share 27 = .ok (.getfield 7, 3) := by decide +kernel
theorem dX4_share_30 : decode cX4_share 30 = .ok (.iconst 3, 1) := by decide +kernel
theorem dX4_share_31 : decode cX4_share 31 = .ok (.iaload, 1) := by decide +kernel
theorem dX4_share_32 : decode cX4_share 32 = .ok (.i2d, 1) := by decide +kernel
theorem dX4_share_33 : decode cX4_share 33 = .ok (.ddiv, 1) := by decide +kernel
theorem dX4_share_34 : decode cX4_share 34 = .ok (.dreturn, 1) := by decide +kernel
theorem dX4_hiredShare_0 : decode cX4_hiredShare 0 = .ok (.aload_n 0, 1) := by decide +kernel
theorem dX4_hiredShare_1 : decode cX4_hiredShare 1 = .ok (.iconst 0, 1) := by decide +kernel
theorem dX4_hiredShare_2 : decode cX4_hiredShare 2 = .ok (.putfield 25, 3) := by decide +kernel
theorem dX4_hiredShare_5 : decode cX4_hiredShare 5 = .ok (.aload_n 0, 1) := by decide +kernel
theorem dX4_hiredShare_6 : decode cX4_hiredShare 6 = .ok (.invokevirtual 211, 3) := by decide +kernel
theorem dX4_hiredShare_9 : decode cX4_hiredShare 9 = .ok (.dreturn, 1) := by decide +kernel
theorem dX4_mix_0 : decode cX4_mix 0 = .ok (.aload_n 0, 1) := by decide +kernel
theorem dX4_mix_1 : decode cX4_mix 1 = .ok (.ldc2_w 215, 3) := by decide +kernel
theorem dX4_mix_4 : decode cX4_mix 4 = .ok (.aload_n 0, 1) := by decide +kernel
theorem dX4_mix_5 : decode cX4_mix 5 = .ok (.getfield 217, 3) := by decide +kernel
theorem dX4_mix_8 : decode cX4_mix 8 = .ok (.lmul, 1) := by decide +kernel
theorem dX4_mix_9 : decode cX4_mix 9 = .ok (.lload_n 1, 1) := by decide +kernel
theorem dX4_mix_10 : decode cX4_mix 10 = .ok (.ladd, 1) := by decide +kernel
theorem dX4_mix_11 : decode cX4_mix 11 = .ok (.putfield 217, 3) := by decide +kernel
theorem dX4_mix_14 : decode cX4_mix 14 = .ok (.return_, 1) := by decide +kernel
theorem dX4_mixSet_0 : decode cX4_mixSet 0 = .ok (.iconst 0, 1) := by decide +kernel
theorem dX4_mixSet_1 : decode cX4_mixSet 1 = .ok (.istore_n 2, 1) := by decide +kernel
theorem dX4_mixSet_2 : decode cX4_mixSet 2 = .ok (.iload_n 2, 1) := by decide +kernel
theorem dX4_mixSet_3 : decode cX4_mixSet 3 = .ok (.bipush 14, 2) := by decide +kernel
theorem dX4_mixSet_5 : decode cX4_mixSet 5 = .ok (.if_icmp .ge 26, 3) := by decide +kernel
theorem dX4_mixSet_8 : decode cX4_mixSet 8 = .ok (.iload_n 2, 1) := by decide +kernel
theorem dX4_mixSet_9 : decode cX4_mixSet 9 = .ok (.bipush 9, 2) := by decide +kernel
theorem dX4_mixSet_11 : decode cX4_mixSet 11 = .ok (.if_icmp .eq 14, 3) := by decide +kernel
theorem dX4_mixSet_14 : decode cX4_mixSet 14 = .ok (.aload_n 0, 1) := by decide +kernel
theorem dX4_mixSet_15 : decode cX4_mixSet 15 = .ok (.aload_n 0, 1) := by decide +kernel
theorem dX4_mixSet_16 : decode cX4_mixSet 16 = .ok (.iload_n 1, 1) := by decide +kernel
theorem dX4_mixSet_17 : decode cX4_mixSet 17 = .ok (.iload_n 2, 1) := by decide +kernel
theorem dX4_mixSet_18 : decode cX4_mixSet 18 = .ok (.invokevirtual 175, 3) := by decide +kernel
theorem dX4_mixSet_21 : decode cX4_mixSet 21 = .ok (.i2l, 1) := by decide +kernel
theorem dX4_mixSet_22 : decode cX4_mixSet 22 = .ok (.invokevirtual 221, 3) := by decide +kernel
theorem dX4_mixSet_25 : decode cX4_mixSet 25 = .ok (.iinc 2 1, 3) := by decide +kernel
theorem dX4_mixSet_28 : decode cX4_mixSet 28 = .ok (.goto (-26), 3) := by decide +kernel
theorem dX4_mixSet_31 : decode cX4_mixSet 31 = .ok (.aload_n 0, 1) := by decide +kernel
theorem dX4_mixSet_32 : decode cX4_mixSet 32 = .ok (.aload_n 0, 1) := by decide +kernel
theorem dX4_mixSet_33 : decode cX4_mixSet 33 = .ok (.iload_n 1, 1) := by decide +kernel
theorem dX4_mixSet_34 : decode cX4_mixSet 34 = .ok (.bipush 30, 2) := by decide +kernel
theorem dX4_mixSet_36 : decode cX4_mixSet 36 = .ok (.invokevirtual 89, 3) := by decide +kernel
theorem dX4_mixSet_39 : decode cX4_mixSet 39 = .ok (.i2l, 1) := by decide +kernel
theorem dX4_mixSet_40 : decode cX4_mixSet 40 = .ok (.invokevirtual 221, 3) := by decide +kernel
theorem dX4_mixSet_43 : decode cX4_mixSet 43 = .ok (.iconst 0, 1) := by decide +kernel
theorem dX4_mixSet_44 : decode cX4_mixSet 44 = .ok (.istore_n 2, 1) := by decide +kernel
theorem dX4_mixSet_45 : decode cX4_mixSet 45 = .ok (.iload_n 2, 1) := by decide +kernel
theorem dX4_mixSet_46 : decode cX4_mixSet 46 = .ok (.bipush 6, 2) := by decide +kernel
theorem dX4_mixSet_48 : decode cX4_mixSet 48 = .ok (.if_icmp .ge 22, 3) := by decide +kernel
theorem dX4_mixSet_51 : decode cX4_mixSet 51 = .ok (.aload_n 0, 1) := by decide +kernel
theorem dX4_mixSet_52 : decode cX4_mixSet 52 = .ok (.aload_n 0, 1) := by decide +kernel
theorem dX4_mixSet_53 : decode cX4_mixSet 53 = .ok (.iload_n 1, 1) := by decide +kernel
theorem dX4_mixSet_54 : decode cX4_mixSet 54 = .ok (.bipush 100, 2) := by decide +kernel
theorem dX4_mixSet_56 : decode cX4_mixSet 56 = .ok (.iload_n 2, 1) := by decide +kernel
theorem dX4_mixSet_57 : decode cX4_mixSet 57 = .ok (.invokevirtual 199, 3) := by decide +kernel
theorem dX4_mixSet_60 : decode cX4_mixSet 60 = .ok (.i2l, 1) := by decide +kernel
theorem dX4_mixSet_61 : decode cX4_mixSet 61 = .ok (.invokevirtual 221, 3) := by decide +kernel
theorem dX4_mixSet_64 : decode cX4_mixSet 64 = .ok (.iinc 2 1, 3) := by decide +kernel
theorem dX4_mixSet_67 : decode cX4_mixSet 67 = .ok (.goto (-22), 3) := by decide +kernel
theorem dX4_mixSet_70 : decode cX4_mixSet 70 = .ok (.return_, 1) := by decide +kernel
theorem dX4_digest_0 : decode cX4_digest 0 = .ok (.aload_n 0, 1) := by decide +kernel
theorem dX4_digest_1 : decode cX4_digest 1 = .ok (.iconst 0, 1) := by decide +kernel
theorem dX4_digest_2 : decode cX4_digest 2 = .ok (.putfield 25, 3) := by decide +kernel
theorem dX4_digest_5 : decode cX4_digest 5 = .ok (.aload_n 0, 1) := by decide +kernel
theorem dX4_digest_6 : decode cX4_digest 6 = .ok (.ldc2_w 225, 3) := by decide +kernel
theorem dX4_digest_9 : decode cX4_digest 9 = .ok (.putfield 217, 3) := by decide +kernel
theorem dX4_digest_12 : decode cX4_digest 12 = .ok (.iconst 0, 1) := by decide +kernel
theorem dX4_digest_13 : decode cX4_digest 13 = .ok (.istore_n 1, 1) := by decide +kernel
theorem dX4_digest_14 : decode cX4_digest 14 = .ok (.iload_n 1, 1) := by decide +kernel
theorem dX4_digest_15 : decode cX4_digest 15 = .ok (.bipush 10, 2) := by decide +kernel
theorem dX4_digest_17 : decode cX4_digest 17 = .ok (.if_icmp .ge 19, 3) := by decide +kernel
theorem dX4_digest_20 : decode cX4_digest 20 = .ok (.aload_n 0, 1) := by decide +kernel
theorem dX4_digest_21 : decode cX4_digest 21 = .ok (.aload_n 0, 1) := by decide +kernel
theorem dX4_digest_22 : decode cX4_digest 22 = .ok (.iload_n 1, 1) := by decide +kernel
theorem dX4_digest_23 : decode cX4_digest 23 = .ok (.invokevirtual 196, 3) := by decide +kernel
theorem dX4_digest_26 : decode cX4_digest 26 = .ok (.i2l, 1) := by decide +kernel
theorem dX4_digest_27 : decode cX4_digest 27 = .ok (.invokevirtual 221, 3) := by decide +kernel
theorem dX4_digest_30 : decode cX4_digest 30 = .ok (.iinc 1 1, 3) := by decide +kernel
theorem dX4_digest_33 : decode cX4_digest 33 = .ok (.goto (-19), 3) := by decide +kernel
theorem dX4_digest_36 : decode cX4_digest 36 = .ok (.aload_n 0, 1) := by decide +kernel
theorem dX4_digest_37 : decode cX4_digest 37 = .ok (.aload_n 0, 1) := by decide +kernel
theorem dX4_digest_38 : decode cX4_digest 38 = .ok (.getfield 7, 3) := by decide +kernel
theorem dX4_digest_41 : decode cX4_digest 41 = .ok (.iconst 0, 1) := by decide +kernel
theorem dX4_digest_42 : decode cX4_digest 42 = .ok (.iaload, 1) := by decide +kernel
theorem dX4_digest_43 : decode cX4_digest 43 = .ok (.i2l, 1) := by decide +kernel
theorem dX4_digest_44 : decode cX4_digest 44 = .ok (.invokevirtual 221, 3) := by decide +kernel
theorem dX4_digest_47 : decode cX4_digest 47 = .ok (.aload_n 0, 1) := by decide +kernel
theorem dX4_digest_48 : decode cX4_digest 48 = .ok (.aload_n 0, 1) := by decide +kernel
theorem dX4_digest_49 : decode cX4_digest 49 = .ok (.getfield 7, 3) := by decide +kernel
theorem dX4_digest_52 : decode cX4_digest 52 = .ok (.iconst 1, 1) := by decide +kernel
theorem dX4_digest_53 : decode cX4_digest 53 = .ok (.iaload, 1) := by decide +kernel
theorem dX4_digest_54 : decode cX4_digest 54 = .ok (.i2l, 1) := by decide +kernel
theorem dX4_digest_55 : decode cX4_digest 55 = .ok (.invokevirtual 221, 3) := by decide +kernel
theorem dX4_digest_58 : decode cX4_digest 58 = .ok (.iconst 0, 1) := by decide +kernel
theorem dX4_digest_59 : decode cX4_digest 59 = .ok (.istore_n 1, 1) := by decide +kernel
theorem dX4_digest_60 : decode cX4_digest 60 = .ok (.iload_n 1, 1) := by decide +kernel
theorem dX4_digest_61 : decode cX4_digest 61 = .ok (.aload_n 0, 1) := by decide +kernel
theorem dX4_digest_62 : decode cX4_digest 62 = .ok (.getfield 7, 3) := by decide +kernel
theorem dX4_digest_65 : decode cX4_digest 65 = .ok (.iconst 3, 1) := by decide +kernel
theorem dX4_digest_66 : decode cX4_digest 66 = .ok (.iaload, 1) := by decide +kernel
theorem dX4_digest_67 : decode cX4_digest 67 = .ok (.if_icmp .ge 14, 3) := by decide +kernel
theorem dX4_digest_70 : decode cX4_digest 70 = .ok (.aload_n 0, 1) := by decide +kernel
theorem dX4_digest_71 : decode cX4_digest 71 = .ok (.iload_n 1, 1) := by decide +kernel
theorem dX4_digest_72 : decode cX4_digest 72 = .ok (.invokevirtual 227, 3) := by decide +kernel
theorem dX4_digest_75 : decode cX4_digest 75 = .ok (.iinc 1 1, 3) := by decide +kernel
theorem dX4_digest_78 : decode cX4_digest 78 = .ok (.goto (-18), 3) := by decide +kernel
theorem dX4_digest_81 : decode cX4_digest 81 = .ok (.iconst 0, 1) := by decide +kernel
theorem dX4_digest_82 : decode cX4_digest 82 = .ok (.istore_n 1, 1) := by decide +kernel
theorem dX4_digest_83 : decode cX4_digest 83 = .ok (.iload_n 1, 1) := by decide +kernel
theorem dX4_digest_84 : decode cX4_digest 84 = .ok (.bipush 6, 2) := by decide +kernel
theorem dX4_digest_86 : decode cX4_digest 86 = .ok (.if_icmp .ge 44, 3) := by decide +kernel
theorem dX4_digest_89 : decode cX4_digest 89 = .ok (.iconst 0, 1) := by decide +kernel
theorem dX4_digest_90 : decode cX4_digest 90 = .ok (.istore_n 2, 1) := by decide +kernel
theorem dX4_digest_91 : decode cX4_digest 91 = .ok (.iload_n 2, 1) := by decide +kernel
theorem dX4_digest_92 : decode cX4_digest 92 = .ok (.bipush 8, 2) := by decide +kernel
theorem dX4_digest_94 : decode cX4_digest 94 = .ok (.if_icmp .ge 20, 3) := by decide +kernel
theorem dX4_digest_97 : decode cX4_digest 97 = .ok (.aload_n 0, 1) := by decide +kernel
theorem dX4_digest_98 : decode cX4_digest 98 = .ok (.aload_n 0, 1) := by decide +kernel
theorem dX4_digest_99 : decode cX4_digest 99 = .ok (.iload_n 1, 1) := by decide +kernel
theorem dX4_digest_100 : decode cX4_digest 100 = .ok (.iload_n 2, 1) := by decide +kernel
theorem dX4_digest_101 : decode cX4_digest 101 = .ok (.invokevirtual 181, 3) := by decide +kernel
theorem dX4_digest_104 : decode cX4_digest 104 = .ok (.i2l, 1) := by decide +kernel
theorem dX4_digest_105 : decode cX4_digest 105 = .ok (.invokevirtual 221, 3) := by decide +kernel
theorem dX4_digest_108 : decode cX4_digest 108 = .ok (.iinc 2 1, 3) := by decide +kernel
theorem dX4_digest_111 : decode cX4_digest 111 = .ok (.goto (-20), 3) := by decide +kernel
theorem dX4_digest_114 : decode cX4_digest 114 = .ok (.aload_n 0, 1) := by decide +kernel
theorem dX4_digest_115 : decode cX4_digest 115 = .ok (.aload_n 0, 1) := by decide +kernel
theorem dX4_digest_116 : decode cX4_digest 116 = .ok (.iload_n 1, 1) := by decide +kernel
theorem dX4_digest_117 : decode cX4_digest 117 = .ok (.invokevirtual 202, 3) := by decide +kernel
theorem dX4_digest_120 : decode cX4_digest 120 = .ok (.i2l, 1) := by decide +kernel
theorem dX4_digest_121 : decode cX4_digest 121 = .ok (.invokevirtual 221, 3) := by decide +kernel
theorem dX4_digest_124 : decode cX4_digest 124 = .ok (.iinc 1 1, 3) := by decide +kernel
theorem dX4_digest_127 : decode cX4_digest 127 = .ok (.goto (-44), 3) := by decide +kernel
theorem dX4_digest_130 : decode cX4_digest 130 = .ok (.iconst 0, 1) := by decide +kernel
theorem dX4_digest_131 : decode cX4_digest 131 = .ok (.istore_n 1, 1) := by decide +kernel
theorem dX4_digest_132 : decode cX4_digest 132 = .ok (.iload_n 1, 1) := by decide +kernel
theorem dX4_digest_133 : decode cX4_digest 133 = .ok (.bipush 20, 2) := by decide +kernel
theorem dX4_digest_135 : decode cX4_digest 135 = .ok (.if_icmp .ge 24, 3) := by decide +kernel
theorem dX4_digest_138 : decode cX4_digest 138 = .ok (.aload_n 0, 1) := by decide +kernel
theorem dX4_digest_139 : decode cX4_digest 139 = .ok (.aload_n 0, 1) := by decide +kernel
theorem dX4_digest_140 : decode cX4_digest 140 = .ok (.iload_n 1, 1) := by decide +kernel
theorem dX4_digest_141 : decode cX4_digest 141 = .ok (.iconst 5, 1) := by decide +kernel
theorem dX4_digest_142 : decode cX4_digest 142 = .ok (.idiv, 1) := by decide +kernel
theorem dX4_digest_143 : decode cX4_digest 143 = .ok (.iload_n 1, 1) := by decide +kernel
theorem dX4_digest_144 : decode cX4_digest 144 = .ok (.iconst 5, 1) := by decide +kernel
theorem dX4_digest_145 : decode cX4_digest 145 = .ok (.irem, 1) := by decide +kernel
theorem dX4_digest_146 : decode cX4_digest 146 = .ok (.invokevirtual 187, 3) := by decide +kernel
theorem dX4_digest_149 : decode cX4_digest 149 = .ok (.i2l, 1) := by decide +kernel
theorem dX4_digest_150 : decode cX4_digest 150 = .ok (.invokevirtual 221, 3) := by decide +kernel
theorem dX4_digest_153 : decode cX4_digest 153 = .ok (.iinc 1 1, 3) := by decide +kernel
theorem dX4_digest_156 : decode cX4_digest 156 = .ok (.goto (-24), 3) := by decide +kernel
theorem dX4_digest_159 : decode cX4_digest 159 = .ok (.aload_n 0, 1) := by decide +kernel
theorem dX4_digest_160 : decode cX4_digest 160 = .ok (.aload_n 0, 1) := by decide +kernel
theorem dX4_digest_161 : decode cX4_digest 161 = .ok (.invokevirtual 208, 3) := by decide +kernel
theorem dX4_digest_164 : decode cX4_digest 164 = .ok (.i2l, 1) := by decide +kernel
theorem dX4_digest_165 : decode cX4_digest 165 = .ok (.invokevirtual 221, 3) := by decide +kernel
theorem dX4_digest_168 : decode cX4_digest 168 = .ok (.aload_n 0, 1) := by decide +kernel
theorem dX4_digest_169 : decode cX4_digest 169 = .ok (.aload_n 0, 1) := by decide +kernel
theorem dX4_digest_170 : decode cX4_digest 170 = .ok (.invokevirtual 211, 3) := by decide +kernel
theorem dX4_digest_173 : decode cX4_digest 173 = .ok (.invokestatic 231, 3) := by decide +kernel
theorem dX4_digest_176 : decode cX4_digest 176 = .ok (.invokevirtual 221, 3) := by decide +kernel
theorem dX4_digest_179 : decode cX4_digest 179 = .ok (.aload_n 0, 1) := by decide +kernel
theorem dX4_digest_180 : decode cX4_digest 180 = .ok (.aload_n 0, 1) := by decide +kernel
theorem dX4_digest_181 : decode cX4_digest 181 = .ok (.getfield 137, 3) := by decide +kernel
theorem dX4_digest_184 : decode cX4_digest 184 = .ok (.i2l, 1) := by decide +kernel
theorem dX4_digest_185 : decode cX4_digest 185 = .ok (.invokevirtual 221, 3) := by decide +kernel
theorem dX4_digest_188 : decode cX4_digest 188 = .ok (.iconst 0, 1) := by decide +kernel
theorem dX4_digest_189 : decode cX4_digest 189 = .ok (.istore_n 1, 1) := by decide +kernel
theorem dX4_digest_190 : decode cX4_digest 190 = .ok (.iload_n 1, 1) := by decide +kernel
theorem dX4_digest_191 : decode cX4_digest 191 = .ok (.aload_n 0, 1) := by decide +kernel
theorem dX4_digest_192 : decode cX4_digest 192 = .ok (.getfield 137, 3) := by decide +kernel
theorem dX4_digest_195 : decode cX4_digest 195 = .ok (.if_icmp .ge 20, 3) := by decide +kernel
theorem dX4_digest_198 : decode cX4_digest 198 = .ok (.aload_n 0, 1) := by decide +kernel
theorem dX4_digest_199 : decode cX4_digest 199 = .ok (.aload_n 0, 1) := by decide +kernel
theorem dX4_digest_200 : decode cX4_digest 200 = .ok (.getfield 16, 3) := by decide +kernel
theorem dX4_digest_203 : decode cX4_digest 203 = .ok (.iload_n 1, 1) := by decide +kernel
theorem dX4_digest_204 : decode cX4_digest 204 = .ok (.iaload, 1) := by decide +kernel
theorem dX4_digest_205 : decode cX4_digest 205 = .ok (.i2l, 1) := by decide +kernel
theorem dX4_digest_206 : decode cX4_digest 206 = .ok (.invokevirtual 221, 3) := by decide +kernel
theorem dX4_digest_209 : decode cX4_digest 209 = .ok (.iinc 1 1, 3) := by decide +kernel
theorem dX4_digest_212 : decode cX4_digest 212 = .ok (.goto (-22), 3) := by decide +kernel
theorem dX4_digest_215 : decode cX4_digest 215 = .ok (.aload_n 0, 1) := by decide +kernel
theorem dX4_digest_216 : decode cX4_digest 216 = .ok (.getfield 217, 3) := by decide +kernel
theorem dX4_digest_219 : decode cX4_digest 219 = .ok (.lreturn, 1) := by decide +kernel
end
section
theorem dL_buySets_0 : decode cL_buySets 0 = .ok (.aload_n 2, 1) := by decide +kernel
theorem dL_buySets_1 : decode cL_buySets 1 = .ok (.iconst 0, 1) := by decide +kernel
theorem dL_buySets_2 : decode cL_buySets 2 = .ok (.aload_n 0, 1) := by decide +kernel
theorem dL_buySets_3 : decode cL_buySets 3 = .ok (.iload_n 1, 1) := by decide +kernel
theorem dL_buySets_4 : decode cL_buySets 4 = .ok (.invokevirtual 7, 3) := by decide +kernel
theorem dL_buySets_7 : decode cL_buySets 7 = .ok (.i2l, 1) := by decide +kernel
theorem dL_buySets_8 : decode cL_buySets 8 = .ok (.lastore, 1) := by decide +kernel
theorem dL_buySets_9 : decode cL_buySets 9 = .ok (.goto 9, 3) := by decide +kernel
theorem dL_buySets_12 : decode cL_buySets 12 = .ok (.astore_n 3, 1) := by decide +kernel
theorem dL_buySets_13 : decode cL_buySets 13 = .ok (.iconst 1, 1) := by decide +kernel
theorem dL_buySets_14 : decode cL_buySets 14 = .ok (.ireturn, 1) := by decide +kernel
theorem dL_buySets_15 : decode cL_buySets 15 = .ok (.astore_n 3, 1) := by decide +kernel
theorem dL_buySets_16 : decode cL_buySets 16 = .ok (.iconst 2, 1) := by decide +kernel
theorem dL_buySets_17 : decode cL_buySets 17 = .ok (.ireturn, 1) := by decide +kernel
theorem dL_buySets_18 : decode cL_buySets 18 = .ok (.iconst 0, 1) := by decide +kernel
theorem dL_buySets_19 : decode cL_buySets 19 = .ok (.ireturn, 1) := by decide +kernel
theorem dL_buySpare_0 : decode cL_buySpare 0 = .ok (.aload_n 3, 1) := by decide +kernel
theorem dL_buySpare_1 : decode cL_buySpare 1 = .ok (.iconst 0, 1) := by decide +kernel
theorem dL_buySpare_2 : decode cL_buySpare 2 = .ok (.aload_n 0, 1) := by decide +kernel
theorem dL_buySpare_3 : decode cL_buySpare 3 = .ok (.iload_n 1, 1) := by decide +kernel
theorem dL_buySpare_4 : decode cL_buySpare 4 = .ok (.iload_n 2, 1) := by decide +kernel
theorem dL_buySpare_5 : decode cL_buySpare 5 = .ok (.invokevirtual 17, 3) := by decide +kernel
theorem dL_buySpare_8 : decode cL_buySpare 8 = .ok (.i2l, 1) := by decide +kernel
theorem dL_buySpare_9 : decode cL_buySpare 9 = .ok (.lastore, 1) := by decide +kernel
theorem dL_buySpare_10 : decode cL_buySpare 10 = .ok (.goto 15, 3) := by decide +kernel
theorem dL_buySpare_13 : decode cL_buySpare 13 = .ok (.astore 4, 2) := by decide +kernel
theorem dL_buySpare_15 : decode cL_buySpare 15 = .ok (.iconst 1, 1) := by decide +kernel
theorem dL_buySpare_16 : decode cL_buySpare 16 = .ok (.ireturn, 1) := by decide +kernel
theorem dL_buySpare_17 : decode cL_buySpare 17 = .ok (.astore 4, 2) := by decide +kernel
theorem dL_buySpare_19 : decode cL_buySpare 19 = .ok (.iconst 2, 1) := by decide +kernel
theorem dL_buySpare_20 : decode cL_buySpare 20 = .ok (.ireturn, 1) := by decide +kernel
theorem dL_buySpare_21 : decode cL_buySpare 21 = .ok (.astore 4, 2) := by decide +kernel
theorem dL_buySpare_23 : decode cL_buySpare 23 = .ok (.iconst 3, 1) := by decide +kernel
theorem dL_buySpare_24 : decode cL_buySpare 24 = .ok (.ireturn, 1) := by decide +kernel
theorem dL_buySpare_25 : decode cL_buySpare 25 = .ok (.iconst 0, 1) := by decide +kernel
theorem dL_buySpare_26 : decode cL_buySpare 26 = .ok (.ireturn, 1) := by decide +kernel
theorem dL_repair_0 : decode cL_repair 0 = .ok (.aload_n 2, 1) := by decide +kernel
theorem dL_repair_1 : decode cL_repair 1 = .ok (.iconst 0, 1) := by decide +kernel
theorem dL_repair_2 : decode cL_repair 2 = .ok (.aload_n 0, 1) := by decide +kernel
theorem dL_repair_3 : decode cL_repair 3 = .ok (.iload_n 1, 1) := by decide +kernel
theorem dL_repair_4 : decode cL_repair 4 = .ok (.invokevirtual 23, 3) := by decide +kernel
theorem dL_repair_7 : decode cL_repair 7 = .ok (.i2l, 1) := by decide +kernel
theorem dL_repair_8 : decode cL_repair 8 = .ok (.lastore, 1) := by decide +kernel
theorem dL_repair_9 : decode cL_repair 9 = .ok (.goto 9, 3) := by decide +kernel
theorem dL_repair_12 : decode cL_repair 12 = .ok (.astore_n 3, 1) := by decide +kernel
theorem dL_repair_13 : decode cL_repair 13 = .ok (.iconst 1, 1) := by decide +kernel
theorem dL_repair_14 : decode cL_repair 14 = .ok (.ireturn, 1) := by decide +kernel
theorem dL_repair_15 : decode cL_repair 15 = .ok (.astore_n 3, 1) := by decide +kernel
theorem dL_repair_16 : decode cL_repair 16 = .ok (.iconst 2, 1) := by decide +kernel
theorem dL_repair_17 : decode cL_repair 17 = .ok (.ireturn, 1) := by decide +kernel
theorem dL_repair_18 : decode cL_repair 18 = .ok (.iconst 0, 1) := by decide +kernel
theorem dL_repair_19 : decode cL_repair 19 = .ok (.ireturn, 1) := by decide +kernel
theorem dL_damage_0 : decode cL_damage 0 = .ok (.aload 4, 2) := by decide +kernel
theorem dL_damage_2 : decode cL_damage 2 = .ok (.iconst 0, 1) := by decide +kernel
theorem dL_damage_3 : decode cL_damage 3 = .ok (.aload_n 0, 1) := by decide +kernel
theorem dL_damage_4 : decode cL_damage 4 = .ok (.iload_n 1, 1) := by decide +kernel
theorem dL_damage_5 : decode cL_damage 5 = .ok (.iload_n 2, 1) := by decide +kernel
theorem dL_damage_6 : decode cL_damage 6 = .ok (.iload_n 3, 1) := by decide +kernel
theorem dL_damage_7 : decode cL_damage 7 = .ok (.invokevirtual 26, 3) := by decide +kernel
theorem dL_damage_10 : decode cL_damage 10 = .ok (.i2l, 1) := by decide +kernel
theorem dL_damage_11 : decode cL_damage 11 = .ok (.lastore, 1) := by decide +kernel
theorem dL_damage_12 : decode cL_damage 12 = .ok (.goto 15, 3) := by decide +kernel
theorem dL_damage_15 : decode cL_damage 15 = .ok (.astore 5, 2) := by decide +kernel
theorem dL_damage_17 : decode cL_damage 17 = .ok (.iconst 1, 1) := by decide +kernel
theorem dL_damage_18 : decode cL_damage 18 = .ok (.ireturn, 1) := by decide +kernel
theorem dL_damage_19 : decode cL_damage 19 = .ok (.astore 5, 2) := by decide +kernel
theorem dL_damage_21 : decode cL_damage 21 = .ok (.iconst 2, 1) := by decide +kernel
theorem dL_damage_22 : decode cL_damage 22 = .ok (.ireturn, 1) := by decide +kernel
theorem dL_damage_23 : decode cL_damage 23 = .ok (.astore 5, 2) := by decide +kernel
theorem dL_damage_25 : decode cL_damage 25 = .ok (.iconst 3, 1) := by decide +kernel
theorem dL_damage_26 : decode cL_damage 26 = .ok (.ireturn, 1) := by decide +kernel
theorem dL_damage_27 : decode cL_damage 27 = .ok (.iconst 0, 1) := by decide +kernel
theorem dL_damage_28 : decode cL_damage 28 = .ok (.ireturn, 1) := by decide +kernel
theorem dL_swap_0 : decode cL_swap 0 = .ok (.aload_n 3, 1) := by decide +kernel
theorem dL_swap_1 : decode cL_swap 1 = .ok (.iconst 0, 1) := by decide +kernel
theorem dL_swap_2 : decode cL_swap 2 = .ok (.aload_n 0, 1) := by decide +kernel
theorem dL_swap_3 : decode cL_swap 3 = .ok (.iload_n 1, 1) := by decide +kernel
theorem dL_swap_4 : decode cL_swap 4 = .ok (.iload_n 2, 1) := by decide +kernel
theorem dL_swap_5 : decode cL_swap 5 = .ok (.invokevirtual 30, 3) := by decide +kernel
theorem dL_swap_8 : decode cL_swap 8 = .ok (.i2l, 1) := by decide +kernel
theorem dL_swap_9 : decode cL_swap 9 = .ok (.lastore, 1) := by decide +kernel
theorem dL_swap_10 : decode cL_swap 10 = .ok (.goto 11, 3) := by decide +kernel
theorem dL_swap_13 : decode cL_swap 13 = .ok (.astore 4, 2) := by decide +kernel
theorem dL_swap_15 : decode cL_swap 15 = .ok (.iconst 1, 1) := by decide +kernel
theorem dL_swap_16 : decode cL_swap 16 = .ok (.ireturn, 1) := by decide +kernel
theorem dL_swap_17 : decode cL_swap 17 = .ok (.astore 4, 2) := by decide +kernel
theorem dL_swap_19 : decode cL_swap 19 = .ok (.iconst 2, 1) := by decide +kernel
theorem dL_swap_20 : decode cL_swap 20 = .ok (.ireturn, 1) := by decide +kernel
theorem dL_swap_21 : decode cL_swap 21 = .ok (.iconst 0, 1) := by decide +kernel
theorem dL_swap_22 : decode cL_swap 22 = .ok (.ireturn, 1) := by decide +kernel
theorem dL_hire_0 : decode cL_hire 0 = .ok (.aload_n 3, 1) := by decide +kernel
theorem dL_hire_1 : decode cL_hire 1 = .ok (.iconst 0, 1) := by decide +kernel
theorem dL_hire_2 : decode cL_hire 2 = .ok (.aload_n 0, 1) := by decide +kernel
theorem dL_hire_3 : decode cL_hire 3 = .ok (.iload_n 1, 1) := by decide +kernel
theorem dL_hire_4 : decode cL_hire 4 = .ok (.iload_n 2, 1) := by decide +kernel
theorem dL_hire_5 : decode cL_hire 5 = .ok (.invokevirtual 33, 3) := by decide +kernel
theorem dL_hire_8 : decode cL_hire 8 = .ok (.i2l, 1) := by decide +kernel
theorem dL_hire_9 : decode cL_hire 9 = .ok (.lastore, 1) := by decide +kernel
theorem dL_hire_10 : decode cL_hire 10 = .ok (.goto 15, 3) := by decide +kernel
theorem dL_hire_13 : decode cL_hire 13 = .ok (.astore 4, 2) := by decide +kernel
theorem dL_hire_15 : decode cL_hire 15 = .ok (.iconst 1, 1) := by decide +kernel
theorem dL_hire_16 : decode cL_hire 16 = .ok (.ireturn, 1) := by decide +kernel
theorem dL_hire_17 : decode cL_hire 17 = .ok (.astore 4, 2) := by decide +kernel
theorem dL_hire_19 : decode cL_hire 19 = .ok (.iconst 2, 1) := by decide +kernel
theorem dL_hire_20 : decode cL_hire 20 = .ok (.ireturn, 1) := by decide +kernel
theorem dL_hire_21 : decode cL_hire 21 = .ok (.astore 4, 2) := by decide +kernel
theorem dL_hire_23 : decode cL_hire 23 = .ok (.iconst 3, 1) := by decide +kernel
theorem dL_hire_24 : decode cL_hire 24 = .ok (.ireturn, 1) := by decide +kernel
theorem dL_hire_25 : decode cL_hire 25 = .ok (.iconst 0, 1) := by decide +kernel
theorem dL_hire_26 : decode cL_hire 26 = .ok (.ireturn, 1) := by decide +kernel
theorem dL_moveOn_0 : decode cL_moveOn 0 = .ok (.aload_n 3, 1) := by decide +kernel
theorem dL_moveOn_1 : decode cL_moveOn 1 = .ok (.iconst 0, 1) := by decide +kernel
theorem dL_moveOn_2 : decode cL_moveOn 2 = .ok (.aload_n 0, 1) := by decide +kernel
theorem dL_moveOn_3 : decode cL_moveOn 3 = .ok (.iload_n 1, 1) := by decide +kernel
theorem dL_moveOn_4 : decode cL_moveOn 4 = .ok (.iload_n 2, 1) := by decide +kernel
theorem dL_moveOn_5 : decode cL_moveOn 5 = .ok (.invokevirtual 36, 3) := by decide +kernel
theorem dL_moveOn_8 : decode cL_moveOn 8 = .ok (.i2l, 1) := by decide +kernel
theorem dL_moveOn_9 : decode cL_moveOn 9 = .ok (.lastore, 1) := by decide +kernel
theorem dL_moveOn_10 : decode cL_moveOn 10 = .ok (.goto 11, 3) := by decide +kernel
theorem dL_moveOn_13 : decode cL_moveOn 13 = .ok (.astore 4, 2) := by decide +kernel
theorem dL_moveOn_15 : decode cL_moveOn 15 = .ok (.iconst 1, 1) := by decide +kernel
theorem dL_moveOn_16 : decode cL_moveOn 16 = .ok (.ireturn, 1) := by decide +kernel
theorem dL_moveOn_17 : decode cL_moveOn 17 = .ok (.astore 4, 2) := by decide +kernel
theorem dL_moveOn_19 : decode cL_moveOn 19 = .ok (.iconst 2, 1) := by decide +kernel
theorem dL_moveOn_20 : decode cL_moveOn 20 = .ok (.ireturn, 1) := by decide +kernel
theorem dL_moveOn_21 : decode cL_moveOn 21 = .ok (.iconst 0, 1) := by decide +kernel
theorem dL_moveOn_22 : decode cL_moveOn 22 = .ok (.ireturn, 1) := by decide +kernel
theorem dL_bring_0 : decode cL_bring 0 = .ok (.aload_n 2, 1) := by decide +kernel
theorem dL_bring_1 : decode cL_bring 1 = .ok (.iconst 0, 1) := by decide +kernel
theorem dL_bring_2 : decode cL_bring 2 = .ok (.aload_n 0, 1) := by decide +kernel
theorem dL_bring_3 : decode cL_bring 3 = .ok (.iload_n 1, 1) := by decide +kernel
theorem dL_bring_4 : decode cL_bring 4 = .ok (.invokevirtual 39, 3) := by decide +kernel
theorem dL_bring_7 : decode cL_bring 7 = .ok (.i2l, 1) := by decide +kernel
theorem dL_bring_8 : decode cL_bring 8 = .ok (.lastore, 1) := by decide +kernel
theorem dL_bring_9 : decode cL_bring 9 = .ok (.goto 9, 3) := by decide +kernel
theorem dL_bring_12 : decode cL_bring 12 = .ok (.astore_n 3, 1) := by decide +kernel
theorem dL_bring_13 : decode cL_bring 13 = .ok (.iconst 1, 1) := by decide +kernel
theorem dL_bring_14 : decode cL_bring 14 = .ok (.ireturn, 1) := by decide +kernel
theorem dL_bring_15 : decode cL_bring 15 = .ok (.astore_n 3, 1) := by decide +kernel
theorem dL_bring_16 : decode cL_bring 16 = .ok (.iconst 2, 1) := by decide +kernel
theorem dL_bring_17 : decode cL_bring 17 = .ok (.ireturn, 1) := by decide +kernel
theorem dL_bring_18 : decode cL_bring 18 = .ok (.iconst 0, 1) := by decide +kernel
theorem dL_bring_19 : decode cL_bring 19 = .ok (.ireturn, 1) := by decide +kernel
theorem dL_bringShort_0 : decode cL_bringShort 0 = .ok (.aload 4, 2) := by decide +kernel
theorem dL_bringShort_2 : decode cL_bringShort 2 = .ok (.iconst 0, 1) := by decide +kernel
theorem dL_bringShort_3 : decode cL_bringShort 3 = .ok (.aload_n 0, 1) := by decide +kernel
theorem dL_bringShort_4 : decode cL_bringShort 4 = .ok (.iload_n 1, 1) := by decide +kernel
theorem dL_bringShort_5 : decode cL_bringShort 5 = .ok (.iload_n 2, 1) := by decide +kernel
theorem dL_bringShort_6 : decode cL_bringShort 6 = .ok (.iload_n 3, 1) := by decide +kernel
theorem dL_bringShort_7 : decode cL_bringShort 7 = .ok (.invokevirtual 42, 3) := by decide +kernel
theorem dL_bringShort_10 : decode cL_bringShort 10 = .ok (.i2l, 1) := by decide +kernel
theorem dL_bringShort_11 : decode cL_bringShort 11 = .ok (.lastore, 1) := by decide +kernel
theorem dL_bringShort_12 : decode cL_bringShort 12 = .ok (.goto 15, 3) := by decide +kernel
theorem dL_bringShort_15 : decode cL_bringShort 15 = .ok (.astore 5, 2) := by decide +kernel
theorem dL_bringShort_17 : decode cL_bringShort 17 = .ok (.iconst 1, 1) := by decide +kernel
theorem dL_bringShort_18 : decode cL_bringShort 18 = .ok (.ireturn, 1) := by decide +kernel
theorem dL_bringShort_19 : decode cL_bringShort 19 = .ok (.astore 5, 2) := by decide +kernel
theorem dL_bringShort_21 : decode cL_bringShort 21 = .ok (.iconst 2, 1) := by decide +kernel
theorem dL_bringShort_22 : decode cL_bringShort 22 = .ok (.ireturn, 1) := by decide +kernel
theorem dL_bringShort_23 : decode cL_bringShort 23 = .ok (.astore 5, 2) := by decide +kernel
theorem dL_bringShort_25 : decode cL_bringShort 25 = .ok (.iconst 3, 1) := by decide +kernel
theorem dL_bringShort_26 : decode cL_bringShort 26 = .ok (.ireturn, 1) := by decide +kernel
theorem dL_bringShort_27 : decode cL_bringShort 27 = .ok (.iconst 0, 1) := by decide +kernel
theorem dL_bringShort_28 : decode cL_bringShort 28 = .ok (.ireturn, 1) := by decide +kernel
theorem dL_pay_0 : decode cL_pay 0 = .ok (.aload_n 3, 1) := by decide +kernel
theorem dL_pay_1 : decode cL_pay 1 = .ok (.iconst 0, 1) := by decide +kernel
theorem dL_pay_2 : decode cL_pay 2 = .ok (.aload_n 0, 1) := by decide +kernel
theorem dL_pay_3 : decode cL_pay 3 = .ok (.iload_n 1, 1) := by decide +kernel
theorem dL_pay_4 : decode cL_pay 4 = .ok (.iload_n 2, 1) := by decide +kernel
theorem dL_pay_5 : decode cL_pay 5 = .ok (.invokevirtual 45, 3) := by decide +kernel
theorem dL_pay_8 : decode cL_pay 8 = .ok (.i2l, 1) := by decide +kernel
theorem dL_pay_9 : decode cL_pay 9 = .ok (.lastore, 1) := by decide +kernel
theorem dL_pay_10 : decode cL_pay 10 = .ok (.goto 15, 3) := by decide +kernel
theorem dL_pay_13 : decode cL_pay 13 = .ok (.astore 4, 2) := by decide +kernel
theorem dL_pay_15 : decode cL_pay 15 = .ok (.iconst 1, 1) := by decide +kernel
theorem dL_pay_16 : decode cL_pay 16 = .ok (.ireturn, 1) := by decide +kernel
theorem dL_pay_17 : decode cL_pay 17 = .ok (.astore 4, 2) := by decide +kernel
theorem dL_pay_19 : decode cL_pay 19 = .ok (.iconst 2, 1) := by decide +kernel
theorem dL_pay_20 : decode cL_pay 20 = .ok (.ireturn, 1) := by decide +kernel
theorem dL_pay_21 : decode cL_pay 21 = .ok (.astore 4, 2) := by decide +kernel
theorem dL_pay_23 : decode cL_pay 23 = .ok (.iconst 3, 1) := by decide +kernel
theorem dL_pay_24 : decode cL_pay 24 = .ok (.ireturn, 1) := by decide +kernel
theorem dL_pay_25 : decode cL_pay 25 = .ok (.iconst 0, 1) := by decide +kernel
theorem dL_pay_26 : decode cL_pay 26 = .ok (.ireturn, 1) := by decide +kernel
theorem dL_pass_0 : decode cL_pass 0 = .ok (.aload_n 2, 1) := by decide +kernel
theorem dL_pass_1 : decode cL_pass 1 = .ok (.iconst 0, 1) := by decide +kernel
theorem dL_pass_2 : decode cL_pass 2 = .ok (.aload_n 0, 1) := by decide +kernel
theorem dL_pass_3 : decode cL_pass 3 = .ok (.iload_n 1, 1) := by decide +kernel
theorem dL_pass_4 : decode cL_pass 4 = .ok (.invokevirtual 48, 3) := by decide +kernel
theorem dL_pass_7 : decode cL_pass 7 = .ok (.i2l, 1) := by decide +kernel
theorem dL_pass_8 : decode cL_pass 8 = .ok (.lastore, 1) := by decide +kernel
theorem dL_pass_9 : decode cL_pass 9 = .ok (.goto 9, 3) := by decide +kernel
theorem dL_pass_12 : decode cL_pass 12 = .ok (.astore_n 3, 1) := by decide +kernel
theorem dL_pass_13 : decode cL_pass 13 = .ok (.iconst 1, 1) := by decide +kernel
theorem dL_pass_14 : decode cL_pass 14 = .ok (.ireturn, 1) := by decide +kernel
theorem dL_pass_15 : decode cL_pass 15 = .ok (.astore_n 3, 1) := by decide +kernel
theorem dL_pass_16 : decode cL_pass 16 = .ok (.iconst 2, 1) := by decide +kernel
theorem dL_pass_17 : decode cL_pass 17 = .ok (.ireturn, 1) := by decide +kernel
theorem dL_pass_18 : decode cL_pass 18 = .ok (.iconst 0, 1) := by decide +kernel
theorem dL_pass_19 : decode cL_pass 19 = .ok (.ireturn, 1) := by decide +kernel
theorem dL_set_0 : decode cL_set 0 = .ok (.aload_n 3, 1) := by decide +kernel
theorem dL_set_1 : decode cL_set 1 = .ok (.iconst 0, 1) := by decide +kernel
theorem dL_set_2 : decode cL_set 2 = .ok (.aload_n 0, 1) := by decide +kernel
theorem dL_set_3 : decode cL_set 3 = .ok (.iload_n 1, 1) := by decide +kernel
theorem dL_set_4 : decode cL_set 4 = .ok (.iload_n 2, 1) := by decide +kernel
theorem dL_set_5 : decode cL_set 5 = .ok (.invokevirtual 51, 3) := by decide +kernel
theorem dL_set_8 : decode cL_set 8 = .ok (.i2l, 1) := by decide +kernel
theorem dL_set_9 : decode cL_set 9 = .ok (.lastore, 1) := by decide +kernel
theorem dL_set_10 : decode cL_set 10 = .ok (.goto 11, 3) := by decide +kernel
theorem dL_set_13 : decode cL_set 13 = .ok (.astore 4, 2) := by decide +kernel
theorem dL_set_15 : decode cL_set 15 = .ok (.iconst 1, 1) := by decide +kernel
theorem dL_set_16 : decode cL_set 16 = .ok (.ireturn, 1) := by decide +kernel
theorem dL_set_17 : decode cL_set 17 = .ok (.astore 4, 2) := by decide +kernel
theorem dL_set_19 : decode cL_set 19 = .ok (.iconst 2, 1) := by decide +kernel
theorem dL_set_20 : decode cL_set 20 = .ok (.ireturn, 1) := by decide +kernel
theorem dL_set_21 : decode cL_set 21 = .ok (.iconst 0, 1) := by decide +kernel
theorem dL_set_22 : decode cL_set 22 = .ok (.ireturn, 1) := by decide +kernel
theorem dL_append_0 : decode cL_append 0 = .ok (.aload_n 2, 1) := by decide +kernel
theorem dL_append_1 : decode cL_append 1 = .ok (.iconst 0, 1) := by decide +kernel
theorem dL_append_2 : decode cL_append 2 = .ok (.aload_n 0, 1) := by decide +kernel
theorem dL_append_3 : decode cL_append 3 = .ok (.iload_n 1, 1) := by decide +kernel
theorem dL_append_4 : decode cL_append 4 = .ok (.invokevirtual 54, 3) := by decide +kernel
theorem dL_append_7 : decode cL_append 7 = .ok (.i2l, 1) := by decide +kernel
theorem dL_append_8 : decode cL_append 8 = .ok (.lastore, 1) := by decide +kernel
theorem dL_append_9 : decode cL_append 9 = .ok (.goto 9, 3) := by decide +kernel
theorem dL_append_12 : decode cL_append 12 = .ok (.astore_n 3, 1) := by decide +kernel
theorem dL_append_13 : decode cL_append 13 = .ok (.iconst 1, 1) := by decide +kernel
theorem dL_append_14 : decode cL_append 14 = .ok (.ireturn, 1) := by decide +kernel
theorem dL_append_15 : decode cL_append 15 = .ok (.astore_n 3, 1) := by decide +kernel
theorem dL_append_16 : decode cL_append 16 = .ok (.iconst 2, 1) := by decide +kernel
theorem dL_append_17 : decode cL_append 17 = .ok (.ireturn, 1) := by decide +kernel
theorem dL_append_18 : decode cL_append 18 = .ok (.iconst 0, 1) := by decide +kernel
theorem dL_append_19 : decode cL_append 19 = .ok (.ireturn, 1) := by decide +kernel
theorem dL_run_0 : decode cL_run 0 = .ok (.aload_n 1, 1) := by decide +kernel
theorem dL_run_1 : decode cL_run 1 = .ok (.iconst 0, 1) := by decide +kernel
theorem dL_run_2 : decode cL_run 2 = .ok (.aload_n 0, 1) := by decide +kernel
theorem dL_run_3 : decode cL_run 3 = .ok (.invokevirtual 57, 3) := by decide +kernel
theorem dL_run_6 : decode cL_run 6 = .ok (.i2l, 1) := by decide +kernel
theorem dL_run_7 : decode cL_run 7 = .ok (.lastore, 1) := by decide +kernel
theorem dL_run_8 : decode cL_run 8 = .ok (.goto 6, 3) := by decide +kernel
theorem dL_run_11 : decode cL_run 11 = .ok (.astore_n 2, 1) := by decide +kernel
theorem dL_run_12 : decode cL_run 12 = .ok (.iconst 1, 1) := by decide +kernel
theorem dL_run_13 : decode cL_run 13 = .ok (.ireturn, 1) := by decide +kernel
theorem dL_run_14 : decode cL_run 14 = .ok (.iconst 0, 1) := by decide +kernel
theorem dL_run_15 : decode cL_run 15 = .ok (.ireturn, 1) := by decide +kernel
theorem dL_undo_0 : decode cL_undo 0 = .ok (.aload_n 1, 1) := by decide +kernel
theorem dL_undo_1 : decode cL_undo 1 = .ok (.iconst 0, 1) := by decide +kernel
theorem dL_undo_2 : decode cL_undo 2 = .ok (.aload_n 0, 1) := by decide +kernel
theorem dL_undo_3 : decode cL_undo 3 = .ok (.invokevirtual 61, 3) := by decide +kernel
theorem dL_undo_6 : decode cL_undo 6 = .ok (.i2l, 1) := by decide +kernel
theorem dL_undo_7 : decode cL_undo 7 = .ok (.lastore, 1) := by decide +kernel
theorem dL_undo_8 : decode cL_undo 8 = .ok (.goto 6, 3) := by decide +kernel
theorem dL_undo_11 : decode cL_undo 11 = .ok (.astore_n 2, 1) := by decide +kernel
theorem dL_undo_12 : decode cL_undo 12 = .ok (.iconst 1, 1) := by decide +kernel
theorem dL_undo_13 : decode cL_undo 13 = .ok (.ireturn, 1) := by decide +kernel
theorem dL_undo_14 : decode cL_undo 14 = .ok (.iconst 0, 1) := by decide +kernel
theorem dL_undo_15 : decode cL_undo 15 = .ok (.ireturn, 1) := by decide +kernel
theorem dL_bundle_0 : decode cL_bundle 0 = .ok (.aload_n 3, 1) := by decide +kernel
theorem dL_bundle_1 : decode cL_bundle 1 = .ok (.iconst 0, 1) := by decide +kernel
theorem dL_bundle_2 : decode cL_bundle 2 = .ok (.aload_n 0, 1) := by decide +kernel
theorem dL_bundle_3 : decode cL_bundle 3 = .ok (.iload_n 1, 1) := by decide +kernel
theorem dL_bundle_4 : decode cL_bundle 4 = .ok (.iload_n 2, 1) := by decide +kernel
theorem dL_bundle_5 : decode cL_bundle 5 = .ok (.invokevirtual 64, 3) := by decide +kernel
theorem dL_bundle_8 : decode cL_bundle 8 = .ok (.i2l, 1) := by decide +kernel
theorem dL_bundle_9 : decode cL_bundle 9 = .ok (.lastore, 1) := by decide +kernel
theorem dL_bundle_10 : decode cL_bundle 10 = .ok (.goto 11, 3) := by decide +kernel
theorem dL_bundle_13 : decode cL_bundle 13 = .ok (.astore 4, 2) := by decide +kernel
theorem dL_bundle_15 : decode cL_bundle 15 = .ok (.iconst 1, 1) := by decide +kernel
theorem dL_bundle_16 : decode cL_bundle 16 = .ok (.ireturn, 1) := by decide +kernel
theorem dL_bundle_17 : decode cL_bundle 17 = .ok (.astore 4, 2) := by decide +kernel
theorem dL_bundle_19 : decode cL_bundle 19 = .ok (.iconst 2, 1) := by decide +kernel
theorem dL_bundle_20 : decode cL_bundle 20 = .ok (.ireturn, 1) := by decide +kernel
theorem dL_bundle_21 : decode cL_bundle 21 = .ok (.iconst 0, 1) := by decide +kernel
theorem dL_bundle_22 : decode cL_bundle 22 = .ok (.ireturn, 1) := by decide +kernel
theorem dL_site_0 : decode cL_site 0 = .ok (.aload_n 3, 1) := by decide +kernel
theorem dL_site_1 : decode cL_site 1 = .ok (.iconst 0, 1) := by decide +kernel
theorem dL_site_2 : decode cL_site 2 = .ok (.aload_n 0, 1) := by decide +kernel
theorem dL_site_3 : decode cL_site 3 = .ok (.iload_n 1, 1) := by decide +kernel
theorem dL_site_4 : decode cL_site 4 = .ok (.iload_n 2, 1) := by decide +kernel
theorem dL_site_5 : decode cL_site 5 = .ok (.invokevirtual 67, 3) := by decide +kernel
theorem dL_site_8 : decode cL_site 8 = .ok (.i2l, 1) := by decide +kernel
theorem dL_site_9 : decode cL_site 9 = .ok (.lastore, 1) := by decide +kernel
theorem dL_site_10 : decode cL_site 10 = .ok (.goto 11, 3) := by decide +kernel
theorem dL_site_13 : decode cL_site 13 = .ok (.astore 4, 2) := by decide +kernel
theorem dL_site_15 : decode cL_site 15 = .ok (.iconst 1, 1) := by decide +kernel
theorem dL_site_16 : decode cL_site 16 = .ok (.ireturn, 1) := by decide +kernel
theorem dL_site_17 : decode cL_site 17 = .ok (.astore 4, 2) := by decide +kernel
theorem dL_site_19 : decode cL_site 19 = .ok (.iconst 2, 1) := by decide +kernel
theorem dL_site_20 : decode cL_site 20 = .ok (.ireturn, 1) := by decide +kernel
theorem dL_site_21 : decode cL_site 21 = .ok (.iconst 0, 1) := by decide +kernel
theorem dL_site_22 : decode cL_site 22 = .ok (.ireturn, 1) := by decide +kernel
theorem dL_parts_0 : decode cL_parts 0 = .ok (.aload_n 3, 1) := by decide +kernel
theorem dL_parts_1 : decode cL_parts 1 = .ok (.iconst 0, 1) := by decide +kernel
theorem dL_parts_2 : decode cL_parts 2 = .ok (.aload_n 0, 1) := by decide +kernel
theorem dL_parts_3 : decode cL_parts 3 = .ok (.iload_n 1, 1) := by decide +kernel
theorem dL_parts_4 : decode cL_parts 4 = .ok (.iload_n 2, 1) := by decide +kernel
theorem dL_parts_5 : decode cL_parts 5 = .ok (.invokevirtual 70, 3) := by decide +kernel
theorem dL_parts_8 : decode cL_parts 8 = .ok (.i2l, 1) := by decide +kernel
theorem dL_parts_9 : decode cL_parts 9 = .ok (.lastore, 1) := by decide +kernel
theorem dL_parts_10 : decode cL_parts 10 = .ok (.goto 11, 3) := by decide +kernel
theorem dL_parts_13 : decode cL_parts 13 = .ok (.astore 4, 2) := by decide +kernel
theorem dL_parts_15 : decode cL_parts 15 = .ok (.iconst 1, 1) := by decide +kernel
theorem dL_parts_16 : decode cL_parts 16 = .ok (.ireturn, 1) := by decide +kernel
theorem dL_parts_17 : decode cL_parts 17 = .ok (.astore 4, 2) := by decide +kernel
theorem dL_parts_19 : decode cL_parts 19 = .ok (.iconst 2, 1) := by decide +kernel
theorem dL_parts_20 : decode cL_parts 20 = .ok (.ireturn, 1) := by decide +kernel
theorem dL_parts_21 : decode cL_parts 21 = .ok (.iconst 0, 1) := by decide +kernel
theorem dL_parts_22 : decode cL_parts 22 = .ok (.ireturn, 1) := by decide +kernel
theorem dL_count_0 : decode cL_count 0 = .ok (.aload_n 2, 1) := by decide +kernel
theorem dL_count_1 : decode cL_count 1 = .ok (.iconst 0, 1) := by decide +kernel
theorem dL_count_2 : decode cL_count 2 = .ok (.aload_n 0, 1) := by decide +kernel
theorem dL_count_3 : decode cL_count 3 = .ok (.iload_n 1, 1) := by decide +kernel
theorem dL_count_4 : decode cL_count 4 = .ok (.invokevirtual 73, 3) := by decide +kernel
theorem dL_count_7 : decode cL_count 7 = .ok (.i2l, 1) := by decide +kernel
theorem dL_count_8 : decode cL_count 8 = .ok (.lastore, 1) := by decide +kernel
theorem dL_count_9 : decode cL_count 9 = .ok (.goto 6, 3) := by decide +kernel
theorem dL_count_12 : decode cL_count 12 = .ok (.astore_n 3, 1) := by decide +kernel
theorem dL_count_13 : decode cL_count 13 = .ok (.iconst 1, 1) := by decide +kernel
theorem dL_count_14 : decode cL_count 14 = .ok (.ireturn, 1) := by decide +kernel
theorem dL_count_15 : decode cL_count 15 = .ok (.iconst 0, 1) := by decide +kernel
theorem dL_count_16 : decode cL_count 16 = .ok (.ireturn, 1) := by decide +kernel
theorem dL_setting_0 : decode cL_setting 0 = .ok (.aload_n 2, 1) := by decide +kernel
theorem dL_setting_1 : decode cL_setting 1 = .ok (.iconst 0, 1) := by decide +kernel
theorem dL_setting_2 : decode cL_setting 2 = .ok (.aload_n 0, 1) := by decide +kernel
theorem dL_setting_3 : decode cL_setting 3 = .ok (.iload_n 1, 1) := by decide +kernel
theorem dL_setting_4 : decode cL_setting 4 = .ok (.invokevirtual 76, 3) := by decide +kernel
theorem dL_setting_7 : decode cL_setting 7 = .ok (.i2l, 1) := by decide +kernel
theorem dL_setting_8 : decode cL_setting 8 = .ok (.lastore, 1) := by decide +kernel
theorem dL_setting_9 : decode cL_setting 9 = .ok (.goto 6, 3) := by decide +kernel
theorem dL_setting_12 : decode cL_setting 12 = .ok (.astore_n 3, 1) := by decide +kernel
theorem dL_setting_13 : decode cL_setting 13 = .ok (.iconst 1, 1) := by decide +kernel
theorem dL_setting_14 : decode cL_setting 14 = .ok (.ireturn, 1) := by decide +kernel
theorem dL_setting_15 : decode cL_setting 15 = .ok (.iconst 0, 1) := by decide +kernel
theorem dL_setting_16 : decode cL_setting 16 = .ok (.ireturn, 1) := by decide +kernel
theorem dL_billIn_0 : decode cL_billIn 0 = .ok (.aload_n 3, 1) := by decide +kernel
theorem dL_billIn_1 : decode cL_billIn 1 = .ok (.iconst 0, 1) := by decide +kernel
theorem dL_billIn_2 : decode cL_billIn 2 = .ok (.aload_n 0, 1) := by decide +kernel
theorem dL_billIn_3 : decode cL_billIn 3 = .ok (.iload_n 1, 1) := by decide +kernel
theorem dL_billIn_4 : decode cL_billIn 4 = .ok (.iload_n 2, 1) := by decide +kernel
theorem dL_billIn_5 : decode cL_billIn 5 = .ok (.invokevirtual 79, 3) := by decide +kernel
theorem dL_billIn_8 : decode cL_billIn 8 = .ok (.i2l, 1) := by decide +kernel
theorem dL_billIn_9 : decode cL_billIn 9 = .ok (.lastore, 1) := by decide +kernel
theorem dL_billIn_10 : decode cL_billIn 10 = .ok (.goto 11, 3) := by decide +kernel
theorem dL_billIn_13 : decode cL_billIn 13 = .ok (.astore 4, 2) := by decide +kernel
theorem dL_billIn_15 : decode cL_billIn 15 = .ok (.iconst 1, 1) := by decide +kernel
theorem dL_billIn_16 : decode cL_billIn 16 = .ok (.ireturn, 1) := by decide +kernel
theorem dL_billIn_17 : decode cL_billIn 17 = .ok (.astore 4, 2) := by decide +kernel
theorem dL_billIn_19 : decode cL_billIn 19 = .ok (.iconst 2, 1) := by decide +kernel
theorem dL_billIn_20 : decode cL_billIn 20 = .ok (.ireturn, 1) := by decide +kernel
theorem dL_billIn_21 : decode cL_billIn 21 = .ok (.iconst 0, 1) := by decide +kernel
theorem dL_billIn_22 : decode cL_billIn 22 = .ok (.ireturn, 1) := by decide +kernel
theorem dL_splitOn_0 : decode cL_splitOn 0 = .ok (.aload 4, 2) := by decide +kernel
theorem dL_splitOn_2 : decode cL_splitOn 2 = .ok (.iconst 0, 1) := by decide +kernel
theorem dL_splitOn_3 : decode cL_splitOn 3 = .ok (.aload_n 0, 1) := by decide +kernel
theorem dL_splitOn_4 : decode cL_splitOn 4 = .ok (.iload_n 1, 1) := by decide +kernel
theorem dL_splitOn_5 : decode cL_splitOn 5 = .ok (.iload_n 2, 1) := by decide +kernel
theorem dL_splitOn_6 : decode cL_splitOn 6 = .ok (.iload_n 3, 1) := by decide +kernel
theorem dL_splitOn_7 : decode cL_splitOn 7 = .ok (.invokevirtual 82, 3) := by decide +kernel
theorem dL_splitOn_10 : decode cL_splitOn 10 = .ok (.i2l, 1) := by decide +kernel
theorem dL_splitOn_11 : decode cL_splitOn 11 = .ok (.lastore, 1) := by decide +kernel
theorem dL_splitOn_12 : decode cL_splitOn 12 = .ok (.goto 11, 3) := by decide +kernel
theorem dL_splitOn_15 : decode cL_splitOn 15 = .ok (.astore 5, 2) := by decide +kernel
theorem dL_splitOn_17 : decode cL_splitOn 17 = .ok (.iconst 1, 1) := by decide +kernel
theorem dL_splitOn_18 : decode cL_splitOn 18 = .ok (.ireturn, 1) := by decide +kernel
theorem dL_splitOn_19 : decode cL_splitOn 19 = .ok (.astore 5, 2) := by decide +kernel
theorem dL_splitOn_21 : decode cL_splitOn 21 = .ok (.iconst 2, 1) := by decide +kernel
theorem dL_splitOn_22 : decode cL_splitOn 22 = .ok (.ireturn, 1) := by decide +kernel
theorem dL_splitOn_23 : decode cL_splitOn 23 = .ok (.iconst 0, 1) := by decide +kernel
theorem dL_splitOn_24 : decode cL_splitOn 24 = .ok (.ireturn, 1) := by decide +kernel
theorem dL_oldest_0 : decode cL_oldest 0 = .ok (.aload_n 2, 1) := by decide +kernel
theorem dL_oldest_1 : decode cL_oldest 1 = .ok (.iconst 0, 1) := by decide +kernel
theorem dL_oldest_2 : decode cL_oldest 2 = .ok (.aload_n 0, 1) := by decide +kernel
theorem dL_oldest_3 : decode cL_oldest 3 = .ok (.iload_n 1, 1) := by decide +kernel
theorem dL_oldest_4 : decode cL_oldest 4 = .ok (.invokevirtual 85, 3) := by decide +kernel
theorem dL_oldest_7 : decode cL_oldest 7 = .ok (.i2l, 1) := by decide +kernel
theorem dL_oldest_8 : decode cL_oldest 8 = .ok (.lastore, 1) := by decide +kernel
theorem dL_oldest_9 : decode cL_oldest 9 = .ok (.goto 6, 3) := by decide +kernel
theorem dL_oldest_12 : decode cL_oldest 12 = .ok (.astore_n 3, 1) := by decide +kernel
theorem dL_oldest_13 : decode cL_oldest 13 = .ok (.iconst 1, 1) := by decide +kernel
theorem dL_oldest_14 : decode cL_oldest 14 = .ok (.ireturn, 1) := by decide +kernel
theorem dL_oldest_15 : decode cL_oldest 15 = .ok (.iconst 0, 1) := by decide +kernel
theorem dL_oldest_16 : decode cL_oldest 16 = .ok (.ireturn, 1) := by decide +kernel
theorem dL_law_0 : decode cL_law 0 = .ok (.new 8, 3) := by decide +kernel
theorem dL_law_3 : decode cL_law 3 = .ok (.dup, 1) := by decide +kernel
theorem dL_law_4 : decode cL_law 4 = .ok (.invokespecial 88, 3) := by decide +kernel
theorem dL_law_7 : decode cL_law 7 = .ok (.astore_n 1, 1) := by decide +kernel
theorem dL_law_8 : decode cL_law 8 = .ok (.new 89, 3) := by decide +kernel
theorem dL_law_11 : decode cL_law 11 = .ok (.dup, 1) := by decide +kernel
theorem dL_law_12 : decode cL_law 12 = .ok (.invokespecial 91, 3) := by decide +kernel
theorem dL_law_15 : decode cL_law 15 = .ok (.astore_n 2, 1) := by decide +kernel
theorem dL_law_16 : decode cL_law 16 = .ok (.iconst 1, 1) := by decide +kernel
theorem dL_law_17 : decode cL_law 17 = .ok (.newarray .long, 2) := by decide +kernel
theorem dL_law_19 : decode cL_law 19 = .ok (.astore_n 3, 1) := by decide +kernel
theorem dL_law_20 : decode cL_law 20 = .ok (.iconst 0, 1) := by decide +kernel
theorem dL_law_21 : decode cL_law 21 = .ok (.istore 4, 2) := by decide +kernel
theorem dL_law_23 : decode cL_law 23 = .ok (.iload 4, 2) := by decide +kernel
theorem dL_law_25 : decode cL_law 25 = .ok (.aload_n 0, 1) := by decide +kernel
theorem dL_law_26 : decode cL_law 26 = .ok (.arraylength, 1) := by decide +kernel
theorem dL_law_27 : decode cL_law 27 = .ok (.iconst 4, 1) := by decide +kernel
theorem dL_law_28 : decode cL_law 28 = .ok (.isub, 1) := by decide +kernel
theorem dL_law_29 : decode cL_law 29 = .ok (.if_icmp .gt 1691, 3) := by decide +kernel
theorem dL_law_32 : decode cL_law 32 = .ok (.aload_n 0, 1) := by decide +kernel
theorem dL_law_33 : decode cL_law 33 = .ok (.iload 4, 2) := by decide +kernel
theorem dL_law_35 : decode cL_law 35 = .ok (.iaload, 1) := by decide +kernel
theorem dL_law_36 : decode cL_law 36 = .ok (.bipush 31, 2) := by decide +kernel
theorem dL_law_38 : decode cL_law 38 = .ok (.iand, 1) := by decide +kernel
theorem dL_law_39 : decode cL_law 39 = .ok (.tableswitch 1675 0 27 #[125, 181, 249, 305, 385, 453, 521, 589, 645, 725, 793, 849, 917, 973, 986, 999, 1043, 1087, 1155, 1223, 1291, 1347, 1403, 1471, 1551, 1607, 1620, 1661], 125) := by decide +kernel
theorem dL_law_164 : decode cL_law 164 = .ok (.aload_n 1, 1) := by decide +kernel
theorem dL_law_165 : decode cL_law 165 = .ok (.aload_n 0, 1) := by decide +kernel
theorem dL_law_166 : decode cL_law 166 = .ok (.iload 4, 2) := by decide +kernel
theorem dL_law_168 : decode cL_law 168 = .ok (.iconst 1, 1) := by decide +kernel
theorem dL_law_169 : decode cL_law 169 = .ok (.iadd, 1) := by decide +kernel
theorem dL_law_170 : decode cL_law 170 = .ok (.iaload, 1) := by decide +kernel
theorem dL_law_171 : decode cL_law 171 = .ok (.aload_n 3, 1) := by decide +kernel
theorem dL_law_172 : decode cL_law 172 = .ok (.invokestatic 92, 3) := by decide +kernel
theorem dL_law_175 : decode cL_law 175 = .ok (.istore 5, 2) := by decide +kernel
theorem dL_law_177 : decode cL_law 177 = .ok (.aload_n 2, 1) := by decide +kernel
theorem dL_law_178 : decode cL_law 178 = .ok (.aload_n 0, 1) := by decide +kernel
theorem dL_law_179 : decode cL_law 179 = .ok (.iload 4, 2) := by decide +kernel
theorem dL_law_181 : decode cL_law 181 = .ok (.iconst 1, 1) := by decide +kernel
theorem dL_law_182 : decode cL_law 182 = .ok (.iadd, 1) := by decide +kernel
theorem dL_law_183 : decode cL_law 183 = .ok (.iaload, 1) := by decide +kernel
theorem dL_law_184 : decode cL_law 184 = .ok (.invokevirtual 97, 3) := by decide +kernel
theorem dL_law_187 : decode cL_law 187 = .ok (.istore 6, 2) := by decide +kernel
theorem dL_law_189 : decode cL_law 189 = .ok (.aload_n 2, 1) := by decide +kernel
theorem dL_law_190 : decode cL_law 190 = .ok (.invokevirtual 98, 3) := by decide +kernel
theorem dL_law_193 : decode cL_law 193 = .ok (.iload 5, 2) := by decide +kernel
theorem dL_law_195 : decode cL_law 195 = .ok (.if_icmp .eq 5, 3) := by decide +kernel
theorem dL_law_198 : decode cL_law 198 = .ok (.iconst 0, 1) := by decide +kernel
theorem dL_law_199 : decode cL_law 199 = .ok (.ireturn, 1) := by decide +kernel
theorem dL_law_200 : decode cL_law 200 = .ok (.iload 5, 2) := by decide +kernel
theorem dL_law_202 : decode cL_law 202 = .ok (.ifCond .ne 15, 3) := by decide +kernel
theorem dL_law_205 : decode cL_law 205 = .ok (.aload_n 3, 1) := by decide +kernel
theorem dL_law_206 : decode cL_law 206 = .ok (.iconst 0, 1) := by decide +kernel
theorem dL_law_207 : decode cL_law 207 = .ok (.laload, 1) := by decide +kernel
theorem dL_law_208 : decode cL_law 208 = .ok (.iload 6, 2) := by decide +kernel
theorem dL_law_210 : decode cL_law 210 = .ok (.i2l, 1) := by decide +kernel
theorem dL_law_211 : decode cL_law 211 = .ok (.lcmp, 1) := by decide +kernel
theorem dL_law_212 : decode cL_law 212 = .ok (.ifCond .eq 5, 3) := by decide +kernel
theorem dL_law_215 : decode cL_law 215 = .ok (.iconst 0, 1) := by decide +kernel
theorem dL_law_216 : decode cL_law 216 = .ok (.ireturn, 1) := by decide +kernel
theorem dL_law_217 : decode cL_law 217 = .ok (.goto 1497, 3) := by decide +kernel
theorem dL_law_220 : decode cL_law 220 = .ok (.aload_n 1, 1) := by decide +kernel
theorem dL_law_221 : decode cL_law 221 = .ok (.aload_n 0, 1) := by decide +kernel
theorem dL_law_222 : decode cL_law 222 = .ok (.iload 4, 2) := by decide +kernel
theorem dL_law_224 : decode cL_law 224 = .ok (.iconst 1, 1) := by decide +kernel
theorem dL_law_225 : decode cL_law 225 = .ok (.iadd, 1) := by decide +kernel
theorem dL_law_226 : decode cL_law 226 = .ok (.iaload, 1) := by decide +kernel
theorem dL_law_227 : decode cL_law 227 = .ok (.aload_n 0, 1) := by decide +kernel
theorem dL_law_228 : decode cL_law 228 = .ok (.iload 4, 2) := by decide +kernel
theorem dL_law_230 : decode cL_law 230 = .ok (.iconst 2, 1) := by decide +kernel
theorem dL_law_231 : decode cL_law 231 = .ok (.iadd, 1) := by decide +kernel
theorem dL_law_232 : decode cL_law 232 = .ok (.iaload, 1) := by decide +kernel
theorem dL_law_233 : decode cL_law 233 = .ok (.aload_n 3, 1) := by decide +kernel
theorem dL_law_234 : decode cL_law 234 = .ok (.invokestatic 101, 3) := by decide +kernel
theorem dL_law_237 : decode cL_law 237 = .ok (.istore 5, 2) := by decide +kernel
theorem dL_law_239 : decode cL_law 239 = .ok (.aload_n 2, 1) := by decide +kernel
theorem dL_law_240 : decode cL_law 240 = .ok (.aload_n 0, 1) := by decide +kernel
theorem dL_law_241 : decode cL_law 241 = .ok (.iload 4, 2) := by decide +kernel
theorem dL_law_243 : decode cL_law 243 = .ok (.iconst 1, 1) := by decide +kernel
theorem dL_law_244 : decode cL_law 244 = .ok (.iadd, 1) := by decide +kernel
theorem dL_law_245 : decode cL_law 245 = .ok (.iaload, 1) := by decide +kernel
theorem dL_law_246 : decode cL_law 246 = .ok (.aload_n 0, 1) := by decide +kernel
theorem dL_law_247 : decode cL_law 247 = .ok (.iload 4, 2) := by decide +kernel
theorem dL_law_249 : decode cL_law 249 = .ok (.iconst 2, 1) := by decide +kernel
theorem dL_law_250 : decode cL_law 250 = .ok (.iadd, 1) := by decide +kernel
theorem dL_law_251 : decode cL_law 251 = .ok (.iaload, 1) := by decide +kernel
theorem dL_law_252 : decode cL_law 252 = .ok (.invokevirtual 104, 3) := by decide +kernel
theorem dL_law_255 : decode cL_law 255 = .ok (.istore 6, 2) := by decide +kernel
theorem dL_law_257 : decode cL_law 257 = .ok (.aload_n 2, 1) := by decide +kernel
theorem dL_law_258 : decode cL_law 258 = .ok (.invokevirtual 98, 3) := by decide +kernel
theorem dL_law_261 : decode cL_law 261 = .ok (.iload 5, 2) := by decide +kernel
theorem dL_law_263 : decode cL_law 263 = .ok (.if_icmp .eq 5, 3) := by decide +kernel
theorem dL_law_266 : decode cL_law 266 = .ok (.iconst 0, 1) := by decide +kernel
theorem dL_law_267 : decode cL_law 267 = .ok (.ireturn, 1) := by decide +kernel
theorem dL_law_268 : decode cL_law 268 = .ok (.iload 5, 2) := by decide +kernel
theorem dL_law_270 : decode cL_law 270 = .ok (.ifCond .ne 15, 3) := by decide +kernel
theorem dL_law_273 : decode cL_law 273 = .ok (.aload_n 3, 1) := by decide +kernel
theorem dL_law_274 : decode cL_law 274 = .ok (.iconst 0, 1) := by decide +kernel
theorem dL_law_275 : decode cL_law 275 = .ok (.laload, 1) := by decide +kernel
theorem dL_law_276 : decode cL_law 276 = .ok (.iload 6, 2) := by decide +kernel
theorem dL_law_278 : decode cL_law 278 = .ok (.i2l, 1) := by decide +kernel
theorem dL_law_279 : decode cL_law 279 = .ok (.lcmp, 1) := by decide +kernel
theorem dL_law_280 : decode cL_law 280 = .ok (.ifCond .eq 5, 3) := by decide +kernel
theorem dL_law_283 : decode cL_law 283 = .ok (.iconst 0, 1) := by decide +kernel
theorem dL_law_284 : decode cL_law 284 = .ok (.ireturn, 1) := by decide +kernel
theorem dL_law_285 : decode cL_law 285 = .ok (.goto 1429, 3) := by decide +kernel
theorem dL_law_288 : decode cL_law 288 = .ok (.aload_n 1, 1) := by decide +kernel
theorem dL_law_289 : decode cL_law 289 = .ok (.aload_n 0, 1) := by decide +kernel
theorem dL_law_290 : decode cL_law 290 = .ok (.iload 4, 2) := by decide +kernel
theorem dL_law_292 : decode cL_law 292 = .ok (.iconst 1, 1) := by decide +kernel
theorem dL_law_293 : decode cL_law 293 = .ok (.iadd, 1) := by decide +kernel
theorem dL_law_294 : decode cL_law 294 = .ok (.iaload, 1) := by decide +kernel
theorem dL_law_295 : decode cL_law 295 = .ok (.aload_n 3, 1) := by decide +kernel
theorem dL_law_296 : decode cL_law 296 = .ok (.invokestatic 105, 3) := by decide +kernel
theorem dL_law_299 : decode cL_law 299 = .ok (.istore 5, 2) := by decide +kernel
theorem dL_law_301 : decode cL_law 301 = .ok (.aload_n 2, 1) := by decide +kernel
theorem dL_law_302 : decode cL_law 302 = .ok (.aload_n 0, 1) := by decide +kernel
theorem dL_law_303 : decode cL_law 303 = .ok (.iload 4, 2) := by decide +kernel
theorem dL_law_305 : decode cL_law 305 = .ok (.iconst 1, 1) := by decide +kernel
theorem dL_law_306 : decode cL_law 306 = .ok (.iadd, 1) := by decide +kernel
theorem dL_law_307 : decode cL_law 307 = .ok (.iaload, 1) := by decide +kernel
theorem dL_law_308 : decode cL_law 308 = .ok (.invokevirtual 107, 3) := by decide +kernel
theorem dL_law_311 : decode cL_law 311 = .ok (.istore 6, 2) := by decide +kernel
theorem dL_law_313 : decode cL_law 313 = .ok (.aload_n 2, 1) := by decide +kernel
theorem dL_law_314 : decode cL_law 314 = .ok (.invokevirtual 98, 3) := by decide +kernel
theorem dL_law_317 : decode cL_law 317 = .ok (.iload 5, 2) := by decide +kernel
theorem dL_law_319 : decode cL_law 319 = .ok (.if_icmp .eq 5, 3) := by decide +kernel
theorem dL_law_322 : decode cL_law 322 = .ok (.iconst 0, 1) := by decide +kernel
theorem dL_law_323 : decode cL_law 323 = .ok (.ireturn, 1) := by decide +kernel
theorem dL_law_324 : decode cL_law 324 = .ok (.iload 5, 2) := by decide +kernel
theorem dL_law_326 : decode cL_law 326 = .ok (.ifCond .ne 15, 3) := by decide +kernel
theorem dL_law_329 : decode cL_law 329 = .ok (.aload_n 3, 1) := by decide +kernel
theorem dL_law_330 : decode cL_law 330 = .ok (.iconst 0, 1) := by decide +kernel
theorem dL_law_331 : decode cL_law 331 = .ok (.laload, 1) := by decide +kernel
theorem dL_law_332 : decode cL_law 332 = .ok (.iload 6, 2) := by decide +kernel
theorem dL_law_334 : decode cL_law 334 = .ok (.i2l, 1) := by decide +kernel
theorem dL_law_335 : decode cL_law 335 = .ok (.lcmp, 1) := by decide +kernel
theorem dL_law_336 : decode cL_law 336 = .ok (.ifCond .eq 5, 3) := by decide +kernel
theorem dL_law_339 : decode cL_law 339 = .ok (.iconst 0, 1) := by decide +kernel
theorem dL_law_340 : decode cL_law 340 = .ok (.ireturn, 1) := by decide +kernel
theorem dL_law_341 : decode cL_law 341 = .ok (.goto 1373, 3) := by decide +kernel
theorem dL_law_344 : decode cL_law 344 = .ok (.aload_n 1, 1) := by decide +kernel
theorem dL_law_345 : decode cL_law 345 = .ok (.aload_n 0, 1) := by decide +kernel
theorem dL_law_346 : decode cL_law 346 = .ok (.iload 4, 2) := by decide +kernel
theorem dL_law_348 : decode cL_law 348 = .ok (.iconst 1, 1) := by decide +kernel
theorem dL_law_349 : decode cL_law 349 = .ok (.iadd, 1) := by decide +kernel
theorem dL_law_350 : decode cL_law 350 = .ok (.iaload, 1) := by decide +kernel
theorem dL_law_351 : decode cL_law 351 = .ok (.aload_n 0, 1) := by decide +kernel
theorem dL_law_352 : decode cL_law 352 = .ok (.iload 4, 2) := by decide +kernel
theorem dL_law_354 : decode cL_law 354 = .ok (.iconst 2, 1) := by decide +kernel
theorem dL_law_355 : decode cL_law 355 = .ok (.iadd, 1) := by decide +kernel
theorem dL_law_356 : decode cL_law 356 = .ok (.iaload, 1) := by decide +kernel
theorem dL_law_357 : decode cL_law 357 = .ok (.aload_n 0, 1) := by decide +kernel
theorem dL_law_358 : decode cL_law 358 = .ok (.iload 4, 2) := by decide +kernel
theorem dL_law_360 : decode cL_law 360 = .ok (.iconst 3, 1) := by decide +kernel
theorem dL_law_361 : decode cL_law 361 = .ok (.iadd, 1) := by decide +kernel
theorem dL_law_362 : decode cL_law 362 = .ok (.iaload, 1) := by decide +kernel
theorem dL_law_363 : decode cL_law 363 = .ok (.aload_n 3, 1) := by decide +kernel
theorem dL_law_364 : decode cL_law 364 = .ok (.invokestatic 108, 3) := by decide +kernel
theorem dL_law_367 : decode cL_law 367 = .ok (.istore 5, 2) := by decide +kernel
theorem dL_law_369 : decode cL_law 369 = .ok (.aload_n 2, 1) := by decide +kernel
theorem dL_law_370 : decode cL_law 370 = .ok (.aload_n 0, 1) := by decide +kernel
theorem dL_law_371 : decode cL_law 371 = .ok (.iload 4, 2) := by decide +kernel
theorem dL_law_373 : decode cL_law 373 = .ok (.iconst 1, 1) := by decide +kernel
theorem dL_law_374 : decode cL_law 374 = .ok (.iadd, 1) := by decide +kernel
theorem dL_law_375 : decode cL_law 375 = .ok (.iaload, 1) := by decide +kernel
theorem dL_law_376 : decode cL_law 376 = .ok (.aload_n 0, 1) := by decide +kernel
theorem dL_law_377 : decode cL_law 377 = .ok (.iload 4, 2) := by decide +kernel
theorem dL_law_379 : decode cL_law 379 = .ok (.iconst 2, 1) := by decide +kernel
theorem dL_law_380 : decode cL_law 380 = .ok (.iadd, 1) := by decide +kernel
theorem dL_law_381 : decode cL_law 381 = .ok (.iaload, 1) := by decide +kernel
theorem dL_law_382 : decode cL_law 382 = .ok (.aload_n 0, 1) := by decide +kernel
theorem dL_law_383 : decode cL_law 383 = .ok (.iload 4, 2) := by decide +kernel
theorem dL_law_385 : decode cL_law 385 = .ok (.iconst 3, 1) := by decide +kernel
theorem dL_law_386 : decode cL_law 386 = .ok (.iadd, 1) := by decide +kernel
theorem dL_law_387 : decode cL_law 387 = .ok (.iaload, 1) := by decide +kernel
theorem dL_law_388 : decode cL_law 388 = .ok (.invokevirtual 111, 3) := by decide +kernel
theorem dL_law_391 : decode cL_law 391 = .ok (.istore 6, 2) := by decide +kernel
theorem dL_law_393 : decode cL_law 393 = .ok (.aload_n 2, 1) := by decide +kernel
theorem dL_law_394 : decode cL_law 394 = .ok (.invokevirtual 98, 3) := by decide +kernel
theorem dL_law_397 : decode cL_law 397 = .ok (.iload 5, 2) := by decide +kernel
theorem dL_law_399 : decode cL_law 399 = .ok (.if_icmp .eq 5, 3) := by decide +kernel
theorem dL_law_402 : decode cL_law 402 = .ok (.iconst 0, 1) := by decide +kernel
theorem dL_law_403 : decode cL_law 403 = .ok (.ireturn, 1) := by decide +kernel
theorem dL_law_404 : decode cL_law 404 = .ok (.iload 5, 2) := by decide +kernel
theorem dL_law_406 : decode cL_law 406 = .ok (.ifCond .ne 15, 3) := by decide +kernel
theorem dL_law_409 : decode cL_law 409 = .ok (.aload_n 3, 1) := by decide +kernel
theorem dL_law_410 : decode cL_law 410 = .ok (.iconst 0, 1) := by decide +kernel
theorem dL_law_411 : decode cL_law 411 = .ok (.laload, 1) := by decide +kernel
theorem dL_law_412 : decode cL_law 412 = .ok (.iload 6, 2) := by decide +kernel
theorem dL_law_414 : decode cL_law 414 = .ok (.i2l, 1) := by decide +kernel
theorem dL_law_415 : decode cL_law 415 = .ok (.lcmp, 1) := by decide +kernel
theorem dL_law_416 : decode cL_law 416 = .ok (.ifCond .eq 5, 3) := by decide +kernel
theorem dL_law_419 : decode cL_law 419 = .ok (.iconst 0, 1) := by decide +kernel
theorem dL_law_420 : decode cL_law 420 = .ok (.ireturn, 1) := by decide +kernel
theorem dL_law_421 : decode cL_law 421 = .ok (.goto 1293, 3) := by decide +kernel
theorem dL_law_424 : decode cL_law 424 = .ok (.aload_n 1, 1) := by decide +kernel
theorem dL_law_425 : decode cL_law 425 = .ok (.aload_n 0, 1) := by decide +kernel
theorem dL_law_426 : decode cL_law 426 = .ok (.iload 4, 2) := by decide +kernel
theorem dL_law_428 : decode cL_law 428 = .ok (.iconst 1, 1) := by decide +kernel
theorem dL_law_429 : decode cL_law 429 = .ok (.iadd, 1) := by decide +kernel
theorem dL_law_430 : decode cL_law 430 = .ok (.iaload, 1) := by decide +kernel
theorem dL_law_431 : decode cL_law 431 = .ok (.aload_n 0, 1) := by decide +kernel
theorem dL_law_432 : decode cL_law 432 = .ok (.iload 4, 2) := by decide +kernel
theorem dL_law_434 : decode cL_law 434 = .ok (.iconst 2, 1) := by decide +kernel
theorem dL_law_435 : decode cL_law 435 = .ok (.iadd, 1) := by decide +kernel
theorem dL_law_436 : decode cL_law 436 = .ok (.iaload, 1) := by decide +kernel
theorem dL_law_437 : decode cL_law 437 = .ok (.aload_n 3, 1) := by decide +kernel
theorem dL_law_438 : decode cL_law 438 = .ok (.invokestatic 112, 3) := by decide +kernel
theorem dL_law_441 : decode cL_law 441 = .ok (.istore 5, 2) := by decide +kernel
theorem dL_law_443 : decode cL_law 443 = .ok (.aload_n 2, 1) := by decide +kernel
theorem dL_law_444 : decode cL_law 444 = .ok (.aload_n 0, 1) := by decide +kernel
theorem dL_law_445 : decode cL_law 445 = .ok (.iload 4, 2) := by decide +kernel
theorem dL_law_447 : decode cL_law 447 = .ok (.iconst 1, 1) := by decide +kernel
theorem dL_law_448 : decode cL_law 448 = .ok (.iadd, 1) := by decide +kernel
theorem dL_law_449 : decode cL_law 449 = .ok (.iaload, 1) := by decide +kernel
theorem dL_law_450 : decode cL_law 450 = .ok (.aload_n 0, 1) := by decide +kernel
theorem dL_law_451 : decode cL_law 451 = .ok (.iload 4, 2) := by decide +kernel
theorem dL_law_453 : decode cL_law 453 = .ok (.iconst 2, 1) := by decide +kernel
theorem dL_law_454 : decode cL_law 454 = .ok (.iadd, 1) := by decide +kernel
theorem dL_law_455 : decode cL_law 455 = .ok (.iaload, 1) := by decide +kernel
theorem dL_law_456 : decode cL_law 456 = .ok (.invokevirtual 114, 3) := by decide +kernel
theorem dL_law_459 : decode cL_law 459 = .ok (.istore 6, 2) := by decide +kernel
theorem dL_law_461 : decode cL_law 461 = .ok (.aload_n 2, 1) := by decide +kernel
theorem dL_law_462 : decode cL_law 462 = .ok (.invokevirtual 98, 3) := by decide +kernel
theorem dL_law_465 : decode cL_law 465 = .ok (.iload 5, 2) := by decide +kernel
theorem dL_law_467 : decode cL_law 467 = .ok (.if_icmp .eq 5, 3) := by decide +kernel
theorem dL_law_470 : decode cL_law 470 = .ok (.iconst 0, 1) := by decide +kernel
theorem dL_law_471 : decode cL_law 471 = .ok (.ireturn, 1) := by decide +kernel
theorem dL_law_472 : decode cL_law 472 = .ok (.iload 5, 2) := by decide +kernel
theorem dL_law_474 : decode cL_law 474 = .ok (.ifCond .ne 15, 3) := by decide +kernel
theorem dL_law_477 : decode cL_law 477 = .ok (.aload_n 3, 1) := by decide +kernel
theorem dL_law_478 : decode cL_law 478 = .ok (.iconst 0, 1) := by decide +kernel
theorem dL_law_479 : decode cL_law 479 = .ok (.laload, 1) := by decide +kernel
theorem dL_law_480 : decode cL_law 480 = .ok (.iload 6, 2) := by decide +kernel
theorem dL_law_482 : decode cL_law 482 = .ok (.i2l, 1) := by decide +kernel
theorem dL_law_483 : decode cL_law 483 = .ok (.lcmp, 1) := by decide +kernel
theorem dL_law_484 : decode cL_law 484 = .ok (.ifCond .eq 5, 3) := by decide +kernel
theorem dL_law_487 : decode cL_law 487 = .ok (.iconst 0, 1) := by decide +kernel
theorem dL_law_488 : decode cL_law 488 = .ok (.ireturn, 1) := by decide +kernel
theorem dL_law_489 : decode cL_law 489 = .ok (.goto 1225, 3) := by decide +kernel
theorem dL_law_492 : decode cL_law 492 = .ok (.aload_n 1, 1) := by decide +kernel
theorem dL_law_493 : decode cL_law 493 = .ok (.aload_n 0, 1) := by decide +kernel
theorem dL_law_494 : decode cL_law 494 = .ok (.iload 4, 2) := by decide +kernel
theorem dL_law_496 : decode cL_law 496 = .ok (.iconst 1, 1) := by decide +kernel
theorem dL_law_497 : decode cL_law 497 = .ok (.iadd, 1) := by decide +kernel
theorem dL_law_498 : decode cL_law 498 = .ok (.iaload, 1) := by decide +kernel
theorem dL_law_499 : decode cL_law 499 = .ok (.aload_n 0, 1) := by decide +kernel
theorem dL_law_500 : decode cL_law 500 = .ok (.iload 4, 2) := by decide +kernel
theorem dL_law_502 : decode cL_law 502 = .ok (.iconst 2, 1) := by decide +kernel
theorem dL_law_503 : decode cL_law 503 = .ok (.iadd, 1) := by decide +kernel
theorem dL_law_504 : decode cL_law 504 = .ok (.iaload, 1) := by decide +kernel
theorem dL_law_505 : decode cL_law 505 = .ok (.aload_n 3, 1) := by decide +kernel
theorem dL_law_506 : decode cL_law 506 = .ok (.invokestatic 115, 3) := by decide +kernel
theorem dL_law_509 : decode cL_law 509 = .ok (.istore 5, 2) := by decide +kernel
theorem dL_law_511 : decode cL_law 511 = .ok (.aload_n 2, 1) := by decide +kernel
theorem dL_law_512 : decode cL_law 512 = .ok (.aload_n 0, 1) := by decide +kernel
theorem dL_law_513 : decode cL_law 513 = .ok (.iload 4, 2) := by decide +kernel
theorem dL_law_515 : decode cL_law 515 = .ok (.iconst 1, 1) := by decide +kernel
theorem dL_law_516 : decode cL_law 516 = .ok (.iadd, 1) := by decide +kernel
theorem dL_law_517 : decode cL_law 517 = .ok (.iaload, 1) := by decide +kernel
theorem dL_law_518 : decode cL_law 518 = .ok (.aload_n 0, 1) := by decide +kernel
theorem dL_law_519 : decode cL_law 519 = .ok (.iload 4, 2) := by decide +kernel
theorem dL_law_521 : decode cL_law 521 = .ok (.iconst 2, 1) := by decide +kernel
theorem dL_law_522 : decode cL_law 522 = .ok (.iadd, 1) := by decide +kernel
theorem dL_law_523 : decode cL_law 523 = .ok (.iaload, 1) := by decide +kernel
theorem dL_law_524 : decode cL_law 524 = .ok (.invokevirtual 117, 3) := by decide +kernel
theorem dL_law_527 : decode cL_law 527 = .ok (.istore 6, 2) := by decide +kernel
theorem dL_law_529 : decode cL_law 529 = .ok (.aload_n 2, 1) := by decide +kernel
theorem dL_law_530 : decode cL_law 530 = .ok (.invokevirtual 98, 3) := by decide +kernel
theorem dL_law_533 : decode cL_law 533 = .ok (.iload 5, 2) := by decide +kernel
theorem dL_law_535 : decode cL_law 535 = .ok (.if_icmp .eq 5, 3) := by decide +kernel
theorem dL_law_538 : decode cL_law 538 = .ok (.iconst 0, 1) := by decide +kernel
theorem dL_law_539 : decode cL_law 539 = .ok (.ireturn, 1) := by decide +kernel
theorem dL_law_540 : decode cL_law 540 = .ok (.iload 5, 2) := by decide +kernel
theorem dL_law_542 : decode cL_law 542 = .ok (.ifCond .ne 15, 3) := by decide +kernel
theorem dL_law_545 : decode cL_law 545 = .ok (.aload_n 3, 1) := by decide +kernel
theorem dL_law_546 : decode cL_law 546 = .ok (.iconst 0, 1) := by decide +kernel
theorem dL_law_547 : decode cL_law 547 = .ok (.laload, 1) := by decide +kernel
theorem dL_law_548 : decode cL_law 548 = .ok (.iload 6, 2) := by decide +kernel
theorem dL_law_550 : decode cL_law 550 = .ok (.i2l, 1) := by decide +kernel
theorem dL_law_551 : decode cL_law 551 = .ok (.lcmp, 1) := by decide +kernel
theorem dL_law_552 : decode cL_law 552 = .ok (.ifCond .eq 5, 3) := by decide +kernel
theorem dL_law_555 : decode cL_law 555 = .ok (.iconst 0, 1) := by decide +kernel
theorem dL_law_556 : decode cL_law 556 = .ok (.ireturn, 1) := by decide +kernel
theorem dL_law_557 : decode cL_law 557 = .ok (.goto 1157, 3) := by decide +kernel
theorem dL_law_560 : decode cL_law 560 = .ok (.aload_n 1, 1) := by decide +kernel
theorem dL_law_561 : decode cL_law 561 = .ok (.aload_n 0, 1) := by decide +kernel
theorem dL_law_562 : decode cL_law 562 = .ok (.iload 4, 2) := by decide +kernel
theorem dL_law_564 : decode cL_law 564 = .ok (.iconst 1, 1) := by decide +kernel
theorem dL_law_565 : decode cL_law 565 = .ok (.iadd, 1) := by decide +kernel
theorem dL_law_566 : decode cL_law 566 = .ok (.iaload, 1) := by decide +kernel
theorem dL_law_567 : decode cL_law 567 = .ok (.aload_n 0, 1) := by decide +kernel
theorem dL_law_568 : decode cL_law 568 = .ok (.iload 4, 2) := by decide +kernel
theorem dL_law_570 : decode cL_law 570 = .ok (.iconst 2, 1) := by decide +kernel
theorem dL_law_571 : decode cL_law 571 = .ok (.iadd, 1) := by decide +kernel
theorem dL_law_572 : decode cL_law 572 = .ok (.iaload, 1) := by decide +kernel
theorem dL_law_573 : decode cL_law 573 = .ok (.aload_n 3, 1) := by decide +kernel
theorem dL_law_574 : decode cL_law 574 = .ok (.invokestatic 118, 3) := by decide +kernel
theorem dL_law_577 : decode cL_law 577 = .ok (.istore 5, 2) := by decide +kernel
theorem dL_law_579 : decode cL_law 579 = .ok (.aload_n 2, 1) := by decide +kernel
theorem dL_law_580 : decode cL_law 580 = .ok (.aload_n 0, 1) := by decide +kernel
theorem dL_law_581 : decode cL_law 581 = .ok (.iload 4, 2) := by decide +kernel
theorem dL_law_583 : decode cL_law 583 = .ok (.iconst 1, 1) := by decide +kernel
theorem dL_law_584 : decode cL_law 584 = .ok (.iadd, 1) := by decide +kernel
theorem dL_law_585 : decode cL_law 585 = .ok (.iaload, 1) := by decide +kernel
theorem dL_law_586 : decode cL_law 586 = .ok (.aload_n 0, 1) := by decide +kernel
theorem dL_law_587 : decode cL_law 587 = .ok (.iload 4, 2) := by decide +kernel
theorem dL_law_589 : decode cL_law 589 = .ok (.iconst 2, 1) := by decide +kernel
theorem dL_law_590 : decode cL_law 590 = .ok (.iadd, 1) := by decide +kernel
theorem dL_law_591 : decode cL_law 591 = .ok (.iaload, 1) := by decide +kernel
theorem dL_law_592 : decode cL_law 592 = .ok (.invokevirtual 120, 3) := by decide +kernel
theorem dL_law_595 : decode cL_law 595 = .ok (.istore 6, 2) := by decide +kernel
theorem dL_law_597 : decode cL_law 597 = .ok (.aload_n 2, 1) := by decide +kernel
theorem dL_law_598 : decode cL_law 598 = .ok (.invokevirtual 98, 3) := by decide +kernel
theorem dL_law_601 : decode cL_law 601 = .ok (.iload 5, 2) := by decide +kernel
theorem dL_law_603 : decode cL_law 603 = .ok (.if_icmp .eq 5, 3) := by decide +kernel
theorem dL_law_606 : decode cL_law 606 = .ok (.iconst 0, 1) := by decide +kernel
theorem dL_law_607 : decode cL_law 607 = .ok (.ireturn, 1) := by decide +kernel
theorem dL_law_608 : decode cL_law 608 = .ok (.iload 5, 2) := by decide +kernel
theorem dL_law_610 : decode cL_law 610 = .ok (.ifCond .ne 15, 3) := by decide +kernel
theorem dL_law_613 : decode cL_law 613 = .ok (.aload_n 3, 1) := by decide +kernel
theorem dL_law_614 : decode cL_law 614 = .ok (.iconst 0, 1) := by decide +kernel
theorem dL_law_615 : decode cL_law 615 = .ok (.laload, 1) := by decide +kernel
theorem dL_law_616 : decode cL_law 616 = .ok (.iload 6, 2) := by decide +kernel
theorem dL_law_618 : decode cL_law 618 = .ok (.i2l, 1) := by decide +kernel
theorem dL_law_619 : decode cL_law 619 = .ok (.lcmp, 1) := by decide +kernel
theorem dL_law_620 : decode cL_law 620 = .ok (.ifCond .eq 5, 3) := by decide +kernel
theorem dL_law_623 : decode cL_law 623 = .ok (.iconst 0, 1) := by decide +kernel
theorem dL_law_624 : decode cL_law 624 = .ok (.ireturn, 1) := by decide +kernel
theorem dL_law_625 : decode cL_law 625 = .ok (.goto 1089, 3) := by decide +kernel
theorem dL_law_628 : decode cL_law 628 = .ok (.aload_n 1, 1) := by decide +kernel
theorem dL_law_629 : decode cL_law 629 = .ok (.aload_n 0, 1) := by decide +kernel
theorem dL_law_630 : decode cL_law 630 = .ok (.iload 4, 2) := by decide +kernel
theorem dL_law_632 : decode cL_law 632 = .ok (.iconst 1, 1) := by decide +kernel
theorem dL_law_633 : decode cL_law 633 = .ok (.iadd, 1) := by decide +kernel
theorem dL_law_634 : decode cL_law 634 = .ok (.iaload, 1) := by decide +kernel
theorem dL_law_635 : decode cL_law 635 = .ok (.aload_n 3, 1) := by decide +kernel
theorem dL_law_636 : decode cL_law 636 = .ok (.invokestatic 121, 3) := by decide +kernel
theorem dL_law_639 : decode cL_law 639 = .ok (.istore 5, 2) := by decide +kernel
theorem dL_law_641 : decode cL_law 641 = .ok (.aload_n 2, 1) := by decide +kernel
theorem dL_law_642 : decode cL_law 642 = .ok (.aload_n 0, 1) := by decide +kernel
theorem dL_law_643 : decode cL_law 643 = .ok (.iload 4, 2) := by decide +kernel
theorem dL_law_645 : decode cL_law 645 = .ok (.iconst 1, 1) := by decide +kernel
theorem dL_law_646 : decode cL_law 646 = .ok (.iadd, 1) := by decide +kernel
theorem dL_law_647 : decode cL_law 647 = .ok (.iaload, 1) := by decide +kernel
theorem dL_law_648 : decode cL_law 648 = .ok (.invokevirtual 123, 3) := by decide +kernel
theorem dL_law_651 : decode cL_law 651 = .ok (.istore 6, 2) := by decide +kernel
theorem dL_law_653 : decode cL_law 653 = .ok (.aload_n 2, 1) := by decide +kernel
theorem dL_law_654 : decode cL_law 654 = .ok (.invokevirtual 98, 3) := by decide +kernel
theorem dL_law_657 : decode cL_law 657 = .ok (.iload 5, 2) := by decide +kernel
theorem dL_law_659 : decode cL_law 659 = .ok (.if_icmp .eq 5, 3) := by decide +kernel
theorem dL_law_662 : decode cL_law 662 = .ok (.iconst 0, 1) := by decide +kernel
theorem dL_law_663 : decode cL_law 663 = .ok (.ireturn, 1) := by decide +kernel
theorem dL_law_664 : decode cL_law 664 = .ok (.iload 5, 2) := by decide +kernel
theorem dL_law_666 : decode cL_law 666 = .ok (.ifCond .ne 15, 3) := by decide +kernel
theorem dL_law_669 : decode cL_law 669 = .ok (.aload_n 3, 1) := by decide +kernel
theorem dL_law_670 : decode cL_law 670 = .ok (.iconst 0, 1) := by decide +kernel
theorem dL_law_671 : decode cL_law 671 = .ok (.laload, 1) := by decide +kernel
theorem dL_law_672 : decode cL_law 672 = .ok (.iload 6, 2) := by decide +kernel
theorem dL_law_674 : decode cL_law 674 = .ok (.i2l, 1) := by decide +kernel
theorem dL_law_675 : decode cL_law 675 = .ok (.lcmp, 1) := by decide +kernel
theorem dL_law_676 : decode cL_law 676 = .ok (.ifCond .eq 5, 3) := by decide +kernel
theorem dL_law_679 : decode cL_law 679 = .ok (.iconst 0, 1) := by decide +kernel
theorem dL_law_680 : decode cL_law 680 = .ok (.ireturn, 1) := by decide +kernel
theorem dL_law_681 : decode cL_law 681 = .ok (.goto 1033, 3) := by decide +kernel
theorem dL_law_684 : decode cL_law 684 = .ok (.aload_n 1, 1) := by decide +kernel
theorem dL_law_685 : decode cL_law 685 = .ok (.aload_n 0, 1) := by decide +kernel
theorem dL_law_686 : decode cL_law 686 = .ok (.iload 4, 2) := by decide +kernel
theorem dL_law_688 : decode cL_law 688 = .ok (.iconst 1, 1) := by decide +kernel
theorem dL_law_689 : decode cL_law 689 = .ok (.iadd, 1) := by decide +kernel
theorem dL_law_690 : decode cL_law 690 = .ok (.iaload, 1) := by decide +kernel
theorem dL_law_691 : decode cL_law 691 = .ok (.aload_n 0, 1) := by decide +kernel
theorem dL_law_692 : decode cL_law 692 = .ok (.iload 4, 2) := by decide +kernel
theorem dL_law_694 : decode cL_law 694 = .ok (.iconst 2, 1) := by decide +kernel
theorem dL_law_695 : decode cL_law 695 = .ok (.iadd, 1) := by decide +kernel
theorem dL_law_696 : decode cL_law 696 = .ok (.iaload, 1) := by decide +kernel
theorem dL_law_697 : decode cL_law 697 = .ok (.aload_n 0, 1) := by decide +kernel
theorem dL_law_698 : decode cL_law 698 = .ok (.iload 4, 2) := by decide +kernel
theorem dL_law_700 : decode cL_law 700 = .ok (.iconst 3, 1) := by decide +kernel
theorem dL_law_701 : decode cL_law 701 = .ok (.iadd, 1) := by decide +kernel
theorem dL_law_702 : decode cL_law 702 = .ok (.iaload, 1) := by decide +kernel
theorem dL_law_703 : decode cL_law 703 = .ok (.aload_n 3, 1) := by decide +kernel
theorem dL_law_704 : decode cL_law 704 = .ok (.invokestatic 124, 3) := by decide +kernel
theorem dL_law_707 : decode cL_law 707 = .ok (.istore 5, 2) := by decide +kernel
theorem dL_law_709 : decode cL_law 709 = .ok (.aload_n 2, 1) := by decide +kernel
theorem dL_law_710 : decode cL_law 710 = .ok (.aload_n 0, 1) := by decide +kernel
theorem dL_law_711 : decode cL_law 711 = .ok (.iload 4, 2) := by decide +kernel
theorem dL_law_713 : decode cL_law 713 = .ok (.iconst 1, 1) := by decide +kernel
theorem dL_law_714 : decode cL_law 714 = .ok (.iadd, 1) := by decide +kernel
theorem dL_law_715 : decode cL_law 715 = .ok (.iaload, 1) := by decide +kernel
theorem dL_law_716 : decode cL_law 716 = .ok (.aload_n 0, 1) := by decide +kernel
theorem dL_law_717 : decode cL_law 717 = .ok (.iload 4, 2) := by decide +kernel
theorem dL_law_719 : decode cL_law 719 = .ok (.iconst 2, 1) := by decide +kernel
theorem dL_law_720 : decode cL_law 720 = .ok (.iadd, 1) := by decide +kernel
theorem dL_law_721 : decode cL_law 721 = .ok (.iaload, 1) := by decide +kernel
theorem dL_law_722 : decode cL_law 722 = .ok (.aload_n 0, 1) := by decide +kernel
theorem dL_law_723 : decode cL_law 723 = .ok (.iload 4, 2) := by decide +kernel
theorem dL_law_725 : decode cL_law 725 = .ok (.iconst 3, 1) := by decide +kernel
theorem dL_law_726 : decode cL_law 726 = .ok (.iadd, 1) := by decide +kernel
theorem dL_law_727 : decode cL_law 727 = .ok (.iaload, 1) := by decide +kernel
theorem dL_law_728 : decode cL_law 728 = .ok (.invokevirtual 126, 3) := by decide +kernel
theorem dL_law_731 : decode cL_law 731 = .ok (.istore 6, 2) := by decide +kernel
theorem dL_law_733 : decode cL_law 733 = .ok (.aload_n 2, 1) := by decide +kernel
theorem dL_law_734 : decode cL_law 734 = .ok (.invokevirtual 98, 3) := by decide +kernel
theorem dL_law_737 : decode cL_law 737 = .ok (.iload 5, 2) := by decide +kernel
theorem dL_law_739 : decode cL_law 739 = .ok (.if_icmp .eq 5, 3) := by decide +kernel
theorem dL_law_742 : decode cL_law 742 = .ok (.iconst 0, 1) := by decide +kernel
theorem dL_law_743 : decode cL_law 743 = .ok (.ireturn, 1) := by decide +kernel
theorem dL_law_744 : decode cL_law 744 = .ok (.iload 5, 2) := by decide +kernel
theorem dL_law_746 : decode cL_law 746 = .ok (.ifCond .ne 15, 3) := by decide +kernel
theorem dL_law_749 : decode cL_law 749 = .ok (.aload_n 3, 1) := by decide +kernel
theorem dL_law_750 : decode cL_law 750 = .ok (.iconst 0, 1) := by decide +kernel
theorem dL_law_751 : decode cL_law 751 = .ok (.laload, 1) := by decide +kernel
theorem dL_law_752 : decode cL_law 752 = .ok (.iload 6, 2) := by decide +kernel
theorem dL_law_754 : decode cL_law 754 = .ok (.i2l, 1) := by decide +kernel
theorem dL_law_755 : decode cL_law 755 = .ok (.lcmp, 1) := by decide +kernel
theorem dL_law_756 : decode cL_law 756 = .ok (.ifCond .eq 5, 3) := by decide +kernel
theorem dL_law_759 : decode cL_law 759 = .ok (.iconst 0, 1) := by decide +kernel
theorem dL_law_760 : decode cL_law 760 = .ok (.ireturn, 1) := by decide +kernel
theorem dL_law_761 : decode cL_law 761 = .ok (.goto 953, 3) := by decide +kernel
theorem dL_law_764 : decode cL_law 764 = .ok (.aload_n 1, 1) := by decide +kernel
theorem dL_law_765 : decode cL_law 765 = .ok (.aload_n 0, 1) := by decide +kernel
theorem dL_law_766 : decode cL_law 766 = .ok (.iload 4, 2) := by decide +kernel
theorem dL_law_768 : decode cL_law 768 = .ok (.iconst 1, 1) := by decide +kernel
theorem dL_law_769 : decode cL_law 769 = .ok (.iadd, 1) := by decide +kernel
theorem dL_law_770 : decode cL_law 770 = .ok (.iaload, 1) := by decide +kernel
theorem dL_law_771 : decode cL_law 771 = .ok (.aload_n 0, 1) := by decide +kernel
theorem dL_law_772 : decode cL_law 772 = .ok (.iload 4, 2) := by decide +kernel
theorem dL_law_774 : decode cL_law 774 = .ok (.iconst 2, 1) := by decide +kernel
theorem dL_law_775 : decode cL_law 775 = .ok (.iadd, 1) := by decide +kernel
theorem dL_law_776 : decode cL_law 776 = .ok (.iaload, 1) := by decide +kernel
theorem dL_law_777 : decode cL_law 777 = .ok (.aload_n 3, 1) := by decide +kernel
theorem dL_law_778 : decode cL_law 778 = .ok (.invokestatic 127, 3) := by decide +kernel
theorem dL_law_781 : decode cL_law 781 = .ok (.istore 5, 2) := by decide +kernel
theorem dL_law_783 : decode cL_law 783 = .ok (.aload_n 2, 1) := by decide +kernel
theorem dL_law_784 : decode cL_law 784 = .ok (.aload_n 0, 1) := by decide +kernel
theorem dL_law_785 : decode cL_law 785 = .ok (.iload 4, 2) := by decide +kernel
theorem dL_law_787 : decode cL_law 787 = .ok (.iconst 1, 1) := by decide +kernel
theorem dL_law_788 : decode cL_law 788 = .ok (.iadd, 1) := by decide +kernel
theorem dL_law_789 : decode cL_law 789 = .ok (.iaload, 1) := by decide +kernel
theorem dL_law_790 : decode cL_law 790 = .ok (.aload_n 0, 1) := by decide +kernel
theorem dL_law_791 : decode cL_law 791 = .ok (.iload 4, 2) := by decide +kernel
theorem dL_law_793 : decode cL_law 793 = .ok (.iconst 2, 1) := by decide +kernel
theorem dL_law_794 : decode cL_law 794 = .ok (.iadd, 1) := by decide +kernel
theorem dL_law_795 : decode cL_law 795 = .ok (.iaload, 1) := by decide +kernel
theorem dL_law_796 : decode cL_law 796 = .ok (.invokevirtual 129, 3) := by decide +kernel
theorem dL_law_799 : decode cL_law 799 = .ok (.istore 6, 2) := by decide +kernel
theorem dL_law_801 : decode cL_law 801 = .ok (.aload_n 2, 1) := by decide +kernel
theorem dL_law_802 : decode cL_law 802 = .ok (.invokevirtual 98, 3) := by decide +kernel
theorem dL_law_805 : decode cL_law 805 = .ok (.iload 5, 2) := by decide +kernel
theorem dL_law_807 : decode cL_law 807 = .ok (.if_icmp .eq 5, 3) := by decide +kernel
theorem dL_law_810 : decode cL_law 810 = .ok (.iconst 0, 1) := by decide +kernel
theorem dL_law_811 : decode cL_law 811 = .ok (.ireturn, 1) := by decide +kernel
theorem dL_law_812 : decode cL_law 812 = .ok (.iload 5, 2) := by decide +kernel
theorem dL_law_814 : decode cL_law 814 = .ok (.ifCond .ne 15, 3) := by decide +kernel
theorem dL_law_817 : decode cL_law 817 = .ok (.aload_n 3, 1) := by decide +kernel
theorem dL_law_818 : decode cL_law 818 = .ok (.iconst 0, 1) := by decide +kernel
theorem dL_law_819 : decode cL_law 819 = .ok (.laload, 1) := by decide +kernel
theorem dL_law_820 : decode cL_law 820 = .ok (.iload 6, 2) := by decide +kernel
theorem dL_law_822 : decode cL_law 822 = .ok (.i2l, 1) := by decide +kernel
theorem dL_law_823 : decode cL_law 823 = .ok (.lcmp, 1) := by decide +kernel
theorem dL_law_824 : decode cL_law 824 = .ok (.ifCond .eq 5, 3) := by decide +kernel
theorem dL_law_827 : decode cL_law 827 = .ok (.iconst 0, 1) := by decide +kernel
theorem dL_law_828 : decode cL_law 828 = .ok (.ireturn, 1) := by decide +kernel
theorem dL_law_829 : decode cL_law 829 = .ok (.goto 885, 3) := by decide +kernel
theorem dL_law_832 : decode cL_law 832 = .ok (.aload_n 1, 1) := by decide +kernel
theorem dL_law_833 : decode cL_law 833 = .ok (.aload_n 0, 1) := by decide +kernel
theorem dL_law_834 : decode cL_law 834 = .ok (.iload 4, 2) := by decide +kernel
theorem dL_law_836 : decode cL_law 836 = .ok (.iconst 1, 1) := by decide +kernel
theorem dL_law_837 : decode cL_law 837 = .ok (.iadd, 1) := by decide +kernel
theorem dL_law_838 : decode cL_law 838 = .ok (.iaload, 1) := by decide +kernel
theorem dL_law_839 : decode cL_law 839 = .ok (.aload_n 3, 1) := by decide +kernel
theorem dL_law_840 : decode cL_law 840 = .ok (.invokestatic 130, 3) := by decide +kernel
theorem dL_law_843 : decode cL_law 843 = .ok (.istore 5, 2) := by decide +kernel
theorem dL_law_845 : decode cL_law 845 = .ok (.aload_n 2, 1) := by decide +kernel
theorem dL_law_846 : decode cL_law 846 = .ok (.aload_n 0, 1) := by decide +kernel
theorem dL_law_847 : decode cL_law 847 = .ok (.iload 4, 2) := by decide +kernel
theorem dL_law_849 : decode cL_law 849 = .ok (.iconst 1, 1) := by decide +kernel
theorem dL_law_850 : decode cL_law 850 = .ok (.iadd, 1) := by decide +kernel
theorem dL_law_851 : decode cL_law 851 = .ok (.iaload, 1) := by decide +kernel
theorem dL_law_852 : decode cL_law 852 = .ok (.invokevirtual 132, 3) := by decide +kernel
theorem dL_law_855 : decode cL_law 855 = .ok (.istore 6, 2) := by decide +kernel
theorem dL_law_857 : decode cL_law 857 = .ok (.aload_n 2, 1) := by decide +kernel
theorem dL_law_858 : decode cL_law 858 = .ok (.invokevirtual 98, 3) := by decide +kernel
theorem dL_law_861 : decode cL_law 861 = .ok (.iload 5, 2) := by decide +kernel
theorem dL_law_863 : decode cL_law 863 = .ok (.if_icmp .eq 5, 3) := by decide +kernel
theorem dL_law_866 : decode cL_law 866 = .ok (.iconst 0, 1) := by decide +kernel
theorem dL_law_867 : decode cL_law 867 = .ok (.ireturn, 1) := by decide +kernel
theorem dL_law_868 : decode cL_law 868 = .ok (.iload 5, 2) := by decide +kernel
theorem dL_law_870 : decode cL_law 870 = .ok (.ifCond .ne 15, 3) := by decide +kernel
theorem dL_law_873 : decode cL_law 873 = .ok (.aload_n 3, 1) := by decide +kernel
theorem dL_law_874 : decode cL_law 874 = .ok (.iconst 0, 1) := by decide +kernel
theorem dL_law_875 : decode cL_law 875 = .ok (.laload, 1) := by decide +kernel
theorem dL_law_876 : decode cL_law 876 = .ok (.iload 6, 2) := by decide +kernel
theorem dL_law_878 : decode cL_law 878 = .ok (.i2l, 1) := by decide +kernel
theorem dL_law_879 : decode cL_law 879 = .ok (.lcmp, 1) := by decide +kernel
theorem dL_law_880 : decode cL_law 880 = .ok (.ifCond .eq 5, 3) := by decide +kernel
theorem dL_law_883 : decode cL_law 883 = .ok (.iconst 0, 1) := by decide +kernel
theorem dL_law_884 : decode cL_law 884 = .ok (.ireturn, 1) := by decide +kernel
theorem dL_law_885 : decode cL_law 885 = .ok (.goto 829, 3) := by decide +kernel
theorem dL_law_888 : decode cL_law 888 = .ok (.aload_n 1, 1) := by decide +kernel
theorem dL_law_889 : decode cL_law 889 = .ok (.aload_n 0, 1) := by decide +kernel
theorem dL_law_890 : decode cL_law 890 = .ok (.iload 4, 2) := by decide +kernel
theorem dL_law_892 : decode cL_law 892 = .ok (.iconst 1, 1) := by decide +kernel
theorem dL_law_893 : decode cL_law 893 = .ok (.iadd, 1) := by decide +kernel
theorem dL_law_894 : decode cL_law 894 = .ok (.iaload, 1) := by decide +kernel
theorem dL_law_895 : decode cL_law 895 = .ok (.aload_n 0, 1) := by decide +kernel
theorem dL_law_896 : decode cL_law 896 = .ok (.iload 4, 2) := by decide +kernel
theorem dL_law_898 : decode cL_law 898 = .ok (.iconst 2, 1) := by decide +kernel
theorem dL_law_899 : decode cL_law 899 = .ok (.iadd, 1) := by decide +kernel
theorem dL_law_900 : decode cL_law 900 = .ok (.iaload, 1) := by decide +kernel
theorem dL_law_901 : decode cL_law 901 = .ok (.aload_n 3, 1) := by decide +kernel
theorem dL_law_902 : decode cL_law 902 = .ok (.invokestatic 133, 3) := by decide +kernel
theorem dL_law_905 : decode cL_law 905 = .ok (.istore 5, 2) := by decide +kernel
theorem dL_law_907 : decode cL_law 907 = .ok (.aload_n 2, 1) := by decide +kernel
theorem dL_law_908 : decode cL_law 908 = .ok (.aload_n 0, 1) := by decide +kernel
theorem dL_law_909 : decode cL_law 909 = .ok (.iload 4, 2) := by decide +kernel
theorem dL_law_911 : decode cL_law 911 = .ok (.iconst 1, 1) := by decide +kernel
theorem dL_law_912 : decode cL_law 912 = .ok (.iadd, 1) := by decide +kernel
theorem dL_law_913 : decode cL_law 913 = .ok (.iaload, 1) := by decide +kernel
theorem dL_law_914 : decode cL_law 914 = .ok (.aload_n 0, 1) := by decide +kernel
theorem dL_law_915 : decode cL_law 915 = .ok (.iload 4, 2) := by decide +kernel
theorem dL_law_917 : decode cL_law 917 = .ok (.iconst 2, 1) := by decide +kernel
theorem dL_law_918 : decode cL_law 918 = .ok (.iadd, 1) := by decide +kernel
theorem dL_law_919 : decode cL_law 919 = .ok (.iaload, 1) := by decide +kernel
theorem dL_law_920 : decode cL_law 920 = .ok (.invokevirtual 135, 3) := by decide +kernel
theorem dL_law_923 : decode cL_law 923 = .ok (.istore 6, 2) := by decide +kernel
theorem dL_law_925 : decode cL_law 925 = .ok (.aload_n 2, 1) := by decide +kernel
theorem dL_law_926 : decode cL_law 926 = .ok (.invokevirtual 98, 3) := by decide +kernel
theorem dL_law_929 : decode cL_law 929 = .ok (.iload 5, 2) := by decide +kernel
theorem dL_law_931 : decode cL_law 931 = .ok (.if_icmp .eq 5, 3) := by decide +kernel
theorem dL_law_934 : decode cL_law 934 = .ok (.iconst 0, 1) := by decide +kernel
theorem dL_law_935 : decode cL_law 935 = .ok (.ireturn, 1) := by decide +kernel
theorem dL_law_936 : decode cL_law 936 = .ok (.iload 5, 2) := by decide +kernel
theorem dL_law_938 : decode cL_law 938 = .ok (.ifCond .ne 15, 3) := by decide +kernel
theorem dL_law_941 : decode cL_law 941 = .ok (.aload_n 3, 1) := by decide +kernel
theorem dL_law_942 : decode cL_law 942 = .ok (.iconst 0, 1) := by decide +kernel
theorem dL_law_943 : decode cL_law 943 = .ok (.laload, 1) := by decide +kernel
theorem dL_law_944 : decode cL_law 944 = .ok (.iload 6, 2) := by decide +kernel
theorem dL_law_946 : decode cL_law 946 = .ok (.i2l, 1) := by decide +kernel
theorem dL_law_947 : decode cL_law 947 = .ok (.lcmp, 1) := by decide +kernel
theorem dL_law_948 : decode cL_law 948 = .ok (.ifCond .eq 5, 3) := by decide +kernel
theorem dL_law_951 : decode cL_law 951 = .ok (.iconst 0, 1) := by decide +kernel
theorem dL_law_952 : decode cL_law 952 = .ok (.ireturn, 1) := by decide +kernel
theorem dL_law_953 : decode cL_law 953 = .ok (.goto 761, 3) := by decide +kernel
theorem dL_law_956 : decode cL_law 956 = .ok (.aload_n 1, 1) := by decide +kernel
theorem dL_law_957 : decode cL_law 957 = .ok (.aload_n 0, 1) := by decide +kernel
theorem dL_law_958 : decode cL_law 958 = .ok (.iload 4, 2) := by decide +kernel
theorem dL_law_960 : decode cL_law 960 = .ok (.iconst 1, 1) := by decide +kernel
theorem dL_law_961 : decode cL_law 961 = .ok (.iadd, 1) := by decide +kernel
theorem dL_law_962 : decode cL_law 962 = .ok (.iaload, 1) := by decide +kernel
theorem dL_law_963 : decode cL_law 963 = .ok (.aload_n 3, 1) := by decide +kernel
theorem dL_law_964 : decode cL_law 964 = .ok (.invokestatic 136, 3) := by decide +kernel
theorem dL_law_967 : decode cL_law 967 = .ok (.istore 5, 2) := by decide +kernel
theorem dL_law_969 : decode cL_law 969 = .ok (.aload_n 2, 1) := by decide +kernel
theorem dL_law_970 : decode cL_law 970 = .ok (.aload_n 0, 1) := by decide +kernel
theorem dL_law_971 : decode cL_law 971 = .ok (.iload 4, 2) := by decide +kernel
theorem dL_law_973 : decode cL_law 973 = .ok (.iconst 1, 1) := by decide +kernel
theorem dL_law_974 : decode cL_law 974 = .ok (.iadd, 1) := by decide +kernel
theorem dL_law_975 : decode cL_law 975 = .ok (.iaload, 1) := by decide +kernel
theorem dL_law_976 : decode cL_law 976 = .ok (.invokevirtual 138, 3) := by decide +kernel
theorem dL_law_979 : decode cL_law 979 = .ok (.istore 6, 2) := by decide +kernel
theorem dL_law_981 : decode cL_law 981 = .ok (.aload_n 2, 1) := by decide +kernel
theorem dL_law_982 : decode cL_law 982 = .ok (.invokevirtual 98, 3) := by decide +kernel
theorem dL_law_985 : decode cL_law 985 = .ok (.iload 5, 2) := by decide +kernel
theorem dL_law_987 : decode cL_law 987 = .ok (.if_icmp .eq 5, 3) := by decide +kernel
theorem dL_law_990 : decode cL_law 990 = .ok (.iconst 0, 1) := by decide +kernel
theorem dL_law_991 : decode cL_law 991 = .ok (.ireturn, 1) := by decide +kernel
theorem dL_law_992 : decode cL_law 992 = .ok (.iload 5, 2) := by decide +kernel
theorem dL_law_994 : decode cL_law 994 = .ok (.ifCond .ne 15, 3) := by decide +kernel
theorem dL_law_997 : decode cL_law 997 = .ok (.aload_n 3, 1) := by decide +kernel
theorem dL_law_998 : decode cL_law 998 = .ok (.iconst 0, 1) := by decide +kernel
theorem dL_law_999 : decode cL_law 999 = .ok (.laload, 1) := by decide +kernel
theorem dL_law_1000 : decode cL_law 1000 = .ok (.iload 6, 2) := by decide +kernel
theorem dL_law_1002 : decode cL_law 1002 = .ok (.i2l, 1) := by decide +kernel
theorem dL_law_1003 : decode cL_law 1003 = .ok (.lcmp, 1) := by decide +kernel
theorem dL_law_1004 : decode cL_law 1004 = .ok (.ifCond .eq 5, 3) := by decide +kernel
theorem dL_law_1007 : decode cL_law 1007 = .ok (.iconst 0, 1) := by decide +kernel
theorem dL_law_1008 : decode cL_law 1008 = .ok (.ireturn, 1) := by decide +kernel
theorem dL_law_1009 : decode cL_law 1009 = .ok (.goto 705, 3) := by decide +kernel
theorem dL_law_1012 : decode cL_law 1012 = .ok (.aload_n 1, 1) := by decide +kernel
theorem dL_law_1013 : decode cL_law 1013 = .ok (.invokevirtual 139, 3) := by decide +kernel
theorem dL_law_1016 : decode cL_law 1016 = .ok (.aload_n 2, 1) := by decide +kernel
theorem dL_law_1017 : decode cL_law 1017 = .ok (.invokevirtual 142, 3) := by decide +kernel
theorem dL_law_1020 : decode cL_law 1020 = .ok (.if_icmp .eq 694, 3) := by decide +kernel
theorem dL_law_1023 : decode cL_law 1023 = .ok (.iconst 0, 1) := by decide +kernel
theorem dL_law_1024 : decode cL_law 1024 = .ok (.ireturn, 1) := by decide +kernel
theorem dL_law_1025 : decode cL_law 1025 = .ok (.aload_n 1, 1) := by decide +kernel
theorem dL_law_1026 : decode cL_law 1026 = .ok (.invokevirtual 143, 3) := by decide +kernel
theorem dL_law_1029 : decode cL_law 1029 = .ok (.aload_n 2, 1) := by decide +kernel
theorem dL_law_1030 : decode cL_law 1030 = .ok (.invokevirtual 146, 3) := by decide +kernel
theorem dL_law_1033 : decode cL_law 1033 = .ok (.if_icmp .eq 681, 3) := by decide +kernel
theorem dL_law_1036 : decode cL_law 1036 = .ok (.iconst 0, 1) := by decide +kernel
theorem dL_law_1037 : decode cL_law 1037 = .ok (.ireturn, 1) := by decide +kernel
theorem dL_law_1038 : decode cL_law 1038 = .ok (.aload_n 1, 1) := by decide +kernel
theorem dL_law_1039 : decode cL_law 1039 = .ok (.aload_n 3, 1) := by decide +kernel
theorem dL_law_1040 : decode cL_law 1040 = .ok (.invokestatic 147, 3) := by decide +kernel
theorem dL_law_1043 : decode cL_law 1043 = .ok (.istore 5, 2) := by decide +kernel
theorem dL_law_1045 : decode cL_law 1045 = .ok (.aload_n 2, 1) := by decide +kernel
theorem dL_law_1046 : decode cL_law 1046 = .ok (.invokevirtual 150, 3) := by decide +kernel
theorem dL_law_1049 : decode cL_law 1049 = .ok (.istore 6, 2) := by decide +kernel
theorem dL_law_1051 : decode cL_law 1051 = .ok (.aload_n 2, 1) := by decide +kernel
theorem dL_law_1052 : decode cL_law 1052 = .ok (.invokevirtual 98, 3) := by decide +kernel
theorem dL_law_1055 : decode cL_law 1055 = .ok (.iload 5, 2) := by decide +kernel
theorem dL_law_1057 : decode cL_law 1057 = .ok (.if_icmp .eq 5, 3) := by decide +kernel
theorem dL_law_1060 : decode cL_law 1060 = .ok (.iconst 0, 1) := by decide +kernel
theorem dL_law_1061 : decode cL_law 1061 = .ok (.ireturn, 1) := by decide +kernel
theorem dL_law_1062 : decode cL_law 1062 = .ok (.iload 5, 2) := by decide +kernel
theorem dL_law_1064 : decode cL_law 1064 = .ok (.ifCond .ne 15, 3) := by decide +kernel
theorem dL_law_1067 : decode cL_law 1067 = .ok (.aload_n 3, 1) := by decide +kernel
theorem dL_law_1068 : decode cL_law 1068 = .ok (.iconst 0, 1) := by decide +kernel
theorem dL_law_1069 : decode cL_law 1069 = .ok (.laload, 1) := by decide +kernel
theorem dL_law_1070 : decode cL_law 1070 = .ok (.iload 6, 2) := by decide +kernel
theorem dL_law_1072 : decode cL_law 1072 = .ok (.i2l, 1) := by decide +kernel
theorem dL_law_1073 : decode cL_law 1073 = .ok (.lcmp, 1) := by decide +kernel
theorem dL_law_1074 : decode cL_law 1074 = .ok (.ifCond .eq 5, 3) := by decide +kernel
theorem dL_law_1077 : decode cL_law 1077 = .ok (.iconst 0, 1) := by decide +kernel
theorem dL_law_1078 : decode cL_law 1078 = .ok (.ireturn, 1) := by decide +kernel
theorem dL_law_1079 : decode cL_law 1079 = .ok (.goto 635, 3) := by decide +kernel
theorem dL_law_1082 : decode cL_law 1082 = .ok (.aload_n 1, 1) := by decide +kernel
theorem dL_law_1083 : decode cL_law 1083 = .ok (.aload_n 3, 1) := by decide +kernel
theorem dL_law_1084 : decode cL_law 1084 = .ok (.invokestatic 151, 3) := by decide +kernel
theorem dL_law_1087 : decode cL_law 1087 = .ok (.istore 5, 2) := by decide +kernel
theorem dL_law_1089 : decode cL_law 1089 = .ok (.aload_n 2, 1) := by decide +kernel
theorem dL_law_1090 : decode cL_law 1090 = .ok (.invokevirtual 153, 3) := by decide +kernel
theorem dL_law_1093 : decode cL_law 1093 = .ok (.istore 6, 2) := by decide +kernel
theorem dL_law_1095 : decode cL_law 1095 = .ok (.aload_n 2, 1) := by decide +kernel
theorem dL_law_1096 : decode cL_law 1096 = .ok (.invokevirtual 98, 3) := by decide +kernel
theorem dL_law_1099 : decode cL_law 1099 = .ok (.iload 5, 2) := by decide +kernel
theorem dL_law_1101 : decode cL_law 1101 = .ok (.if_icmp .eq 5, 3) := by decide +kernel
theorem dL_law_1104 : decode cL_law 1104 = .ok (.iconst 0, 1) := by decide +kernel
theorem dL_law_1105 : decode cL_law 1105 = .ok (.ireturn, 1) := by decide +kernel
theorem dL_law_1106 : decode cL_law 1106 = .ok (.iload 5, 2) := by decide +kernel
theorem dL_law_1108 : decode cL_law 1108 = .ok (.ifCond .ne 15, 3) := by decide +kernel
theorem dL_law_1111 : decode cL_law 1111 = .ok (.aload_n 3, 1) := by decide +kernel
theorem dL_law_1112 : decode cL_law 1112 = .ok (.iconst 0, 1) := by decide +kernel
theorem dL_law_1113 : decode cL_law 1113 = .ok (.laload, 1) := by decide +kernel
theorem dL_law_1114 : decode cL_law 1114 = .ok (.iload 6, 2) := by decide +kernel
theorem dL_law_1116 : decode cL_law 1116 = .ok (.i2l, 1) := by decide +kernel
theorem dL_law_1117 : decode cL_law 1117 = .ok (.lcmp, 1) := by decide +kernel
theorem dL_law_1118 : decode cL_law 1118 = .ok (.ifCond .eq 5, 3) := by decide +kernel
theorem dL_law_1121 : decode cL_law 1121 = .ok (.iconst 0, 1) := by decide +kernel
theorem dL_law_1122 : decode cL_law 1122 = .ok (.ireturn, 1) := by decide +kernel
theorem dL_law_1123 : decode cL_law 1123 = .ok (.goto 591, 3) := by decide +kernel
theorem dL_law_1126 : decode cL_law 1126 = .ok (.aload_n 1, 1) := by decide +kernel
theorem dL_law_1127 : decode cL_law 1127 = .ok (.aload_n 0, 1) := by decide +kernel
theorem dL_law_1128 : decode cL_law 1128 = .ok (.iload 4, 2) := by decide +kernel
theorem dL_law_1130 : decode cL_law 1130 = .ok (.iconst 1, 1) := by decide +kernel
theorem dL_law_1131 : decode cL_law 1131 = .ok (.iadd, 1) := by decide +kernel
theorem dL_law_1132 : decode cL_law 1132 = .ok (.iaload, 1) := by decide +kernel
theorem dL_law_1133 : decode cL_law 1133 = .ok (.aload_n 0, 1) := by decide +kernel
theorem dL_law_1134 : decode cL_law 1134 = .ok (.iload 4, 2) := by decide +kernel
theorem dL_law_1136 : decode cL_law 1136 = .ok (.iconst 2, 1) := by decide +kernel
theorem dL_law_1137 : decode cL_law 1137 = .ok (.iadd, 1) := by decide +kernel
theorem dL_law_1138 : decode cL_law 1138 = .ok (.iaload, 1) := by decide +kernel
theorem dL_law_1139 : decode cL_law 1139 = .ok (.aload_n 3, 1) := by decide +kernel
theorem dL_law_1140 : decode cL_law 1140 = .ok (.invokestatic 154, 3) := by decide +kernel
theorem dL_law_1143 : decode cL_law 1143 = .ok (.istore 5, 2) := by decide +kernel
theorem dL_law_1145 : decode cL_law 1145 = .ok (.aload_n 2, 1) := by decide +kernel
theorem dL_law_1146 : decode cL_law 1146 = .ok (.aload_n 0, 1) := by decide +kernel
theorem dL_law_1147 : decode cL_law 1147 = .ok (.iload 4, 2) := by decide +kernel
theorem dL_law_1149 : decode cL_law 1149 = .ok (.iconst 1, 1) := by decide +kernel
theorem dL_law_1150 : decode cL_law 1150 = .ok (.iadd, 1) := by decide +kernel
theorem dL_law_1151 : decode cL_law 1151 = .ok (.iaload, 1) := by decide +kernel
theorem dL_law_1152 : decode cL_law 1152 = .ok (.aload_n 0, 1) := by decide +kernel
theorem dL_law_1153 : decode cL_law 1153 = .ok (.iload 4, 2) := by decide +kernel
theorem dL_law_1155 : decode cL_law 1155 = .ok (.iconst 2, 1) := by decide +kernel
theorem dL_law_1156 : decode cL_law 1156 = .ok (.iadd, 1) := by decide +kernel
theorem dL_law_1157 : decode cL_law 1157 = .ok (.iaload, 1) := by decide +kernel
theorem dL_law_1158 : decode cL_law 1158 = .ok (.invokevirtual 156, 3) := by decide +kernel
theorem dL_law_1161 : decode cL_law 1161 = .ok (.istore 6, 2) := by decide +kernel
theorem dL_law_1163 : decode cL_law 1163 = .ok (.aload_n 2, 1) := by decide +kernel
theorem dL_law_1164 : decode cL_law 1164 = .ok (.invokevirtual 98, 3) := by decide +kernel
theorem dL_law_1167 : decode cL_law 1167 = .ok (.iload 5, 2) := by decide +kernel
theorem dL_law_1169 : decode cL_law 1169 = .ok (.if_icmp .eq 5, 3) := by decide +kernel
theorem dL_law_1172 : decode cL_law 1172 = .ok (.iconst 0, 1) := by decide +kernel
theorem dL_law_1173 : decode cL_law 1173 = .ok (.ireturn, 1) := by decide +kernel
theorem dL_law_1174 : decode cL_law 1174 = .ok (.iload 5, 2) := by decide +kernel
theorem dL_law_1176 : decode cL_law 1176 = .ok (.ifCond .ne 15, 3) := by decide +kernel
theorem dL_law_1179 : decode cL_law 1179 = .ok (.aload_n 3, 1) := by decide +kernel
theorem dL_law_1180 : decode cL_law 1180 = .ok (.iconst 0, 1) := by decide +kernel
theorem dL_law_1181 : decode cL_law 1181 = .ok (.laload, 1) := by decide +kernel
theorem dL_law_1182 : decode cL_law 1182 = .ok (.iload 6, 2) := by decide +kernel
theorem dL_law_1184 : decode cL_law 1184 = .ok (.i2l, 1) := by decide +kernel
theorem dL_law_1185 : decode cL_law 1185 = .ok (.lcmp, 1) := by decide +kernel
theorem dL_law_1186 : decode cL_law 1186 = .ok (.ifCond .eq 5, 3) := by decide +kernel
theorem dL_law_1189 : decode cL_law 1189 = .ok (.iconst 0, 1) := by decide +kernel
theorem dL_law_1190 : decode cL_law 1190 = .ok (.ireturn, 1) := by decide +kernel
theorem dL_law_1191 : decode cL_law 1191 = .ok (.goto 523, 3) := by decide +kernel
theorem dL_law_1194 : decode cL_law 1194 = .ok (.aload_n 1, 1) := by decide +kernel
theorem dL_law_1195 : decode cL_law 1195 = .ok (.aload_n 0, 1) := by decide +kernel
theorem dL_law_1196 : decode cL_law 1196 = .ok (.iload 4, 2) := by decide +kernel
theorem dL_law_1198 : decode cL_law 1198 = .ok (.iconst 1, 1) := by decide +kernel
theorem dL_law_1199 : decode cL_law 1199 = .ok (.iadd, 1) := by decide +kernel
theorem dL_law_1200 : decode cL_law 1200 = .ok (.iaload, 1) := by decide +kernel
theorem dL_law_1201 : decode cL_law 1201 = .ok (.aload_n 0, 1) := by decide +kernel
theorem dL_law_1202 : decode cL_law 1202 = .ok (.iload 4, 2) := by decide +kernel
theorem dL_law_1204 : decode cL_law 1204 = .ok (.iconst 2, 1) := by decide +kernel
theorem dL_law_1205 : decode cL_law 1205 = .ok (.iadd, 1) := by decide +kernel
theorem dL_law_1206 : decode cL_law 1206 = .ok (.iaload, 1) := by decide +kernel
theorem dL_law_1207 : decode cL_law 1207 = .ok (.aload_n 3, 1) := by decide +kernel
theorem dL_law_1208 : decode cL_law 1208 = .ok (.invokestatic 157, 3) := by decide +kernel
theorem dL_law_1211 : decode cL_law 1211 = .ok (.istore 5, 2) := by decide +kernel
theorem dL_law_1213 : decode cL_law 1213 = .ok (.aload_n 2, 1) := by decide +kernel
theorem dL_law_1214 : decode cL_law 1214 = .ok (.aload_n 0, 1) := by decide +kernel
theorem dL_law_1215 : decode cL_law 1215 = .ok (.iload 4, 2) := by decide +kernel
theorem dL_law_1217 : decode cL_law 1217 = .ok (.iconst 1, 1) := by decide +kernel
theorem dL_law_1218 : decode cL_law 1218 = .ok (.iadd, 1) := by decide +kernel
theorem dL_law_1219 : decode cL_law 1219 = .ok (.iaload, 1) := by decide +kernel
theorem dL_law_1220 : decode cL_law 1220 = .ok (.aload_n 0, 1) := by decide +kernel
theorem dL_law_1221 : decode cL_law 1221 = .ok (.iload 4, 2) := by decide +kernel
theorem dL_law_1223 : decode cL_law 1223 = .ok (.iconst 2, 1) := by decide +kernel
theorem dL_law_1224 : decode cL_law 1224 = .ok (.iadd, 1) := by decide +kernel
theorem dL_law_1225 : decode cL_law 1225 = .ok (.iaload, 1) := by decide +kernel
theorem dL_law_1226 : decode cL_law 1226 = .ok (.invokevirtual 159, 3) := by decide +kernel
theorem dL_law_1229 : decode cL_law 1229 = .ok (.istore 6, 2) := by decide +kernel
theorem dL_law_1231 : decode cL_law 1231 = .ok (.aload_n 2, 1) := by decide +kernel
theorem dL_law_1232 : decode cL_law 1232 = .ok (.invokevirtual 98, 3) := by decide +kernel
theorem dL_law_1235 : decode cL_law 1235 = .ok (.iload 5, 2) := by decide +kernel
theorem dL_law_1237 : decode cL_law 1237 = .ok (.if_icmp .eq 5, 3) := by decide +kernel
theorem dL_law_1240 : decode cL_law 1240 = .ok (.iconst 0, 1) := by decide +kernel
theorem dL_law_1241 : decode cL_law 1241 = .ok (.ireturn, 1) := by decide +kernel
theorem dL_law_1242 : decode cL_law 1242 = .ok (.iload 5, 2) := by decide +kernel
theorem dL_law_1244 : decode cL_law 1244 = .ok (.ifCond .ne 15, 3) := by decide +kernel
theorem dL_law_1247 : decode cL_law 1247 = .ok (.aload_n 3, 1) := by decide +kernel
theorem dL_law_1248 : decode cL_law 1248 = .ok (.iconst 0, 1) := by decide +kernel
theorem dL_law_1249 : decode cL_law 1249 = .ok (.laload, 1) := by decide +kernel
theorem dL_law_1250 : decode cL_law 1250 = .ok (.iload 6, 2) := by decide +kernel
theorem dL_law_1252 : decode cL_law 1252 = .ok (.i2l, 1) := by decide +kernel
theorem dL_law_1253 : decode cL_law 1253 = .ok (.lcmp, 1) := by decide +kernel
theorem dL_law_1254 : decode cL_law 1254 = .ok (.ifCond .eq 5, 3) := by decide +kernel
theorem dL_law_1257 : decode cL_law 1257 = .ok (.iconst 0, 1) := by decide +kernel
theorem dL_law_1258 : decode cL_law 1258 = .ok (.ireturn, 1) := by decide +kernel
theorem dL_law_1259 : decode cL_law 1259 = .ok (.goto 455, 3) := by decide +kernel
theorem dL_law_1262 : decode cL_law 1262 = .ok (.aload_n 1, 1) := by decide +kernel
theorem dL_law_1263 : decode cL_law 1263 = .ok (.aload_n 0, 1) := by decide +kernel
theorem dL_law_1264 : decode cL_law 1264 = .ok (.iload 4, 2) := by decide +kernel
theorem dL_law_1266 : decode cL_law 1266 = .ok (.iconst 1, 1) := by decide +kernel
theorem dL_law_1267 : decode cL_law 1267 = .ok (.iadd, 1) := by decide +kernel
theorem dL_law_1268 : decode cL_law 1268 = .ok (.iaload, 1) := by decide +kernel
theorem dL_law_1269 : decode cL_law 1269 = .ok (.aload_n 0, 1) := by decide +kernel
theorem dL_law_1270 : decode cL_law 1270 = .ok (.iload 4, 2) := by decide +kernel
theorem dL_law_1272 : decode cL_law 1272 = .ok (.iconst 2, 1) := by decide +kernel
theorem dL_law_1273 : decode cL_law 1273 = .ok (.iadd, 1) := by decide +kernel
theorem dL_law_1274 : decode cL_law 1274 = .ok (.iaload, 1) := by decide +kernel
theorem dL_law_1275 : decode cL_law 1275 = .ok (.aload_n 3, 1) := by decide +kernel
theorem dL_law_1276 : decode cL_law 1276 = .ok (.invokestatic 160, 3) := by decide +kernel
theorem dL_law_1279 : decode cL_law 1279 = .ok (.istore 5, 2) := by decide +kernel
theorem dL_law_1281 : decode cL_law 1281 = .ok (.aload_n 2, 1) := by decide +kernel
theorem dL_law_1282 : decode cL_law 1282 = .ok (.aload_n 0, 1) := by decide +kernel
theorem dL_law_1283 : decode cL_law 1283 = .ok (.iload 4, 2) := by decide +kernel
theorem dL_law_1285 : decode cL_law 1285 = .ok (.iconst 1, 1) := by decide +kernel
theorem dL_law_1286 : decode cL_law 1286 = .ok (.iadd, 1) := by decide +kernel
theorem dL_law_1287 : decode cL_law 1287 = .ok (.iaload, 1) := by decide +kernel
theorem dL_law_1288 : decode cL_law 1288 = .ok (.aload_n 0, 1) := by decide +kernel
theorem dL_law_1289 : decode cL_law 1289 = .ok (.iload 4, 2) := by decide +kernel
theorem dL_law_1291 : decode cL_law 1291 = .ok (.iconst 2, 1) := by decide +kernel
theorem dL_law_1292 : decode cL_law 1292 = .ok (.iadd, 1) := by decide +kernel
theorem dL_law_1293 : decode cL_law 1293 = .ok (.iaload, 1) := by decide +kernel
theorem dL_law_1294 : decode cL_law 1294 = .ok (.invokevirtual 162, 3) := by decide +kernel
theorem dL_law_1297 : decode cL_law 1297 = .ok (.istore 6, 2) := by decide +kernel
theorem dL_law_1299 : decode cL_law 1299 = .ok (.aload_n 2, 1) := by decide +kernel
theorem dL_law_1300 : decode cL_law 1300 = .ok (.invokevirtual 98, 3) := by decide +kernel
theorem dL_law_1303 : decode cL_law 1303 = .ok (.iload 5, 2) := by decide +kernel
theorem dL_law_1305 : decode cL_law 1305 = .ok (.if_icmp .eq 5, 3) := by decide +kernel
theorem dL_law_1308 : decode cL_law 1308 = .ok (.iconst 0, 1) := by decide +kernel
theorem dL_law_1309 : decode cL_law 1309 = .ok (.ireturn, 1) := by decide +kernel
theorem dL_law_1310 : decode cL_law 1310 = .ok (.iload 5, 2) := by decide +kernel
theorem dL_law_1312 : decode cL_law 1312 = .ok (.ifCond .ne 15, 3) := by decide +kernel
theorem dL_law_1315 : decode cL_law 1315 = .ok (.aload_n 3, 1) := by decide +kernel
theorem dL_law_1316 : decode cL_law 1316 = .ok (.iconst 0, 1) := by decide +kernel
theorem dL_law_1317 : decode cL_law 1317 = .ok (.laload, 1) := by decide +kernel
theorem dL_law_1318 : decode cL_law 1318 = .ok (.iload 6, 2) := by decide +kernel
theorem dL_law_1320 : decode cL_law 1320 = .ok (.i2l, 1) := by decide +kernel
theorem dL_law_1321 : decode cL_law 1321 = .ok (.lcmp, 1) := by decide +kernel
theorem dL_law_1322 : decode cL_law 1322 = .ok (.ifCond .eq 5, 3) := by decide +kernel
theorem dL_law_1325 : decode cL_law 1325 = .ok (.iconst 0, 1) := by decide +kernel
theorem dL_law_1326 : decode cL_law 1326 = .ok (.ireturn, 1) := by decide +kernel
theorem dL_law_1327 : decode cL_law 1327 = .ok (.goto 387, 3) := by decide +kernel
theorem dL_law_1330 : decode cL_law 1330 = .ok (.aload_n 1, 1) := by decide +kernel
theorem dL_law_1331 : decode cL_law 1331 = .ok (.aload_n 0, 1) := by decide +kernel
theorem dL_law_1332 : decode cL_law 1332 = .ok (.iload 4, 2) := by decide +kernel
theorem dL_law_1334 : decode cL_law 1334 = .ok (.iconst 1, 1) := by decide +kernel
theorem dL_law_1335 : decode cL_law 1335 = .ok (.iadd, 1) := by decide +kernel
theorem dL_law_1336 : decode cL_law 1336 = .ok (.iaload, 1) := by decide +kernel
theorem dL_law_1337 : decode cL_law 1337 = .ok (.aload_n 3, 1) := by decide +kernel
theorem dL_law_1338 : decode cL_law 1338 = .ok (.invokestatic 163, 3) := by decide +kernel
theorem dL_law_1341 : decode cL_law 1341 = .ok (.istore 5, 2) := by decide +kernel
theorem dL_law_1343 : decode cL_law 1343 = .ok (.aload_n 2, 1) := by decide +kernel
theorem dL_law_1344 : decode cL_law 1344 = .ok (.aload_n 0, 1) := by decide +kernel
theorem dL_law_1345 : decode cL_law 1345 = .ok (.iload 4, 2) := by decide +kernel
theorem dL_law_1347 : decode cL_law 1347 = .ok (.iconst 1, 1) := by decide +kernel
theorem dL_law_1348 : decode cL_law 1348 = .ok (.iadd, 1) := by decide +kernel
theorem dL_law_1349 : decode cL_law 1349 = .ok (.iaload, 1) := by decide +kernel
theorem dL_law_1350 : decode cL_law 1350 = .ok (.invokevirtual 165, 3) := by decide +kernel
theorem dL_law_1353 : decode cL_law 1353 = .ok (.istore 6, 2) := by decide +kernel
theorem dL_law_1355 : decode cL_law 1355 = .ok (.aload_n 2, 1) := by decide +kernel
theorem dL_law_1356 : decode cL_law 1356 = .ok (.invokevirtual 98, 3) := by decide +kernel
theorem dL_law_1359 : decode cL_law 1359 = .ok (.iload 5, 2) := by decide +kernel
theorem dL_law_1361 : decode cL_law 1361 = .ok (.if_icmp .eq 5, 3) := by decide +kernel
theorem dL_law_1364 : decode cL_law 1364 = .ok (.iconst 0, 1) := by decide +kernel
theorem dL_law_1365 : decode cL_law 1365 = .ok (.ireturn, 1) := by decide +kernel
theorem dL_law_1366 : decode cL_law 1366 = .ok (.iload 5, 2) := by decide +kernel
theorem dL_law_1368 : decode cL_law 1368 = .ok (.ifCond .ne 15, 3) := by decide +kernel
theorem dL_law_1371 : decode cL_law 1371 = .ok (.aload_n 3, 1) := by decide +kernel
theorem dL_law_1372 : decode cL_law 1372 = .ok (.iconst 0, 1) := by decide +kernel
theorem dL_law_1373 : decode cL_law 1373 = .ok (.laload, 1) := by decide +kernel
theorem dL_law_1374 : decode cL_law 1374 = .ok (.iload 6, 2) := by decide +kernel
theorem dL_law_1376 : decode cL_law 1376 = .ok (.i2l, 1) := by decide +kernel
theorem dL_law_1377 : decode cL_law 1377 = .ok (.lcmp, 1) := by decide +kernel
theorem dL_law_1378 : decode cL_law 1378 = .ok (.ifCond .eq 5, 3) := by decide +kernel
theorem dL_law_1381 : decode cL_law 1381 = .ok (.iconst 0, 1) := by decide +kernel
theorem dL_law_1382 : decode cL_law 1382 = .ok (.ireturn, 1) := by decide +kernel
theorem dL_law_1383 : decode cL_law 1383 = .ok (.goto 331, 3) := by decide +kernel
theorem dL_law_1386 : decode cL_law 1386 = .ok (.aload_n 1, 1) := by decide +kernel
theorem dL_law_1387 : decode cL_law 1387 = .ok (.aload_n 0, 1) := by decide +kernel
theorem dL_law_1388 : decode cL_law 1388 = .ok (.iload 4, 2) := by decide +kernel
theorem dL_law_1390 : decode cL_law 1390 = .ok (.iconst 1, 1) := by decide +kernel
theorem dL_law_1391 : decode cL_law 1391 = .ok (.iadd, 1) := by decide +kernel
theorem dL_law_1392 : decode cL_law 1392 = .ok (.iaload, 1) := by decide +kernel
theorem dL_law_1393 : decode cL_law 1393 = .ok (.aload_n 3, 1) := by decide +kernel
theorem dL_law_1394 : decode cL_law 1394 = .ok (.invokestatic 166, 3) := by decide +kernel
theorem dL_law_1397 : decode cL_law 1397 = .ok (.istore 5, 2) := by decide +kernel
theorem dL_law_1399 : decode cL_law 1399 = .ok (.aload_n 2, 1) := by decide +kernel
theorem dL_law_1400 : decode cL_law 1400 = .ok (.aload_n 0, 1) := by decide +kernel
theorem dL_law_1401 : decode cL_law 1401 = .ok (.iload 4, 2) := by decide +kernel
theorem dL_law_1403 : decode cL_law 1403 = .ok (.iconst 1, 1) := by decide +kernel
theorem dL_law_1404 : decode cL_law 1404 = .ok (.iadd, 1) := by decide +kernel
theorem dL_law_1405 : decode cL_law 1405 = .ok (.iaload, 1) := by decide +kernel
theorem dL_law_1406 : decode cL_law 1406 = .ok (.invokevirtual 168, 3) := by decide +kernel
theorem dL_law_1409 : decode cL_law 1409 = .ok (.istore 6, 2) := by decide +kernel
theorem dL_law_1411 : decode cL_law 1411 = .ok (.aload_n 2, 1) := by decide +kernel
theorem dL_law_1412 : decode cL_law 1412 = .ok (.invokevirtual 98, 3) := by decide +kernel
theorem dL_law_1415 : decode cL_law 1415 = .ok (.iload 5, 2) := by decide +kernel
theorem dL_law_1417 : decode cL_law 1417 = .ok (.if_icmp .eq 5, 3) := by decide +kernel
theorem dL_law_1420 : decode cL_law 1420 = .ok (.iconst 0, 1) := by decide +kernel
theorem dL_law_1421 : decode cL_law 1421 = .ok (.ireturn, 1) := by decide +kernel
theorem dL_law_1422 : decode cL_law 1422 = .ok (.iload 5, 2) := by decide +kernel
theorem dL_law_1424 : decode cL_law 1424 = .ok (.ifCond .ne 15, 3) := by decide +kernel
theorem dL_law_1427 : decode cL_law 1427 = .ok (.aload_n 3, 1) := by decide +kernel
theorem dL_law_1428 : decode cL_law 1428 = .ok (.iconst 0, 1) := by decide +kernel
theorem dL_law_1429 : decode cL_law 1429 = .ok (.laload, 1) := by decide +kernel
theorem dL_law_1430 : decode cL_law 1430 = .ok (.iload 6, 2) := by decide +kernel
theorem dL_law_1432 : decode cL_law 1432 = .ok (.i2l, 1) := by decide +kernel
theorem dL_law_1433 : decode cL_law 1433 = .ok (.lcmp, 1) := by decide +kernel
theorem dL_law_1434 : decode cL_law 1434 = .ok (.ifCond .eq 5, 3) := by decide +kernel
theorem dL_law_1437 : decode cL_law 1437 = .ok (.iconst 0, 1) := by decide +kernel
theorem dL_law_1438 : decode cL_law 1438 = .ok (.ireturn, 1) := by decide +kernel
theorem dL_law_1439 : decode cL_law 1439 = .ok (.goto 275, 3) := by decide +kernel
theorem dL_law_1442 : decode cL_law 1442 = .ok (.aload_n 1, 1) := by decide +kernel
theorem dL_law_1443 : decode cL_law 1443 = .ok (.aload_n 0, 1) := by decide +kernel
theorem dL_law_1444 : decode cL_law 1444 = .ok (.iload 4, 2) := by decide +kernel
theorem dL_law_1446 : decode cL_law 1446 = .ok (.iconst 1, 1) := by decide +kernel
theorem dL_law_1447 : decode cL_law 1447 = .ok (.iadd, 1) := by decide +kernel
theorem dL_law_1448 : decode cL_law 1448 = .ok (.iaload, 1) := by decide +kernel
theorem dL_law_1449 : decode cL_law 1449 = .ok (.aload_n 0, 1) := by decide +kernel
theorem dL_law_1450 : decode cL_law 1450 = .ok (.iload 4, 2) := by decide +kernel
theorem dL_law_1452 : decode cL_law 1452 = .ok (.iconst 2, 1) := by decide +kernel
theorem dL_law_1453 : decode cL_law 1453 = .ok (.iadd, 1) := by decide +kernel
theorem dL_law_1454 : decode cL_law 1454 = .ok (.iaload, 1) := by decide +kernel
theorem dL_law_1455 : decode cL_law 1455 = .ok (.aload_n 3, 1) := by decide +kernel
theorem dL_law_1456 : decode cL_law 1456 = .ok (.invokestatic 169, 3) := by decide +kernel
theorem dL_law_1459 : decode cL_law 1459 = .ok (.istore 5, 2) := by decide +kernel
theorem dL_law_1461 : decode cL_law 1461 = .ok (.aload_n 2, 1) := by decide +kernel
theorem dL_law_1462 : decode cL_law 1462 = .ok (.aload_n 0, 1) := by decide +kernel
theorem dL_law_1463 : decode cL_law 1463 = .ok (.iload 4, 2) := by decide +kernel
theorem dL_law_1465 : decode cL_law 1465 = .ok (.iconst 1, 1) := by decide +kernel
theorem dL_law_1466 : decode cL_law 1466 = .ok (.iadd, 1) := by decide +kernel
theorem dL_law_1467 : decode cL_law 1467 = .ok (.iaload, 1) := by decide +kernel
theorem dL_law_1468 : decode cL_law 1468 = .ok (.aload_n 0, 1) := by decide +kernel
theorem dL_law_1469 : decode cL_law 1469 = .ok (.iload 4, 2) := by decide +kernel
theorem dL_law_1471 : decode cL_law 1471 = .ok (.iconst 2, 1) := by decide +kernel
theorem dL_law_1472 : decode cL_law 1472 = .ok (.iadd, 1) := by decide +kernel
theorem dL_law_1473 : decode cL_law 1473 = .ok (.iaload, 1) := by decide +kernel
theorem dL_law_1474 : decode cL_law 1474 = .ok (.invokevirtual 171, 3) := by decide +kernel
theorem dL_law_1477 : decode cL_law 1477 = .ok (.istore 6, 2) := by decide +kernel
theorem dL_law_1479 : decode cL_law 1479 = .ok (.aload_n 2, 1) := by decide +kernel
theorem dL_law_1480 : decode cL_law 1480 = .ok (.invokevirtual 98, 3) := by decide +kernel
theorem dL_law_1483 : decode cL_law 1483 = .ok (.iload 5, 2) := by decide +kernel
theorem dL_law_1485 : decode cL_law 1485 = .ok (.if_icmp .eq 5, 3) := by decide +kernel
theorem dL_law_1488 : decode cL_law 1488 = .ok (.iconst 0, 1) := by decide +kernel
theorem dL_law_1489 : decode cL_law 1489 = .ok (.ireturn, 1) := by decide +kernel
theorem dL_law_1490 : decode cL_law 1490 = .ok (.iload 5, 2) := by decide +kernel
theorem dL_law_1492 : decode cL_law 1492 = .ok (.ifCond .ne 15, 3) := by decide +kernel
theorem dL_law_1495 : decode cL_law 1495 = .ok (.aload_n 3, 1) := by decide +kernel
theorem dL_law_1496 : decode cL_law 1496 = .ok (.iconst 0, 1) := by decide +kernel
theorem dL_law_1497 : decode cL_law 1497 = .ok (.laload, 1) := by decide +kernel
theorem dL_law_1498 : decode cL_law 1498 = .ok (.iload 6, 2) := by decide +kernel
theorem dL_law_1500 : decode cL_law 1500 = .ok (.i2l, 1) := by decide +kernel
theorem dL_law_1501 : decode cL_law 1501 = .ok (.lcmp, 1) := by decide +kernel
theorem dL_law_1502 : decode cL_law 1502 = .ok (.ifCond .eq 5, 3) := by decide +kernel
theorem dL_law_1505 : decode cL_law 1505 = .ok (.iconst 0, 1) := by decide +kernel
theorem dL_law_1506 : decode cL_law 1506 = .ok (.ireturn, 1) := by decide +kernel
theorem dL_law_1507 : decode cL_law 1507 = .ok (.goto 207, 3) := by decide +kernel
theorem dL_law_1510 : decode cL_law 1510 = .ok (.aload_n 1, 1) := by decide +kernel
theorem dL_law_1511 : decode cL_law 1511 = .ok (.aload_n 0, 1) := by decide +kernel
theorem dL_law_1512 : decode cL_law 1512 = .ok (.iload 4, 2) := by decide +kernel
theorem dL_law_1514 : decode cL_law 1514 = .ok (.iconst 1, 1) := by decide +kernel
theorem dL_law_1515 : decode cL_law 1515 = .ok (.iadd, 1) := by decide +kernel
theorem dL_law_1516 : decode cL_law 1516 = .ok (.iaload, 1) := by decide +kernel
theorem dL_law_1517 : decode cL_law 1517 = .ok (.aload_n 0, 1) := by decide +kernel
theorem dL_law_1518 : decode cL_law 1518 = .ok (.iload 4, 2) := by decide +kernel
theorem dL_law_1520 : decode cL_law 1520 = .ok (.iconst 2, 1) := by decide +kernel
theorem dL_law_1521 : decode cL_law 1521 = .ok (.iadd, 1) := by decide +kernel
theorem dL_law_1522 : decode cL_law 1522 = .ok (.iaload, 1) := by decide +kernel
theorem dL_law_1523 : decode cL_law 1523 = .ok (.aload_n 0, 1) := by decide +kernel
theorem dL_law_1524 : decode cL_law 1524 = .ok (.iload 4, 2) := by decide +kernel
theorem dL_law_1526 : decode cL_law 1526 = .ok (.iconst 3, 1) := by decide +kernel
theorem dL_law_1527 : decode cL_law 1527 = .ok (.iadd, 1) := by decide +kernel
theorem dL_law_1528 : decode cL_law 1528 = .ok (.iaload, 1) := by decide +kernel
theorem dL_law_1529 : decode cL_law 1529 = .ok (.aload_n 3, 1) := by decide +kernel
theorem dL_law_1530 : decode cL_law 1530 = .ok (.invokestatic 172, 3) := by decide +kernel
theorem dL_law_1533 : decode cL_law 1533 = .ok (.istore 5, 2) := by decide +kernel
theorem dL_law_1535 : decode cL_law 1535 = .ok (.aload_n 2, 1) := by decide +kernel
theorem dL_law_1536 : decode cL_law 1536 = .ok (.aload_n 0, 1) := by decide +kernel
theorem dL_law_1537 : decode cL_law 1537 = .ok (.iload 4, 2) := by decide +kernel
theorem dL_law_1539 : decode cL_law 1539 = .ok (.iconst 1, 1) := by decide +kernel
theorem dL_law_1540 : decode cL_law 1540 = .ok (.iadd, 1) := by decide +kernel
theorem dL_law_1541 : decode cL_law 1541 = .ok (.iaload, 1) := by decide +kernel
theorem dL_law_1542 : decode cL_law 1542 = .ok (.aload_n 0, 1) := by decide +kernel
theorem dL_law_1543 : decode cL_law 1543 = .ok (.iload 4, 2) := by decide +kernel
theorem dL_law_1545 : decode cL_law 1545 = .ok (.iconst 2, 1) := by decide +kernel
theorem dL_law_1546 : decode cL_law 1546 = .ok (.iadd, 1) := by decide +kernel
theorem dL_law_1547 : decode cL_law 1547 = .ok (.iaload, 1) := by decide +kernel
theorem dL_law_1548 : decode cL_law 1548 = .ok (.aload_n 0, 1) := by decide +kernel
theorem dL_law_1549 : decode cL_law 1549 = .ok (.iload 4, 2) := by decide +kernel
theorem dL_law_1551 : decode cL_law 1551 = .ok (.iconst 3, 1) := by decide +kernel
theorem dL_law_1552 : decode cL_law 1552 = .ok (.iadd, 1) := by decide +kernel
theorem dL_law_1553 : decode cL_law 1553 = .ok (.iaload, 1) := by decide +kernel
theorem dL_law_1554 : decode cL_law 1554 = .ok (.invokevirtual 174, 3) := by decide +kernel
theorem dL_law_1557 : decode cL_law 1557 = .ok (.istore 6, 2) := by decide +kernel
theorem dL_law_1559 : decode cL_law 1559 = .ok (.aload_n 2, 1) := by decide +kernel
theorem dL_law_1560 : decode cL_law 1560 = .ok (.invokevirtual 98, 3) := by decide +kernel
theorem dL_law_1563 : decode cL_law 1563 = .ok (.iload 5, 2) := by decide +kernel
theorem dL_law_1565 : decode cL_law 1565 = .ok (.if_icmp .eq 5, 3) := by decide +kernel
theorem dL_law_1568 : decode cL_law 1568 = .ok (.iconst 0, 1) := by decide +kernel
theorem dL_law_1569 : decode cL_law 1569 = .ok (.ireturn, 1) := by decide +kernel
theorem dL_law_1570 : decode cL_law 1570 = .ok (.iload 5, 2) := by decide +kernel
theorem dL_law_1572 : decode cL_law 1572 = .ok (.ifCond .ne 15, 3) := by decide +kernel
theorem dL_law_1575 : decode cL_law 1575 = .ok (.aload_n 3, 1) := by decide +kernel
theorem dL_law_1576 : decode cL_law 1576 = .ok (.iconst 0, 1) := by decide +kernel
theorem dL_law_1577 : decode cL_law 1577 = .ok (.laload, 1) := by decide +kernel
theorem dL_law_1578 : decode cL_law 1578 = .ok (.iload 6, 2) := by decide +kernel
theorem dL_law_1580 : decode cL_law 1580 = .ok (.i2l, 1) := by decide +kernel
theorem dL_law_1581 : decode cL_law 1581 = .ok (.lcmp, 1) := by decide +kernel
theorem dL_law_1582 : decode cL_law 1582 = .ok (.ifCond .eq 5, 3) := by decide +kernel
theorem dL_law_1585 : decode cL_law 1585 = .ok (.iconst 0, 1) := by decide +kernel
theorem dL_law_1586 : decode cL_law 1586 = .ok (.ireturn, 1) := by decide +kernel
theorem dL_law_1587 : decode cL_law 1587 = .ok (.goto 127, 3) := by decide +kernel
theorem dL_law_1590 : decode cL_law 1590 = .ok (.aload_n 1, 1) := by decide +kernel
theorem dL_law_1591 : decode cL_law 1591 = .ok (.aload_n 0, 1) := by decide +kernel
theorem dL_law_1592 : decode cL_law 1592 = .ok (.iload 4, 2) := by decide +kernel
theorem dL_law_1594 : decode cL_law 1594 = .ok (.iconst 1, 1) := by decide +kernel
theorem dL_law_1595 : decode cL_law 1595 = .ok (.iadd, 1) := by decide +kernel
theorem dL_law_1596 : decode cL_law 1596 = .ok (.iaload, 1) := by decide +kernel
theorem dL_law_1597 : decode cL_law 1597 = .ok (.aload_n 3, 1) := by decide +kernel
theorem dL_law_1598 : decode cL_law 1598 = .ok (.invokestatic 175, 3) := by decide +kernel
theorem dL_law_1601 : decode cL_law 1601 = .ok (.istore 5, 2) := by decide +kernel
theorem dL_law_1603 : decode cL_law 1603 = .ok (.aload_n 2, 1) := by decide +kernel
theorem dL_law_1604 : decode cL_law 1604 = .ok (.aload_n 0, 1) := by decide +kernel
theorem dL_law_1605 : decode cL_law 1605 = .ok (.iload 4, 2) := by decide +kernel
theorem dL_law_1607 : decode cL_law 1607 = .ok (.iconst 1, 1) := by decide +kernel
theorem dL_law_1608 : decode cL_law 1608 = .ok (.iadd, 1) := by decide +kernel
theorem dL_law_1609 : decode cL_law 1609 = .ok (.iaload, 1) := by decide +kernel
theorem dL_law_1610 : decode cL_law 1610 = .ok (.invokevirtual 177, 3) := by decide +kernel
theorem dL_law_1613 : decode cL_law 1613 = .ok (.istore 6, 2) := by decide +kernel
theorem dL_law_1615 : decode cL_law 1615 = .ok (.aload_n 2, 1) := by decide +kernel
theorem dL_law_1616 : decode cL_law 1616 = .ok (.invokevirtual 98, 3) := by decide +kernel
theorem dL_law_1619 : decode cL_law 1619 = .ok (.iload 5, 2) := by decide +kernel
theorem dL_law_1621 : decode cL_law 1621 = .ok (.if_icmp .eq 5, 3) := by decide +kernel
theorem dL_law_1624 : decode cL_law 1624 = .ok (.iconst 0, 1) := by decide +kernel
theorem dL_law_1625 : decode cL_law 1625 = .ok (.ireturn, 1) := by decide +kernel
theorem dL_law_1626 : decode cL_law 1626 = .ok (.iload 5, 2) := by decide +kernel
theorem dL_law_1628 : decode cL_law 1628 = .ok (.ifCond .ne 15, 3) := by decide +kernel
theorem dL_law_1631 : decode cL_law 1631 = .ok (.aload_n 3, 1) := by decide +kernel
theorem dL_law_1632 : decode cL_law 1632 = .ok (.iconst 0, 1) := by decide +kernel
theorem dL_law_1633 : decode cL_law 1633 = .ok (.laload, 1) := by decide +kernel
theorem dL_law_1634 : decode cL_law 1634 = .ok (.iload 6, 2) := by decide +kernel
theorem dL_law_1636 : decode cL_law 1636 = .ok (.i2l, 1) := by decide +kernel
theorem dL_law_1637 : decode cL_law 1637 = .ok (.lcmp, 1) := by decide +kernel
theorem dL_law_1638 : decode cL_law 1638 = .ok (.ifCond .eq 5, 3) := by decide +kernel
theorem dL_law_1641 : decode cL_law 1641 = .ok (.iconst 0, 1) := by decide +kernel
theorem dL_law_1642 : decode cL_law 1642 = .ok (.ireturn, 1) := by decide +kernel
theorem dL_law_1643 : decode cL_law 1643 = .ok (.goto 71, 3) := by decide +kernel
theorem dL_law_1646 : decode cL_law 1646 = .ok (.aload_n 1, 1) := by decide +kernel
theorem dL_law_1647 : decode cL_law 1647 = .ok (.invokevirtual 178, 3) := by decide +kernel
theorem dL_law_1650 : decode cL_law 1650 = .ok (.aload_n 2, 1) := by decide +kernel
theorem dL_law_1651 : decode cL_law 1651 = .ok (.invokevirtual 181, 3) := by decide +kernel
theorem dL_law_1654 : decode cL_law 1654 = .ok (.if_icmp .eq 60, 3) := by decide +kernel
theorem dL_law_1657 : decode cL_law 1657 = .ok (.iconst 0, 1) := by decide +kernel
theorem dL_law_1658 : decode cL_law 1658 = .ok (.ireturn, 1) := by decide +kernel
theorem dL_law_1659 : decode cL_law 1659 = .ok (.aload_n 1, 1) := by decide +kernel
theorem dL_law_1660 : decode cL_law 1660 = .ok (.invokevirtual 182, 3) := by decide +kernel
theorem dL_law_1663 : decode cL_law 1663 = .ok (.dstore 5, 2) := by decide +kernel
theorem dL_law_1665 : decode cL_law 1665 = .ok (.aload_n 2, 1) := by decide +kernel
theorem dL_law_1666 : decode cL_law 1666 = .ok (.invokevirtual 186, 3) := by decide +kernel
theorem dL_law_1669 : decode cL_law 1669 = .ok (.dstore 7, 2) := by decide +kernel
theorem dL_law_1671 : decode cL_law 1671 = .ok (.dload 5, 2) := by decide +kernel
theorem dL_law_1673 : decode cL_law 1673 = .ok (.dload 7, 2) := by decide +kernel
theorem dL_law_1675 : decode cL_law 1675 = .ok (.dcmp .l, 1) := by decide +kernel
theorem dL_law_1676 : decode cL_law 1676 = .ok (.ifCond .eq 21, 3) := by decide +kernel
theorem dL_law_1679 : decode cL_law 1679 = .ok (.dload 5, 2) := by decide +kernel
theorem dL_law_1681 : decode cL_law 1681 = .ok (.dload 5, 2) := by decide +kernel
theorem dL_law_1683 : decode cL_law 1683 = .ok (.dcmp .l, 1) := by decide +kernel
theorem dL_law_1684 : decode cL_law 1684 = .ok (.ifCond .eq 11, 3) := by decide +kernel
theorem dL_law_1687 : decode cL_law 1687 = .ok (.dload 7, 2) := by decide +kernel
theorem dL_law_1689 : decode cL_law 1689 = .ok (.dload 7, 2) := by decide +kernel
theorem dL_law_1691 : decode cL_law 1691 = .ok (.dcmp .l, 1) := by decide +kernel
theorem dL_law_1692 : decode cL_law 1692 = .ok (.ifCond .ne 5, 3) := by decide +kernel
theorem dL_law_1695 : decode cL_law 1695 = .ok (.iconst 0, 1) := by decide +kernel
theorem dL_law_1696 : decode cL_law 1696 = .ok (.ireturn, 1) := by decide +kernel
theorem dL_law_1697 : decode cL_law 1697 = .ok (.goto 17, 3) := by decide +kernel
theorem dL_law_1700 : decode cL_law 1700 = .ok (.aload_n 1, 1) := by decide +kernel
theorem dL_law_1701 : decode cL_law 1701 = .ok (.invokevirtual 187, 3) := by decide +kernel
theorem dL_law_1704 : decode cL_law 1704 = .ok (.aload_n 2, 1) := by decide +kernel
theorem dL_law_1705 : decode cL_law 1705 = .ok (.invokevirtual 191, 3) := by decide +kernel
theorem dL_law_1708 : decode cL_law 1708 = .ok (.lcmp, 1) := by decide +kernel
theorem dL_law_1709 : decode cL_law 1709 = .ok (.ifCond .eq 5, 3) := by decide +kernel
theorem dL_law_1712 : decode cL_law 1712 = .ok (.iconst 0, 1) := by decide +kernel
theorem dL_law_1713 : decode cL_law 1713 = .ok (.ireturn, 1) := by decide +kernel
theorem dL_law_1714 : decode cL_law 1714 = .ok (.iinc 4 4, 3) := by decide +kernel
theorem dL_law_1717 : decode cL_law 1717 = .ok (.goto (-1694), 3) := by decide +kernel
theorem dL_law_1720 : decode cL_law 1720 = .ok (.iconst 1, 1) := by decide +kernel
theorem dL_law_1721 : decode cL_law 1721 = .ok (.ireturn, 1) := by decide +kernel
end
section
def ky_strs : List (Nat × String) := [(36, "many is out of range"), (47, "there would be too many sets"), (298, "there is no such kind"), (68, "there would be too many spare parts"), (293, "there is no such set"), (304, "the set is not in the yard"), (302, "many is below 1"), (314, "the set has not so many parts of the kind"), (296, "there is no such site"), (108, "there are not so many whole sets in the yard"), (117, "the set is in the yard or on this site"), (309, "the set is in the yard"), (132, "money is out of range"), (137, "the bill is less than that"), (146, "days is out of range"), (152, "the day would be too late"), (300, "there is no such setting"), (163, "value is out of range"), (171, "code is out of range"), (176, "the buffer is full"), (191, "the buffer is not a complete row of orders"), (208, "there is no saved state"), (216, "there is no such property of a set"), (221, "there is no such property of a site"), (226, "there is no such number of parts"), (231, "there is no such number"), (239, "cost is out of range")]
/-! ===== a walk over a fixed layout: slots by number, one state of numbers ===== -/
abbrev ky_St : Type := (Nat → Nat → Int32) × (Nat → Int64)
/-- launch, addresses by slot, base, script's length, classes, class of int rows -/
abbrev ky_G : Type := Launch × (Nat → Nat) × Nat × Nat × va_G × ClassId
/-- name, code, locals, returns, handlers -/
abbrev ky_Md : Type := MethodName × ByteArray × Nat × Option FieldType × List (Nat × Nat × Nat × Nat)
abbrev ky_O : Type := String ⊕ Option Value
def ky_A (G : ky_G) : Nat → Prop := fun q => G.2.2.1 ≤ q
abbrev ky_r (G : ky_G) (k : Nat) : Value := .ref (G.2.1 k)
def ky_cls : List vw_C := [(RX0, TX0, 17), (RX1, TX1, 3), (RX2, TX2, 6), (RX3, TX3, 4), (RX4, TX4, 12)]
def ky_bk (k : Nat) : Bool := decide (20 ≤ k) && (decide (k < 111) && decide ((k - 20) % 13 = 0))
def ky_cl (k : Nat) : Nat := if k = 0 then 3 else if k = 2 then 1 else if k = 3 then 2 else if k = 7 then 4 else if ky_bk k = true then 0 else 9
def ky_N (c : Nat) : Nat := if c = 0 then 17 else if c = 1 then 3 else if c = 2 then 6 else if c = 3 then 4 else 12
def ky_ty (c f : Nat) : Nat := if c = 0 then (if f < 5 then 0 else 1) else if c = 1 then (if f = 0 then 1 else 0) else if c = 2 then (if f = 0 then 1 else 0) else if c = 3 then 1
  else if f = 11 then 2 else if f = 0 then 1 else if f = 2 then 1 else if f = 4 then 1 else if f = 6 then 1 else if f = 10 then 1 else 0
def ky_lk (k f : Nat) : Nat := if k = 0 then (if f = 0 then 20 else f + 1) else if k = 2 then 5 else if k = 3 then 6 else if k = 7 then (if f = 0 then 8 else if f = 2 then 9 else if f = 4 then 10 else if f = 6 then 11 else 12) else k + (f - 4)
def ky_val (G : ky_G) (σ : ky_St) (k f : Nat) : Value := if ky_ty (ky_cl k) f = 0 then .int (σ.1 k f) else if ky_ty (ky_cl k) f = 1 then ky_r G (ky_lk k f) else .long (σ.2 k)
def ky_bl (i : Nat) : Option Nat := if i = 0 then none else if i = 1 then some 2 else if i < 5 then some 24 else if i = 5 then some 72 else if i = 6 then some 96 else if i < 9 then some 4 else some 6
/-- the rows of ints -/
def ky_len (L k : Nat) : Option Nat := if k = 4 then some 4 else if k = 6 then some 60 else if k = 8 then some 283 else if k = 9 then some 1698 else if k = 10 then some 60 else if k = 11 then some 66 else if k = 12 then some 4
  else if k = 13 then some 4 else if k = 14 then some 4 else if k = 15 then some L else if 20 ≤ k ∧ k < 111 then ky_bl ((k - 20) % 13) else none
def ky_ro (k : Nat) : Bool := k == 13 || (k == 14 || k == 15)
def ky_us (k : Nat) : Bool := (decide (k < 17) && decide (k ≠ 1)) || (decide (20 ≤ k) && decide (k < 111))
def ky_arr (G : ky_G) (U : State) (σ : ky_St) (H : Heap) (k n : Nat) : Prop :=
  (ky_ro k = true ∧ va_X (G.2.1 k) n (σ.1 k) U H) ∨ (ky_ro k = false ∧ H[G.2.1 k]? = some (vp_cell G.2.2.2.2.2 (n, .inl (σ.1 k))))
def ky_ring (G : ky_G) (U : State) (H : Heap) : Prop := ∃ scr : Cell, H[G.2.1 5]? = some scr ∧ U.isArrayOf scr (.object RX0) ∧ scr.vm ≠ .unknown ∧ scr.slots.size = 6 ∧ ∀ j : Nat, j < 6 → scr.slots[j]? = some (ky_r G (33 + 13 * j))
def ky_out (G : ky_G) (U : State) (σ : ky_St) (H : Heap) : Prop := ∃ scr : Cell, H[G.2.1 16]? = some scr ∧ U.isArrayOf scr .long ∧ scr.vm ≠ .unknown ∧ scr.slots.size = 1 ∧ scr.slots[0]? = some (.long (σ.2 16))
/-- the heap holds the layout -/
def ky_M (G : ky_G) (U : State) (σ : ky_St) (H : Heap) : Prop :=
  (∀ k, ky_cl k < 5 → t_OB (G.2.1 k) (G.2.2.2.2.1.1 (ky_cl k)) (ky_N (ky_cl k)) (G.2.2.2.2.1.2 (ky_cl k)) H (ky_val G σ k)) ∧
  (∀ k n, ky_len G.2.2.2.1 k = some n → ky_arr G U σ H k n) ∧ ky_ring G U H ∧ ky_out G U σ H
def ky_I (G : ky_G) : Prop := G.1.stackTraces = false ∧ (∀ j k, ky_us j = true → ky_us k = true → G.2.1 j = G.2.1 k → j = k) ∧ ∀ k, ky_us k = true → ky_ro k = false → ky_A G (G.2.1 k)
def ky_nest : List Cond := [.methodLinkNest RX3 25 yX2_init RX3, .methodLinkNest RX0 105 yX3_add RX3, .methodLinkNest RX0 70 yX3_copy RX3, .methodLinkNest RX0 78 yX3_at RX3, .methodLinkNest RX0 98 yX3_put RX3, .methodLinkNest RX2 19 yX3_put RX3, .methodLinkNest RX2 26 yX3_at RX3, .declares (Bundle.initS "java/lang/RuntimeException"), .declares (Bundle.initS "java/lang/Exception"), .declares (Bundle.initS Bundle.tN)]
def ky_ex1 : String := "java/lang/IllegalArgumentException"
def ky_ex2 : String := "java/lang/IllegalStateException"
def ky_ex3 : String := "java/lang/IndexOutOfBoundsException"
def ky_ws : List Cond := lw_tbl.filter goodWord
/-- what the tables and the statics say of a state -/
def ky_E (G : ky_G) (U : State) (H : Heap) : Prop :=
  (∀ (c : Nat) (q : vw_C), ky_cls[c]? = some q → u_Kn U q.1 q.2.1 q.2.2 (G.2.2.2.2.1.1 c) (G.2.2.2.2.1.2 c)) ∧ (ArrOfT U G.2.2.2.2.2 .int) ∧
  (∀ q ∈ ky_nest, va_Nw q U) ∧ (∀ q ∈ ky_strs, ∃ sa, vk_R RX3 q.1 q.2 sa U) ∧
  (∀ a ∈ [ky_ex1, ky_ex2, ky_ex3], ∀ b ∈ [ky_ex1, ky_ex2, ky_ex3], a ≠ b → va_Nc a b U) ∧ (∀ a ∈ [ky_ex1, ky_ex2, ky_ex3], va_Nw (.castable a a) U) ∧
  vx_Zq Bundle.tN "UNASSIGNED_STACK" Bundle.steD (ky_A G) U H ∧ vx_Zq Bundle.tN "SUPPRESSED_SENTINEL" Bundle.listD (ky_A G) U H ∧
  va_Z RX3 "WHOLE" "[I" (ky_r G 13) (ky_A G) U H ∧ va_Z RX3 "PRICE" "[I" (ky_r G 14) (ky_A G) U H

def ky_C (G : ky_G) (M : ky_Md) (d : Nat) (p : Program) (R : Room) (s : State) (m : MethodId) (args : Array Value) (meth : Method) (c : Code) (mc ms : Nat) : Prop :=
  p.tables.exec = Jvm.exec ∧ c.code = M.2.1 ∧ meth.sig.returnType = M.2.2.2.1 ∧ c.maxLocals = M.2.2.1 ∧ s.vm.findClass M.1.cls = some m.cls ∧ (∀ w ∈ ky_ws, w.before args s = true) ∧ ky_E G s s.heap ∧ meth.locks = false ∧
  c.exceptionTable.toList = tableOf M.2.2.2.2 ∧ ky_I G ∧ G.2.2.1 ≤ s.heap.size ∧ d ≤ R.frames ∧ 35 * d ≤ R.locals ∧ mc ≤ R.cells ∧ ms ≤ R.slots
def ky_Qc (G : ky_G) (o : ky_O) (σ' : ky_St) : Array Value → State → Outcome → State → Prop := fun _ st oc t => ∃ v : Option Value, oc = .returned v ∧ o = .inr v ∧ ky_M G t σ' t.heap ∧ va_F (ky_A G) st t
def ky_XC (G : ky_G) (o : ky_O) (σ' : ky_St) : String → State → State → Prop := fun E st t => o = .inl E ∧ ky_M G t σ' t.heap ∧ va_F (ky_A G) st t
/-- from here the method M ends with o, and the state σ' -/
def ky_T (G : ky_G) (M : ky_Md) (d kc ks pc : Nat) (lv : List (Nat × Value)) (st : List Value) (σ : ky_St) (o : ky_O) (σ' : ky_St) : Prop :=
  ∀ (p : Program) (e : Env) (R : Room) (s : State) (m : MethodId) (args : Array Value) (below : List Frame) (meth : Method) (c : Code) (H : Heap) (locs : List Loc) (cells slots mc ms : Nat) (ls : Array Slot),
    ky_C G M d p R s m args meth c mc ms → va_S (ky_A G) s.heap H locs → ky_M G s σ H → lv_has ls M.2.2.1 lv → cells + kc ≤ mc → slots + ks ≤ ms →
    W p G.1 e R s m args below meth c H locs cells slots (vx_MQ below (ky_Qc G o σ') (ky_XC G o σ') args s mc ms (ky_A G)) (F0 m pc ls st)
section KYrows
variable {G : ky_G} {M : ky_Md} {d kc ks pc n : Nat} {lv lv' : List (Nat × Value)} {st : List Value} {σ σ' : ky_St} {o : ky_O}

theorem ky_iconst {i : Int} {v : Int32} (hd : decode M.2.1 pc = .ok (.iconst i, 1)) (hn : pc + 1 = n) (hv : Int32.ofInt i = v) (k : ky_T G M d kc ks n lv (.int v :: st) σ o σ') : ky_T G M d kc ks pc lv (st) σ o σ' := by
  intro p e R s m args below meth c H locs cells slots mc ms ls C hS hM hl h1 h2
  subst hn
  exact lv_iconst C.1 C.2.1 hd hv (k p e R s m args below meth c H locs cells slots mc ms ls C hS hM hl h1 h2)
theorem ky_bipush {i : Int} {v : Int32} (hd : decode M.2.1 pc = .ok (.bipush i, 2)) (hn : pc + 2 = n) (hv : (Int8.ofInt i).toInt32 = v) (k : ky_T G M d kc ks n lv (.int v :: st) σ o σ') : ky_T G M d kc ks pc lv (st) σ o σ' := by
  intro p e R s m args below meth c H locs cells slots mc ms ls C hS hM hl h1 h2
  subst hn
  exact lv_bipush C.1 C.2.1 hd hv (k p e R s m args below meth c H locs cells slots mc ms ls C hS hM hl h1 h2)
theorem ky_sipush {i : Int} {v : Int32} (hd : decode M.2.1 pc = .ok (.sipush i, 3)) (hn : pc + 3 = n) (hv : (Int16.ofInt i).toInt32 = v) (k : ky_T G M d kc ks n lv (.int v :: st) σ o σ') : ky_T G M d kc ks pc lv (st) σ o σ' := by
  intro p e R s m args below meth c H locs cells slots mc ms ls C hS hM hl h1 h2
  subst hn
  exact lv_sipush C.1 C.2.1 hd hv (k p e R s m args below meth c H locs cells slots mc ms ls C hS hM hl h1 h2)
theorem ky_lconst {i : Fin 2} {v : Int64} (hd : decode M.2.1 pc = .ok (.lconst i, 1)) (hn : pc + 1 = n) (hv : Int64.ofNat (i : Nat) = v) (k : ky_T G M d kc ks n lv (.long v :: st) σ o σ') : ky_T G M d kc ks pc lv (st) σ o σ' := by
  intro p e R s m args below meth c H locs cells slots mc ms ls C hS hM hl h1 h2
  subst hn
  exact lv_lconst C.1 C.2.1 hd hv (k p e R s m args below meth c H locs cells slots mc ms ls C hS hM hl h1 h2)
theorem ky_dconst0  (hd : decode M.2.1 pc = .ok (.dconst 0, 1)) (hn : pc + 1 = n) (k : ky_T G M d kc ks n lv (.double FP.dconst0 :: st) σ o σ') : ky_T G M d kc ks pc lv (st) σ o σ' := by
  intro p e R s m args below meth c H locs cells slots mc ms ls C hS hM hl h1 h2
  subst hn
  exact lv_dconst0 C.1 C.2.1 hd (k p e R s m args below meth c H locs cells slots mc ms ls C hS hM hl h1 h2)
theorem ky_dconst1  (hd : decode M.2.1 pc = .ok (.dconst 1, 1)) (hn : pc + 1 = n) (k : ky_T G M d kc ks n lv (.double FP.dconst1 :: st) σ o σ') : ky_T G M d kc ks pc lv (st) σ o σ' := by
  intro p e R s m args below meth c H locs cells slots mc ms ls C hS hM hl h1 h2
  subst hn
  exact lv_dconst1 C.1 C.2.1 hd (k p e R s m args below meth c H locs cells slots mc ms ls C hS hM hl h1 h2)
theorem ky_null  (hd : decode M.2.1 pc = .ok (.aconst_null, 1)) (hn : pc + 1 = n) (k : ky_T G M d kc ks n lv (.null :: st) σ o σ') : ky_T G M d kc ks pc lv (st) σ o σ' := by
  intro p e R s m args below meth c H locs cells slots mc ms ls C hS hM hl h1 h2
  subst hn
  exact lv_null C.1 C.2.1 hd (k p e R s m args below meth c H locs cells slots mc ms ls C hS hM hl h1 h2)
theorem ky_iload_n {q : Fin 4} {i : Nat} {x : Int32} (hd : decode M.2.1 pc = .ok (.iload_n q, 1)) (hn : pc + 1 = n) (hi : (q : Nat) = i) (t : Nat) (hk : lv[t]? = some (i, .int x)) (k : ky_T G M d kc ks n lv (.int x :: st) σ o σ') : ky_T G M d kc ks pc lv (st) σ o σ' := by
  intro p e R s m args below meth c H locs cells slots mc ms ls C hS hM hl h1 h2
  subst hn
  exact lv_iload_n C.1 C.2.1 hd hi (lv_at hl t hk) (k p e R s m args below meth c H locs cells slots mc ms ls C hS hM hl h1 h2)
theorem ky_iload {i : Nat} {x : Int32} (hd : decode M.2.1 pc = .ok (.iload i, 2)) (hn : pc + 2 = n) (t : Nat) (hk : lv[t]? = some (i, .int x)) (k : ky_T G M d kc ks n lv (.int x :: st) σ o σ') : ky_T G M d kc ks pc lv (st) σ o σ' := by
  intro p e R s m args below meth c H locs cells slots mc ms ls C hS hM hl h1 h2
  subst hn
  exact lv_iload C.1 C.2.1 hd (lv_at hl t hk) (k p e R s m args below meth c H locs cells slots mc ms ls C hS hM hl h1 h2)
theorem ky_istore_n {q : Fin 4} {i : Nat} {x : Int32} (hd : decode M.2.1 pc = .ok (.istore_n q, 1)) (hn : pc + 1 = n) (hi : (q : Nat) = i) (hb : i < M.2.2.1) (hk : (i, Value.int x) :: lv.filter (fun q => !(q.1 == i) && !(q.1 + 1 == i && q.2.category == 2)) = lv') (k : ky_T G M d kc ks n lv' (st) σ o σ') : ky_T G M d kc ks pc lv (.int x :: st) σ o σ' := by
  intro p e R s m args below meth c H locs cells slots mc ms ls C hS hM hl h1 h2
  subst hn
  exact lv_istore_n C.1 C.2.1 hd hi hl hb hk (fun ls2 hl2 => k p e R s m args below meth c H locs cells slots mc ms ls2 C hS hM hl2 h1 h2)
theorem ky_istore {i : Nat} {x : Int32} (hd : decode M.2.1 pc = .ok (.istore i, 2)) (hn : pc + 2 = n) (hb : i < M.2.2.1) (hk : (i, Value.int x) :: lv.filter (fun q => !(q.1 == i) && !(q.1 + 1 == i && q.2.category == 2)) = lv') (k : ky_T G M d kc ks n lv' (st) σ o σ') : ky_T G M d kc ks pc lv (.int x :: st) σ o σ' := by
  intro p e R s m args below meth c H locs cells slots mc ms ls C hS hM hl h1 h2
  subst hn
  exact lv_istore C.1 C.2.1 hd hl hb hk (fun ls2 hl2 => k p e R s m args below meth c H locs cells slots mc ms ls2 C hS hM hl2 h1 h2)
theorem ky_lload_n {q : Fin 4} {i : Nat} {x : Int64} (hd : decode M.2.1 pc = .ok (.lload_n q, 1)) (hn : pc + 1 = n) (hi : (q : Nat) = i) (t : Nat) (hk : lv[t]? = some (i, .long x)) (k : ky_T G M d kc ks n lv (.long x :: st) σ o σ') : ky_T G M d kc ks pc lv (st) σ o σ' := by
  intro p e R s m args below meth c H locs cells slots mc ms ls C hS hM hl h1 h2
  subst hn
  exact lv_lload_n C.1 C.2.1 hd hi (lv_at hl t hk) (k p e R s m args below meth c H locs cells slots mc ms ls C hS hM hl h1 h2)
theorem ky_lload {i : Nat} {x : Int64} (hd : decode M.2.1 pc = .ok (.lload i, 2)) (hn : pc + 2 = n) (t : Nat) (hk : lv[t]? = some (i, .long x)) (k : ky_T G M d kc ks n lv (.long x :: st) σ o σ') : ky_T G M d kc ks pc lv (st) σ o σ' := by
  intro p e R s m args below meth c H locs cells slots mc ms ls C hS hM hl h1 h2
  subst hn
  exact lv_lload C.1 C.2.1 hd (lv_at hl t hk) (k p e R s m args below meth c H locs cells slots mc ms ls C hS hM hl h1 h2)
theorem ky_lstore_n {q : Fin 4} {i : Nat} {x : Int64} (hd : decode M.2.1 pc = .ok (.lstore_n q, 1)) (hn : pc + 1 = n) (hi : (q : Nat) = i) (hb : i + 1 < M.2.2.1) (hk : (i, Value.long x) :: lv.filter (fun q => !(q.1 == i) && (!(q.1 == i + 1) && !(q.1 + 1 == i && q.2.category == 2))) = lv') (k : ky_T G M d kc ks n lv' (st) σ o σ') : ky_T G M d kc ks pc lv (.long x :: st) σ o σ' := by
  intro p e R s m args below meth c H locs cells slots mc ms ls C hS hM hl h1 h2
  subst hn
  exact lv_lstore_n C.1 C.2.1 hd hi hl hb hk (fun ls2 hl2 => k p e R s m args below meth c H locs cells slots mc ms ls2 C hS hM hl2 h1 h2)
theorem ky_lstore {i : Nat} {x : Int64} (hd : decode M.2.1 pc = .ok (.lstore i, 2)) (hn : pc + 2 = n) (hb : i + 1 < M.2.2.1) (hk : (i, Value.long x) :: lv.filter (fun q => !(q.1 == i) && (!(q.1 == i + 1) && !(q.1 + 1 == i && q.2.category == 2))) = lv') (k : ky_T G M d kc ks n lv' (st) σ o σ') : ky_T G M d kc ks pc lv (.long x :: st) σ o σ' := by
  intro p e R s m args below meth c H locs cells slots mc ms ls C hS hM hl h1 h2
  subst hn
  exact lv_lstore C.1 C.2.1 hd hl hb hk (fun ls2 hl2 => k p e R s m args below meth c H locs cells slots mc ms ls2 C hS hM hl2 h1 h2)
theorem ky_dload_n {q : Fin 4} {i : Nat} {x : UInt64} (hd : decode M.2.1 pc = .ok (.dload_n q, 1)) (hn : pc + 1 = n) (hi : (q : Nat) = i) (t : Nat) (hk : lv[t]? = some (i, .double x)) (k : ky_T G M d kc ks n lv (.double x :: st) σ o σ') : ky_T G M d kc ks pc lv (st) σ o σ' := by
  intro p e R s m args below meth c H locs cells slots mc ms ls C hS hM hl h1 h2
  subst hn
  exact lv_dload_n C.1 C.2.1 hd hi (lv_at hl t hk) (k p e R s m args below meth c H locs cells slots mc ms ls C hS hM hl h1 h2)
theorem ky_dload {i : Nat} {x : UInt64} (hd : decode M.2.1 pc = .ok (.dload i, 2)) (hn : pc + 2 = n) (t : Nat) (hk : lv[t]? = some (i, .double x)) (k : ky_T G M d kc ks n lv (.double x :: st) σ o σ') : ky_T G M d kc ks pc lv (st) σ o σ' := by
  intro p e R s m args below meth c H locs cells slots mc ms ls C hS hM hl h1 h2
  subst hn
  exact lv_dload C.1 C.2.1 hd (lv_at hl t hk) (k p e R s m args below meth c H locs cells slots mc ms ls C hS hM hl h1 h2)
theorem ky_dstore_n {q : Fin 4} {i : Nat} {x : UInt64} (hd : decode M.2.1 pc = .ok (.dstore_n q, 1)) (hn : pc + 1 = n) (hi : (q : Nat) = i) (hb : i + 1 < M.2.2.1) (hk : (i, Value.double x) :: lv.filter (fun q => !(q.1 == i) && (!(q.1 == i + 1) && !(q.1 + 1 == i && q.2.category == 2))) = lv') (k : ky_T G M d kc ks n lv' (st) σ o σ') : ky_T G M d kc ks pc lv (.double x :: st) σ o σ' := by
  intro p e R s m args below meth c H locs cells slots mc ms ls C hS hM hl h1 h2
  subst hn
  exact lv_dstore_n C.1 C.2.1 hd hi hl hb hk (fun ls2 hl2 => k p e R s m args below meth c H locs cells slots mc ms ls2 C hS hM hl2 h1 h2)
theorem ky_dstore {i : Nat} {x : UInt64} (hd : decode M.2.1 pc = .ok (.dstore i, 2)) (hn : pc + 2 = n) (hb : i + 1 < M.2.2.1) (hk : (i, Value.double x) :: lv.filter (fun q => !(q.1 == i) && (!(q.1 == i + 1) && !(q.1 + 1 == i && q.2.category == 2))) = lv') (k : ky_T G M d kc ks n lv' (st) σ o σ') : ky_T G M d kc ks pc lv (.double x :: st) σ o σ' := by
  intro p e R s m args below meth c H locs cells slots mc ms ls C hS hM hl h1 h2
  subst hn
  exact lv_dstore C.1 C.2.1 hd hl hb hk (fun ls2 hl2 => k p e R s m args below meth c H locs cells slots mc ms ls2 C hS hM hl2 h1 h2)
theorem ky_aload_n {q : Fin 4} {i : Nat} {x : Nat} (hd : decode M.2.1 pc = .ok (.aload_n q, 1)) (hn : pc + 1 = n) (hi : (q : Nat) = i) (t : Nat) (hk : lv[t]? = some (i, .ref x)) (k : ky_T G M d kc ks n lv (.ref x :: st) σ o σ') : ky_T G M d kc ks pc lv (st) σ o σ' := by
  intro p e R s m args below meth c H locs cells slots mc ms ls C hS hM hl h1 h2
  subst hn
  exact lv_aload_n C.1 C.2.1 hd hi (lv_at hl t hk) (k p e R s m args below meth c H locs cells slots mc ms ls C hS hM hl h1 h2)
theorem ky_aload {i : Nat} {x : Nat} (hd : decode M.2.1 pc = .ok (.aload i, 2)) (hn : pc + 2 = n) (t : Nat) (hk : lv[t]? = some (i, .ref x)) (k : ky_T G M d kc ks n lv (.ref x :: st) σ o σ') : ky_T G M d kc ks pc lv (st) σ o σ' := by
  intro p e R s m args below meth c H locs cells slots mc ms ls C hS hM hl h1 h2
  subst hn
  exact lv_aload C.1 C.2.1 hd (lv_at hl t hk) (k p e R s m args below meth c H locs cells slots mc ms ls C hS hM hl h1 h2)
theorem ky_astore_n {q : Fin 4} {i : Nat} {x : Nat} (hd : decode M.2.1 pc = .ok (.astore_n q, 1)) (hn : pc + 1 = n) (hi : (q : Nat) = i) (hb : i < M.2.2.1) (hk : (i, Value.ref x) :: lv.filter (fun q => !(q.1 == i) && !(q.1 + 1 == i && q.2.category == 2)) = lv') (k : ky_T G M d kc ks n lv' (st) σ o σ') : ky_T G M d kc ks pc lv (.ref x :: st) σ o σ' := by
  intro p e R s m args below meth c H locs cells slots mc ms ls C hS hM hl h1 h2
  subst hn
  exact lv_astore_n C.1 C.2.1 hd hi hl hb hk (fun ls2 hl2 => k p e R s m args below meth c H locs cells slots mc ms ls2 C hS hM hl2 h1 h2)
theorem ky_astore {i : Nat} {x : Nat} (hd : decode M.2.1 pc = .ok (.astore i, 2)) (hn : pc + 2 = n) (hb : i < M.2.2.1) (hk : (i, Value.ref x) :: lv.filter (fun q => !(q.1 == i) && !(q.1 + 1 == i && q.2.category == 2)) = lv') (k : ky_T G M d kc ks n lv' (st) σ o σ') : ky_T G M d kc ks pc lv (.ref x :: st) σ o σ' := by
  intro p e R s m args below meth c H locs cells slots mc ms ls C hS hM hl h1 h2
  subst hn
  exact lv_astore C.1 C.2.1 hd hl hb hk (fun ls2 hl2 => k p e R s m args below meth c H locs cells slots mc ms ls2 C hS hM hl2 h1 h2)
theorem ky_aload_nN {q : Fin 4} {i : Nat} (hd : decode M.2.1 pc = .ok (.aload_n q, 1)) (hn : pc + 1 = n) (hi : (q : Nat) = i) (t : Nat) (hk : lv[t]? = some (i, .null)) (k : ky_T G M d kc ks n lv (.null :: st) σ o σ') : ky_T G M d kc ks pc lv (st) σ o σ' := by
  intro p e R s m args below meth c H locs cells slots mc ms ls C hS hM hl h1 h2
  subst hn
  exact lv_aload_nN C.1 C.2.1 hd hi (lv_at hl t hk) (k p e R s m args below meth c H locs cells slots mc ms ls C hS hM hl h1 h2)
theorem ky_iinc {i : Nat} {j : Int} {x v : Int32} (hd : decode M.2.1 pc = .ok (.iinc i j, 3)) (hn : pc + 3 = n) (t : Nat) (hk : lv[t]? = some (i, .int x)) (hv : x + Int32.ofInt j = v) (hb : i < M.2.2.1) (hk2 : (i, Value.int v) :: lv.filter (fun q => !(q.1 == i) && !(q.1 + 1 == i && q.2.category == 2)) = lv') (k : ky_T G M d kc ks n lv' (st) σ o σ') : ky_T G M d kc ks pc lv (st) σ o σ' := by
  intro p e R s m args below meth c H locs cells slots mc ms ls C hS hM hl h1 h2
  subst hn
  exact lv_iinc C.1 C.2.1 hd hl hk hv hb hk2 (fun ls2 hl2 => k p e R s m args below meth c H locs cells slots mc ms ls2 C hS hM hl2 h1 h2)
theorem ky_iadd {x y : Int32} (hd : decode M.2.1 pc = .ok (.iadd, 1)) (hn : pc + 1 = n) (k : ky_T G M d kc ks n lv (.int (x + y) :: st) σ o σ') : ky_T G M d kc ks pc lv (.int y :: .int x :: st) σ o σ' := by
  intro p e R s m args below meth c H locs cells slots mc ms ls C hS hM hl h1 h2
  subst hn
  exact lv_iadd C.1 C.2.1 hd (k p e R s m args below meth c H locs cells slots mc ms ls C hS hM hl h1 h2)
theorem ky_isub {x y : Int32} (hd : decode M.2.1 pc = .ok (.isub, 1)) (hn : pc + 1 = n) (k : ky_T G M d kc ks n lv (.int (x - y) :: st) σ o σ') : ky_T G M d kc ks pc lv (.int y :: .int x :: st) σ o σ' := by
  intro p e R s m args below meth c H locs cells slots mc ms ls C hS hM hl h1 h2
  subst hn
  exact lv_isub C.1 C.2.1 hd (k p e R s m args below meth c H locs cells slots mc ms ls C hS hM hl h1 h2)
theorem ky_imul {x y : Int32} (hd : decode M.2.1 pc = .ok (.imul, 1)) (hn : pc + 1 = n) (k : ky_T G M d kc ks n lv (.int (x * y) :: st) σ o σ') : ky_T G M d kc ks pc lv (.int y :: .int x :: st) σ o σ' := by
  intro p e R s m args below meth c H locs cells slots mc ms ls C hS hM hl h1 h2
  subst hn
  exact lv_imul C.1 C.2.1 hd (k p e R s m args below meth c H locs cells slots mc ms ls C hS hM hl h1 h2)
theorem ky_iand {x y : Int32} (hd : decode M.2.1 pc = .ok (.iand, 1)) (hn : pc + 1 = n) (k : ky_T G M d kc ks n lv (.int (x &&& y) :: st) σ o σ') : ky_T G M d kc ks pc lv (.int y :: .int x :: st) σ o σ' := by
  intro p e R s m args below meth c H locs cells slots mc ms ls C hS hM hl h1 h2
  subst hn
  exact lv_iand C.1 C.2.1 hd (k p e R s m args below meth c H locs cells slots mc ms ls C hS hM hl h1 h2)
theorem ky_ladd {x y : Int64} (hd : decode M.2.1 pc = .ok (.ladd, 1)) (hn : pc + 1 = n) (k : ky_T G M d kc ks n lv (.long (x + y) :: st) σ o σ') : ky_T G M d kc ks pc lv (.long y :: .long x :: st) σ o σ' := by
  intro p e R s m args below meth c H locs cells slots mc ms ls C hS hM hl h1 h2
  subst hn
  exact lv_ladd C.1 C.2.1 hd (k p e R s m args below meth c H locs cells slots mc ms ls C hS hM hl h1 h2)
theorem ky_lsub {x y : Int64} (hd : decode M.2.1 pc = .ok (.lsub, 1)) (hn : pc + 1 = n) (k : ky_T G M d kc ks n lv (.long (x - y) :: st) σ o σ') : ky_T G M d kc ks pc lv (.long y :: .long x :: st) σ o σ' := by
  intro p e R s m args below meth c H locs cells slots mc ms ls C hS hM hl h1 h2
  subst hn
  exact lv_lsub C.1 C.2.1 hd (k p e R s m args below meth c H locs cells slots mc ms ls C hS hM hl h1 h2)
theorem ky_lmul {x y : Int64} (hd : decode M.2.1 pc = .ok (.lmul, 1)) (hn : pc + 1 = n) (k : ky_T G M d kc ks n lv (.long (x * y) :: st) σ o σ') : ky_T G M d kc ks pc lv (.long y :: .long x :: st) σ o σ' := by
  intro p e R s m args below meth c H locs cells slots mc ms ls C hS hM hl h1 h2
  subst hn
  exact lv_lmul C.1 C.2.1 hd (k p e R s m args below meth c H locs cells slots mc ms ls C hS hM hl h1 h2)
theorem ky_idiv {x y : Int32} (hd : decode M.2.1 pc = .ok (.idiv, 1)) (hn : pc + 1 = n) (hne : ¬ y = 0) (k : ky_T G M d kc ks n lv (.int (x / y) :: st) σ o σ') : ky_T G M d kc ks pc lv (.int y :: .int x :: st) σ o σ' := by
  intro p e R s m args below meth c H locs cells slots mc ms ls C hS hM hl h1 h2
  subst hn
  exact lv_idiv C.1 C.2.1 hd hne (k p e R s m args below meth c H locs cells slots mc ms ls C hS hM hl h1 h2)
theorem ky_irem {x y : Int32} (hd : decode M.2.1 pc = .ok (.irem, 1)) (hn : pc + 1 = n) (hne : ¬ y = 0) (k : ky_T G M d kc ks n lv (.int (x - x / y * y) :: st) σ o σ') : ky_T G M d kc ks pc lv (.int y :: .int x :: st) σ o σ' := by
  intro p e R s m args below meth c H locs cells slots mc ms ls C hS hM hl h1 h2
  subst hn
  exact lv_irem C.1 C.2.1 hd hne (k p e R s m args below meth c H locs cells slots mc ms ls C hS hM hl h1 h2)
theorem ky_ineg {x : Int32} (hd : decode M.2.1 pc = .ok (.ineg, 1)) (hn : pc + 1 = n) (k : ky_T G M d kc ks n lv (.int (-x) :: st) σ o σ') : ky_T G M d kc ks pc lv (.int x :: st) σ o σ' := by
  intro p e R s m args below meth c H locs cells slots mc ms ls C hS hM hl h1 h2
  subst hn
  exact lv_ineg C.1 C.2.1 hd (k p e R s m args below meth c H locs cells slots mc ms ls C hS hM hl h1 h2)
theorem ky_i2l {x : Int32} (hd : decode M.2.1 pc = .ok (.i2l, 1)) (hn : pc + 1 = n) (k : ky_T G M d kc ks n lv (.long x.toInt64 :: st) σ o σ') : ky_T G M d kc ks pc lv (.int x :: st) σ o σ' := by
  intro p e R s m args below meth c H locs cells slots mc ms ls C hS hM hl h1 h2
  subst hn
  exact lv_i2l C.1 C.2.1 hd rfl (k p e R s m args below meth c H locs cells slots mc ms ls C hS hM hl h1 h2)
theorem ky_i2d {x : Int32} (hd : decode M.2.1 pc = .ok (.i2d, 1)) (hn : pc + 1 = n) (k : ky_T G M d kc ks n lv (.double (FP.i2d x) :: st) σ o σ') : ky_T G M d kc ks pc lv (.int x :: st) σ o σ' := by
  intro p e R s m args below meth c H locs cells slots mc ms ls C hS hM hl h1 h2
  subst hn
  exact lv_i2d C.1 C.2.1 hd (k p e R s m args below meth c H locs cells slots mc ms ls C hS hM hl h1 h2)
theorem ky_d2l {x : UInt64} (hd : decode M.2.1 pc = .ok (.d2l, 1)) (hn : pc + 1 = n) (k : ky_T G M d kc ks n lv (.long (FP.d2l x) :: st) σ o σ') : ky_T G M d kc ks pc lv (.double x :: st) σ o σ' := by
  intro p e R s m args below meth c H locs cells slots mc ms ls C hS hM hl h1 h2
  subst hn
  exact lv_d2l C.1 C.2.1 hd (k p e R s m args below meth c H locs cells slots mc ms ls C hS hM hl h1 h2)
theorem ky_ddiv {x y : UInt64} (hd : decode M.2.1 pc = .ok (.ddiv, 1)) (hn : pc + 1 = n) (hne : vf_n64 (FP.ddiv x y)) (k : ky_T G M d kc ks n lv (.double (FP.ddiv x y) :: st) σ o σ') : ky_T G M d kc ks pc lv (.double y :: .double x :: st) σ o σ' := by
  intro p e R s m args below meth c H locs cells slots mc ms ls C hS hM hl h1 h2
  subst hn
  exact lv_ddiv C.1 C.2.1 hd hne (k p e R s m args below meth c H locs cells slots mc ms ls C hS hM hl h1 h2)
theorem ky_dmul {x y : UInt64} (hd : decode M.2.1 pc = .ok (.dmul, 1)) (hn : pc + 1 = n) (hne : vf_n64 (FP.dmul x y)) (k : ky_T G M d kc ks n lv (.double (FP.dmul x y) :: st) σ o σ') : ky_T G M d kc ks pc lv (.double y :: .double x :: st) σ o σ' := by
  intro p e R s m args below meth c H locs cells slots mc ms ls C hS hM hl h1 h2
  subst hn
  exact lv_dmul C.1 C.2.1 hd hne (k p e R s m args below meth c H locs cells slots mc ms ls C hS hM hl h1 h2)
theorem ky_dsub {x y : UInt64} (hd : decode M.2.1 pc = .ok (.dsub, 1)) (hn : pc + 1 = n) (hne : vf_n64 (FP.dsub x y)) (k : ky_T G M d kc ks n lv (.double (FP.dsub x y) :: st) σ o σ') : ky_T G M d kc ks pc lv (.double y :: .double x :: st) σ o σ' := by
  intro p e R s m args below meth c H locs cells slots mc ms ls C hS hM hl h1 h2
  subst hn
  exact lv_dsub C.1 C.2.1 hd hne (k p e R s m args below meth c H locs cells slots mc ms ls C hS hM hl h1 h2)
theorem ky_dcmp {x y : UInt64} {op : CmpOp} (hd : decode M.2.1 pc = .ok (.dcmp op, 1)) (hn : pc + 1 = n) (k : ky_T G M d kc ks n lv (.int (Op.cmpValue (FP.dcmp x y) op) :: st) σ o σ') : ky_T G M d kc ks pc lv (.double y :: .double x :: st) σ o σ' := by
  intro p e R s m args below meth c H locs cells slots mc ms ls C hS hM hl h1 h2
  subst hn
  exact lv_dcmp C.1 C.2.1 hd (k p e R s m args below meth c H locs cells slots mc ms ls C hS hM hl h1 h2)
theorem ky_lcmp {x y : Int64} (hd : decode M.2.1 pc = .ok (.lcmp, 1)) (hn : pc + 1 = n) (k : ky_T G M d kc ks n lv (.int (lg_cmp x y) :: st) σ o σ') : ky_T G M d kc ks pc lv (.long y :: .long x :: st) σ o σ' := by
  intro p e R s m args below meth c H locs cells slots mc ms ls C hS hM hl h1 h2
  subst hn
  exact W.lcmp C.1 C.2.1 hd (k p e R s m args below meth c H locs cells slots mc ms ls C hS hM hl h1 h2)
theorem ky_lshl {x : Int64} {y : Int32} (hd : decode M.2.1 pc = .ok (.lshl, 1)) (hn : pc + 1 = n) (k : ky_T G M d kc ks n lv (.long (x <<< (y.toInt64 &&& 63)) :: st) σ o σ') : ky_T G M d kc ks pc lv (.int y :: .long x :: st) σ o σ' := by
  intro p e R s m args below meth c H locs cells slots mc ms ls C hS hM hl h1 h2
  subst hn
  exact lv_lshl C.1 C.2.1 hd rfl (k p e R s m args below meth c H locs cells slots mc ms ls C hS hM hl h1 h2)
theorem ky_dup {v : Value} (hd : decode M.2.1 pc = .ok (.dup, 1)) (hn : pc + 1 = n) (hv : v.category = 1) (k : ky_T G M d kc ks n lv (v :: v :: st) σ o σ') : ky_T G M d kc ks pc lv (v :: st) σ o σ' := by
  intro p e R s m args below meth c H locs cells slots mc ms ls C hS hM hl h1 h2
  subst hn
  exact lv_dup C.1 C.2.1 hd hv (k p e R s m args below meth c H locs cells slots mc ms ls C hS hM hl h1 h2)
theorem ky_dup2 {v w : Value} (hd : decode M.2.1 pc = .ok (.dup2, 1)) (hn : pc + 1 = n) (hv : v.category = 1) (hw : w.category = 1) (k : ky_T G M d kc ks n lv (v :: w :: v :: w :: st) σ o σ') : ky_T G M d kc ks pc lv (v :: w :: st) σ o σ' := by
  intro p e R s m args below meth c H locs cells slots mc ms ls C hS hM hl h1 h2
  subst hn
  exact lv_dup2_11 C.1 C.2.1 hd hv hw (k p e R s m args below meth c H locs cells slots mc ms ls C hS hM hl h1 h2)
theorem ky_pop {v : Value} (hd : decode M.2.1 pc = .ok (.pop, 1)) (hn : pc + 1 = n) (hv : v.category = 1) (k : ky_T G M d kc ks n lv (st) σ o σ') : ky_T G M d kc ks pc lv (v :: st) σ o σ' := by
  intro p e R s m args below meth c H locs cells slots mc ms ls C hS hM hl h1 h2
  subst hn
  exact lv_pop C.1 C.2.1 hd hv (k p e R s m args below meth c H locs cells slots mc ms ls C hS hM hl h1 h2)
theorem ky_ldc2 {i : Nat} {v : Int64} (hd : decode M.2.1 pc = .ok (.ldc2_w i, 3)) (hn : pc + 3 = n) (hc : Cond.constantLong M.1.cls i v ∈ ky_ws) (k : ky_T G M d kc ks n lv (.long v :: st) σ o σ') : ky_T G M d kc ks pc lv (st) σ o σ' := by
  intro p e R s m args below meth c H locs cells slots mc ms ls C hS hM hl h1 h2
  subst hn
  exact lv_ldc2 C.1 C.2.1 C.2.2.2.2.1 (C.2.2.2.2.2.1 _ hc) hd (k p e R s m args below meth c H locs cells slots mc ms ls C hS hM hl h1 h2)
theorem ky_ldc2d {i : Nat} {v : UInt64} (hd : decode M.2.1 pc = .ok (.ldc2_w i, 3)) (hn : pc + 3 = n) (hc : Cond.constantDouble M.1.cls i v ∈ ky_ws) (k : ky_T G M d kc ks n lv (.double v :: st) σ o σ') : ky_T G M d kc ks pc lv (st) σ o σ' := by
  intro p e R s m args below meth c H locs cells slots mc ms ls C hS hM hl h1 h2
  subst hn
  exact lv_ldc2d C.1 C.2.1 C.2.2.2.2.1 (C.2.2.2.2.2.1 _ hc) hd (k p e R s m args below meth c H locs cells slots mc ms ls C hS hM hl h1 h2)
theorem ky_if_eq {x : Int32} {off : Int} {tgt : Nat} (hd : decode M.2.1 pc = .ok (.ifCond .eq off, 3)) (ht : (pc : Int) + off = (tgt : Int)) (hn : pc + 3 = n) (kt : x = 0 → ky_T G M d kc ks tgt lv st σ o σ') (kf : ¬ x = 0 → ky_T G M d kc ks n lv st σ o σ') : ky_T G M d kc ks pc lv (.int x :: st) σ o σ' := by
  intro p e R s m args below meth c H locs cells slots mc ms ls C hS hM hl h1 h2
  subst hn
  exact lv_if_eq C.1 C.2.1 hd ht (fun q => kt q p e R s m args below meth c H locs cells slots mc ms ls C hS hM hl h1 h2) (fun q => kf q p e R s m args below meth c H locs cells slots mc ms ls C hS hM hl h1 h2)
theorem ky_icmp_eq {x y : Int32} {off : Int} {tgt : Nat} (hd : decode M.2.1 pc = .ok (.if_icmp .eq off, 3)) (ht : (pc : Int) + off = (tgt : Int)) (hn : pc + 3 = n) (kt : x = y → ky_T G M d kc ks tgt lv st σ o σ') (kf : ¬ x = y → ky_T G M d kc ks n lv st σ o σ') : ky_T G M d kc ks pc lv (.int y :: .int x :: st) σ o σ' := by
  intro p e R s m args below meth c H locs cells slots mc ms ls C hS hM hl h1 h2
  subst hn
  exact lv_icmp_eq C.1 C.2.1 hd ht (fun q => kt q p e R s m args below meth c H locs cells slots mc ms ls C hS hM hl h1 h2) (fun q => kf q p e R s m args below meth c H locs cells slots mc ms ls C hS hM hl h1 h2)
theorem ky_if_ne {x : Int32} {off : Int} {tgt : Nat} (hd : decode M.2.1 pc = .ok (.ifCond .ne off, 3)) (ht : (pc : Int) + off = (tgt : Int)) (hn : pc + 3 = n) (kt : ¬ x = 0 → ky_T G M d kc ks tgt lv st σ o σ') (kf : x = 0 → ky_T G M d kc ks n lv st σ o σ') : ky_T G M d kc ks pc lv (.int x :: st) σ o σ' := by
  intro p e R s m args below meth c H locs cells slots mc ms ls C hS hM hl h1 h2
  subst hn
  exact lv_if_ne C.1 C.2.1 hd ht (fun q => kt q p e R s m args below meth c H locs cells slots mc ms ls C hS hM hl h1 h2) (fun q => kf q p e R s m args below meth c H locs cells slots mc ms ls C hS hM hl h1 h2)
theorem ky_icmp_ne {x y : Int32} {off : Int} {tgt : Nat} (hd : decode M.2.1 pc = .ok (.if_icmp .ne off, 3)) (ht : (pc : Int) + off = (tgt : Int)) (hn : pc + 3 = n) (kt : ¬ x = y → ky_T G M d kc ks tgt lv st σ o σ') (kf : x = y → ky_T G M d kc ks n lv st σ o σ') : ky_T G M d kc ks pc lv (.int y :: .int x :: st) σ o σ' := by
  intro p e R s m args below meth c H locs cells slots mc ms ls C hS hM hl h1 h2
  subst hn
  exact lv_icmp_ne C.1 C.2.1 hd ht (fun q => kt q p e R s m args below meth c H locs cells slots mc ms ls C hS hM hl h1 h2) (fun q => kf q p e R s m args below meth c H locs cells slots mc ms ls C hS hM hl h1 h2)
theorem ky_if_lt {x : Int32} {off : Int} {tgt : Nat} (hd : decode M.2.1 pc = .ok (.ifCond .lt off, 3)) (ht : (pc : Int) + off = (tgt : Int)) (hn : pc + 3 = n) (kt : x < 0 → ky_T G M d kc ks tgt lv st σ o σ') (kf : ¬ x < 0 → ky_T G M d kc ks n lv st σ o σ') : ky_T G M d kc ks pc lv (.int x :: st) σ o σ' := by
  intro p e R s m args below meth c H locs cells slots mc ms ls C hS hM hl h1 h2
  subst hn
  exact lv_if_lt C.1 C.2.1 hd ht (fun q => kt q p e R s m args below meth c H locs cells slots mc ms ls C hS hM hl h1 h2) (fun q => kf q p e R s m args below meth c H locs cells slots mc ms ls C hS hM hl h1 h2)
theorem ky_icmp_lt {x y : Int32} {off : Int} {tgt : Nat} (hd : decode M.2.1 pc = .ok (.if_icmp .lt off, 3)) (ht : (pc : Int) + off = (tgt : Int)) (hn : pc + 3 = n) (kt : x < y → ky_T G M d kc ks tgt lv st σ o σ') (kf : ¬ x < y → ky_T G M d kc ks n lv st σ o σ') : ky_T G M d kc ks pc lv (.int y :: .int x :: st) σ o σ' := by
  intro p e R s m args below meth c H locs cells slots mc ms ls C hS hM hl h1 h2
  subst hn
  exact lv_icmp_lt C.1 C.2.1 hd ht (fun q => kt q p e R s m args below meth c H locs cells slots mc ms ls C hS hM hl h1 h2) (fun q => kf q p e R s m args below meth c H locs cells slots mc ms ls C hS hM hl h1 h2)
theorem ky_if_ge {x : Int32} {off : Int} {tgt : Nat} (hd : decode M.2.1 pc = .ok (.ifCond .ge off, 3)) (ht : (pc : Int) + off = (tgt : Int)) (hn : pc + 3 = n) (kt : 0 ≤ x → ky_T G M d kc ks tgt lv st σ o σ') (kf : ¬ 0 ≤ x → ky_T G M d kc ks n lv st σ o σ') : ky_T G M d kc ks pc lv (.int x :: st) σ o σ' := by
  intro p e R s m args below meth c H locs cells slots mc ms ls C hS hM hl h1 h2
  subst hn
  exact lv_if_ge C.1 C.2.1 hd ht (fun q => kt q p e R s m args below meth c H locs cells slots mc ms ls C hS hM hl h1 h2) (fun q => kf q p e R s m args below meth c H locs cells slots mc ms ls C hS hM hl h1 h2)
theorem ky_icmp_ge {x y : Int32} {off : Int} {tgt : Nat} (hd : decode M.2.1 pc = .ok (.if_icmp .ge off, 3)) (ht : (pc : Int) + off = (tgt : Int)) (hn : pc + 3 = n) (kt : y ≤ x → ky_T G M d kc ks tgt lv st σ o σ') (kf : ¬ y ≤ x → ky_T G M d kc ks n lv st σ o σ') : ky_T G M d kc ks pc lv (.int y :: .int x :: st) σ o σ' := by
  intro p e R s m args below meth c H locs cells slots mc ms ls C hS hM hl h1 h2
  subst hn
  exact lv_icmp_ge C.1 C.2.1 hd ht (fun q => kt q p e R s m args below meth c H locs cells slots mc ms ls C hS hM hl h1 h2) (fun q => kf q p e R s m args below meth c H locs cells slots mc ms ls C hS hM hl h1 h2)
theorem ky_if_gt {x : Int32} {off : Int} {tgt : Nat} (hd : decode M.2.1 pc = .ok (.ifCond .gt off, 3)) (ht : (pc : Int) + off = (tgt : Int)) (hn : pc + 3 = n) (kt : 0 < x → ky_T G M d kc ks tgt lv st σ o σ') (kf : ¬ 0 < x → ky_T G M d kc ks n lv st σ o σ') : ky_T G M d kc ks pc lv (.int x :: st) σ o σ' := by
  intro p e R s m args below meth c H locs cells slots mc ms ls C hS hM hl h1 h2
  subst hn
  exact lv_if_gt C.1 C.2.1 hd ht (fun q => kt q p e R s m args below meth c H locs cells slots mc ms ls C hS hM hl h1 h2) (fun q => kf q p e R s m args below meth c H locs cells slots mc ms ls C hS hM hl h1 h2)
theorem ky_icmp_gt {x y : Int32} {off : Int} {tgt : Nat} (hd : decode M.2.1 pc = .ok (.if_icmp .gt off, 3)) (ht : (pc : Int) + off = (tgt : Int)) (hn : pc + 3 = n) (kt : y < x → ky_T G M d kc ks tgt lv st σ o σ') (kf : ¬ y < x → ky_T G M d kc ks n lv st σ o σ') : ky_T G M d kc ks pc lv (.int y :: .int x :: st) σ o σ' := by
  intro p e R s m args below meth c H locs cells slots mc ms ls C hS hM hl h1 h2
  subst hn
  exact lv_icmp_gt C.1 C.2.1 hd ht (fun q => kt q p e R s m args below meth c H locs cells slots mc ms ls C hS hM hl h1 h2) (fun q => kf q p e R s m args below meth c H locs cells slots mc ms ls C hS hM hl h1 h2)
theorem ky_if_le {x : Int32} {off : Int} {tgt : Nat} (hd : decode M.2.1 pc = .ok (.ifCond .le off, 3)) (ht : (pc : Int) + off = (tgt : Int)) (hn : pc + 3 = n) (kt : x ≤ 0 → ky_T G M d kc ks tgt lv st σ o σ') (kf : ¬ x ≤ 0 → ky_T G M d kc ks n lv st σ o σ') : ky_T G M d kc ks pc lv (.int x :: st) σ o σ' := by
  intro p e R s m args below meth c H locs cells slots mc ms ls C hS hM hl h1 h2
  subst hn
  exact lv_if_le C.1 C.2.1 hd ht (fun q => kt q p e R s m args below meth c H locs cells slots mc ms ls C hS hM hl h1 h2) (fun q => kf q p e R s m args below meth c H locs cells slots mc ms ls C hS hM hl h1 h2)
theorem ky_icmp_le {x y : Int32} {off : Int} {tgt : Nat} (hd : decode M.2.1 pc = .ok (.if_icmp .le off, 3)) (ht : (pc : Int) + off = (tgt : Int)) (hn : pc + 3 = n) (kt : x ≤ y → ky_T G M d kc ks tgt lv st σ o σ') (kf : ¬ x ≤ y → ky_T G M d kc ks n lv st σ o σ') : ky_T G M d kc ks pc lv (.int y :: .int x :: st) σ o σ' := by
  intro p e R s m args below meth c H locs cells slots mc ms ls C hS hM hl h1 h2
  subst hn
  exact lv_icmp_le C.1 C.2.1 hd ht (fun q => kt q p e R s m args below meth c H locs cells slots mc ms ls C hS hM hl h1 h2) (fun q => kf q p e R s m args below meth c H locs cells slots mc ms ls C hS hM hl h1 h2)
theorem ky_goto {off : Int} {tgt : Nat} (hd : decode M.2.1 pc = .ok (.goto off, 3)) (ht : (pc : Int) + off = (tgt : Int)) (k : ky_T G M d kc ks tgt lv st σ o σ') : ky_T G M d kc ks pc lv st σ o σ' := by
  intro p e R s m args below meth c H locs cells slots mc ms ls C hS hM hl h1 h2
  exact lv_goto C.1 C.2.1 hd ht (k p e R s m args below meth c H locs cells slots mc ms ls C hS hM hl h1 h2)
theorem ky_ifnonnull {x : Nat} {off : Int} {tgt : Nat} (hd : decode M.2.1 pc = .ok (.ifnonnull off, 3)) (ht : (pc : Int) + off = (tgt : Int)) (k : ky_T G M d kc ks tgt lv st σ o σ') : ky_T G M d kc ks pc lv (.ref x :: st) σ o σ' := by
  intro p e R s m args below meth c H locs cells slots mc ms ls C hS hM hl h1 h2
  exact lv_ifnonnull C.1 C.2.1 hd ht (k p e R s m args below meth c H locs cells slots mc ms ls C hS hM hl h1 h2)
theorem ky_ifnull {x : Nat} {off : Int} (hd : decode M.2.1 pc = .ok (.ifnull off, 3)) (hn : pc + 3 = n) (k : ky_T G M d kc ks n lv st σ o σ') : ky_T G M d kc ks pc lv (.ref x :: st) σ o σ' := by
  intro p e R s m args below meth c H locs cells slots mc ms ls C hS hM hl h1 h2
  subst hn
  exact lv_ifnull C.1 C.2.1 hd (k p e R s m args below meth c H locs cells slots mc ms ls C hS hM hl h1 h2)
theorem ky_tsIn {dflt lo hi : Int} {offs : Array Int} {len tgt : Nat} {x : Int32} {off : Int} (hd : decode M.2.1 pc = .ok (.tableswitch dflt lo hi offs, len)) (a1 : ¬ x.toInt < lo) (a2 : ¬ hi < x.toInt) (ho : offs[(x.toInt - lo).toNat]? = some off) (ht : (pc : Int) + off = (tgt : Int)) (k : ky_T G M d kc ks tgt lv st σ o σ') : ky_T G M d kc ks pc lv (.int x :: st) σ o σ' := by
  intro p e R s m args below meth c H locs cells slots mc ms ls C hS hM hl h1 h2
  exact lv_tableIn C.1 C.2.1 hd a1 a2 ho ht (k p e R s m args below meth c H locs cells slots mc ms ls C hS hM hl h1 h2)
theorem ky_tsOut {dflt lo hi : Int} {offs : Array Int} {len tgt : Nat} {x : Int32} (hd : decode M.2.1 pc = .ok (.tableswitch dflt lo hi offs, len)) (a1 : x.toInt < lo ∨ hi < x.toInt) (ht : (pc : Int) + dflt = (tgt : Int)) (k : ky_T G M d kc ks tgt lv st σ o σ') : ky_T G M d kc ks pc lv (.int x :: st) σ o σ' := by
  intro p e R s m args below meth c H locs cells slots mc ms ls C hS hM hl h1 h2
  exact lv_tableOut C.1 C.2.1 hd a1 ht (k p e R s m args below meth c H locs cells slots mc ms ls C hS hM hl h1 h2)
theorem ky_lsw {dflt : Int} {ps : Array (Int × Int)} {len tgt : Nat} {x : Int32} {off : Int} (hd : decode M.2.1 pc = .ok (.lookupswitch dflt ps, len)) (hp : (ps.toList.zip (ps.toList.drop 1)).all (fun (a, next) => a.1 < next.1) = true) (ho : Op.lookupswitch.offset ps.toList dflt x.toInt = off) (ht : (pc : Int) + off = (tgt : Int)) (k : ky_T G M d kc ks tgt lv st σ o σ') : ky_T G M d kc ks pc lv (.int x :: st) σ o σ' := by
  intro p e R s m args below meth c H locs cells slots mc ms ls C hS hM hl h1 h2
  exact lv_lookup C.1 C.2.1 hd hp ho ht (k p e R s m args below meth c H locs cells slots mc ms ls C hS hM hl h1 h2)
theorem ky_topi {x : Int32} (k : ∀ y : Int32, y = x → ky_T G M d kc ks pc lv (.int y :: st) σ o σ') : ky_T G M d kc ks pc lv (.int x :: st) σ o σ' := k x rfl
theorem ky_sub (is : List Nat) (h : lv_pick lv is = lv') (k : ky_T G M d kc ks pc lv' st σ o σ') : ky_T G M d kc ks pc lv st σ o σ' := by
  intro p e R s m args below meth c H locs cells slots mc ms ls C hS hM hl h1 h2
  exact k p e R s m args below meth c H locs cells slots mc ms ls C hS hM (lv_sub hl is h) h1 h2
end KYrows
end
section
/-! ===== the layout: which slots are what ===== -/
theorem ky_cl_f {L k : Nat} (h : ky_cl k < 5) : ky_us k = true ∧ ky_ro k = false ∧ ky_len L k = none ∧ k ≠ 5 ∧ k ≠ 16 := by
  by_cases h0 : k = 0
  · subst h0; exact ⟨rfl, rfl, rfl, by decide, by decide⟩
  by_cases h2 : k = 2
  · subst h2; exact ⟨rfl, rfl, rfl, by decide, by decide⟩
  by_cases h3 : k = 3
  · subst h3; exact ⟨rfl, rfl, rfl, by decide, by decide⟩
  by_cases h7 : k = 7
  · subst h7; exact ⟨rfl, rfl, rfl, by decide, by decide⟩
  unfold ky_cl at h
  rw [if_neg h0, if_neg h2, if_neg h3, if_neg h7] at h
  by_cases hb : ky_bk k = true
  · simp only [ky_bk, Bool.and_eq_true, decide_eq_true_eq] at hb
    obtain ⟨b1, b2, b3⟩ := hb
    refine ⟨?_, ?_, ?_, by omega, by omega⟩
    · simp only [ky_us, Bool.or_eq_true, Bool.and_eq_true, decide_eq_true_eq]; omega
    · simp only [ky_ro, Bool.or_eq_false_iff, beq_eq_false_iff_ne, ne_eq]; omega
    · unfold ky_len
      rw [if_neg (by omega), if_neg (by omega), if_neg (by omega), if_neg (by omega), if_neg (by omega), if_neg (by omega), if_neg (by omega), if_neg (by omega), if_neg (by omega), if_neg (by omega), if_pos ⟨b1, b2⟩, b3]
      rfl
  · rw [if_neg hb] at h
    omega
theorem ky_len_f {L k n : Nat} (h : ky_len L k = some n) : ky_us k = true ∧ k ≠ 5 ∧ k ≠ 16 ∧ ¬ ky_cl k < 5 := by
  have hc : ¬ ky_cl k < 5 := fun hc => by
    rw [(ky_cl_f (L := L) hc).2.2.1] at h
    cases h
  refine ⟨?_, fun e => ?_, fun e => ?_, hc⟩
  · by_cases hk : ky_us k = true
    · exact hk
    · exfalso
      simp only [ky_us, Bool.or_eq_true, Bool.and_eq_true, decide_eq_true_eq] at hk
      by_cases h1 : k = 1
      · subst h1
        have : ky_len L 1 = none := rfl
        rw [this] at h; cases h
      unfold ky_len at h
      rw [if_neg (by omega), if_neg (by omega), if_neg (by omega), if_neg (by omega), if_neg (by omega), if_neg (by omega), if_neg (by omega), if_neg (by omega), if_neg (by omega), if_neg (by omega), if_neg (by omega)] at h
      cases h
  · subst e
    have : ky_len L 5 = none := rfl
    rw [this] at h; cases h
  · subst e
    have : ky_len L 16 = none := rfl
    rw [this] at h; cases h
/-! ===== moving ===== -/
theorem ky_arr.moved {G : ky_G} {u U : State} {σ : ky_St} {H : Heap} {k n : Nat} (hvm : u.vm.Alike U.vm) (h : ky_arr G u σ H k n) : ky_arr G U σ H k n := by
  rcases h with ⟨h1, h2⟩ | h
  · exact Or.inl ⟨h1, va_X.moved hvm h2⟩
  · exact Or.inr h
theorem ky_M.moved {G : ky_G} {u U : State} {σ : ky_St} {H : Heap} (hvm : u.vm.Alike U.vm) (h : ky_M G u σ H) : ky_M G U σ H := by
  obtain ⟨h1, h2, ⟨scr, r1, r2, r3⟩, ⟨sc2, t1, t2, t3⟩⟩ := h
  exact ⟨h1, fun k n hk => (h2 k n hk).moved hvm, ⟨scr, r1, State.isArrayOf_alike hvm r2, r3⟩, ⟨sc2, t1, State.isArrayOf_alike hvm t2, t3⟩⟩
theorem ky_nest_warm {s U : State} (hW : s.WarmedH U.vm) (h : ∀ q ∈ ky_nest, va_Nw q s) : ∀ q ∈ ky_nest, va_Nw q U := by
  intro q hq
  have h1 := h q hq
  simp only [ky_nest, List.mem_cons, List.not_mem_nil, or_false] at hq
  rcases hq with rfl | rfl | rfl | rfl | rfl | rfl | rfl | rfl | rfl | rfl <;> first | exact va_Nw.warmM hW h1 | exact va_Nw.warmD hW h1
theorem ky_E.warm {G : ky_G} {s U : State} {H : Heap} (hW : s.WarmedH U.vm) (h : ky_E G s H) : ky_E G U H := by
  obtain ⟨h1, h2, h3, h4, h5, h6, h7, h8, h9, h10⟩ := h
  refine ⟨fun c q hq => u_Kn_moved hW.alike (h1 c q hq), fun n z => State.isArrayOf_alike hW.alike (h2 n z), ky_nest_warm hW h3, fun q hq => ?_, fun a ha b hb hab => va_Nc.moved hW.alike (h5 a ha b hb hab), fun a ha => va_Nw.warmC hW (h6 a ha), vx_Zq.moved hW.alike h7, vx_Zq.moved hW.alike h8, va_Z.moved hW.alike h9, va_Z.moved hW.alike h10⟩
  obtain ⟨sa, hs⟩ := h4 q hq
  exact ⟨sa, vk_R.warm hW hs⟩
theorem ky_E.kept {G : ky_G} {U : State} {H H1 : Heap} (hq : ∀ a : Nat, a < H.size → ¬ ky_A G a → H1[a]? = H[a]?) (h : ky_E G U H) : ky_E G U H1 := by
  obtain ⟨h1, h2, h3, h4, h5, h6, h7, h8, h9, h10⟩ := h
  exact ⟨h1, h2, h3, h4, h5, h6, vx_Zq.kept h7 hq, vx_Zq.kept h8 hq, va_Z.kept h9 hq, va_Z.kept h10 hq⟩
theorem ky_E.K {G : ky_G} {U : State} {H : Heap} (h : ky_E G U H) : va_K G.2.2.2.2.1 ky_cls [] U := ⟨h.1, fun k q hq => by simp at hq⟩
/-! ===== what a program decides of the classes ===== -/
theorem ky_in {w : Cond} (i : Nat) (h : (k2_sels lw_privs ++ tables_1)[i]? = some w) (hg : goodWord w = true) : w ∈ ky_ws := List.mem_filter.mpr ⟨List.mem_of_getElem? h, hg⟩
theorem ky_good {w : Cond} (h : w ∈ ky_ws) : (w.onTables && w.keeps) = true ∨ ∃ ty, w = .arrayClass ty := good_of_word (List.mem_filter.mp h).2
theorem ky_f0 : ∀ w ∈ u_ws RX0 TX0 17, w ∈ ky_ws := fun w h => List.mem_filter.mpr ⟨inX0 w h, (show ∀ w ∈ u_ws RX0 TX0 17, goodWord w = true by decide +kernel) w h⟩
theorem ky_f1 : ∀ w ∈ u_ws RX1 TX1 3, w ∈ ky_ws := fun w h => List.mem_filter.mpr ⟨inX1 w h, (show ∀ w ∈ u_ws RX1 TX1 3, goodWord w = true by decide +kernel) w h⟩
theorem ky_f2 : ∀ w ∈ u_ws RX2 TX2 6, w ∈ ky_ws := fun w h => List.mem_filter.mpr ⟨inX2 w h, (show ∀ w ∈ u_ws RX2 TX2 6, goodWord w = true by decide +kernel) w h⟩
theorem ky_f3 : ∀ w ∈ u_ws RX3 TX3 4, w ∈ ky_ws := fun w h => List.mem_filter.mpr ⟨inX3 w h, (show ∀ w ∈ u_ws RX3 TX3 4, goodWord w = true by decide +kernel) w h⟩
theorem ky_f4 : ∀ w ∈ u_ws RX4 TX4 12, w ∈ ky_ws := fun w h => List.mem_filter.mpr ⟨inX4 w h, (show ∀ w ∈ u_ws RX4 TX4 12, goodWord w = true by decide +kernel) w h⟩
theorem ky_cq {c : Nat} {q : vw_C} (h : ky_cls[c]? = some q) : c < 5 ∧ ky_N c = q.2.2 ∧ (∀ w ∈ u_ws q.1 q.2.1 q.2.2, w ∈ ky_ws) ∧ (∃ ty0 : Nat → FieldType, ∀ k, k < q.2.2 → parseFieldDescriptor (q.2.1 k).2.2.1 = some (ty0 k)) ∧ (∀ a, a < q.2.2 → ∀ b, b < q.2.2 → a ≠ b → (q.2.1 a).2.1 ≠ (q.2.1 b).2.1) := by
  match c, h with
  | 0, h => cases h; exact ⟨by decide, rfl, ky_f0, ⟨tyX0, tyX0_ok⟩, nmX0⟩
  | 1, h => cases h; exact ⟨by decide, rfl, ky_f1, ⟨tyX1, tyX1_ok⟩, nmX1⟩
  | 2, h => cases h; exact ⟨by decide, rfl, ky_f2, ⟨tyX2, tyX2_ok⟩, nmX2⟩
  | 3, h => cases h; exact ⟨by decide, rfl, ky_f3, ⟨tyX3, tyX3_ok⟩, nmX3⟩
  | 4, h => cases h; exact ⟨by decide, rfl, ky_f4, ⟨tyX4, tyX4_ok⟩, nmX4⟩
  | c + 5, h => simp [ky_cls] at h
/-! ===== writing into the layout ===== -/
def ky_u1 (σ : ky_St) (k f : Nat) (x : Int32) : ky_St := (fun a b => if a = k ∧ b = f then x else σ.1 a b, σ.2)
def ky_uJ (σ : ky_St) (k : Nat) (x : Int64) : ky_St := (σ.1, fun a => if a = k then x else σ.2 a)
def ky_uR (σ : ky_St) (k : Nat) (g : Nat → Int32) : ky_St := (fun a => if a = k then g else σ.1 a, σ.2)
theorem ky_u1_ne {σ : ky_St} {k f : Nat} {x : Int32} {a : Nat} (h : a ≠ k) : (ky_u1 σ k f x).1 a = σ.1 a := by
  funext b
  show (if a = k ∧ b = f then x else σ.1 a b) = _
  rw [if_neg (fun q => h q.1)]
theorem ky_u1_row {σ : ky_St} {k f : Nat} {x : Int32} : (ky_u1 σ k f x).1 k = upd (σ.1 k) f x := by
  funext b
  show (if k = k ∧ b = f then x else σ.1 k b) = if b = f then x else σ.1 k b
  by_cases h : b = f
  · rw [if_pos ⟨rfl, h⟩, if_pos h]
  · rw [if_neg (fun q => h q.2), if_neg h]
theorem ky_uR_ne {σ : ky_St} {k : Nat} {g : Nat → Int32} {a : Nat} (h : a ≠ k) : (ky_uR σ k g).1 a = σ.1 a := if_neg h
theorem ky_uR_row {σ : ky_St} {k : Nat} {g : Nat → Int32} : (ky_uR σ k g).1 k = g := if_pos rfl
/-- a cell is replaced: what stands elsewhere stands -/
theorem ky_M.objOther {G : ky_G} {σ σ1 : ky_St} {H H1 : Heap} (hI : ky_I G) {k : Nat} (hk : ky_us k = true) (oq : ∀ q, q ≠ G.2.1 k → H1[q]? = H[q]?) (hσ : ∀ a, a ≠ k → σ1.1 a = σ.1 a ∧ σ1.2 a = σ.2 a)
    {k2 : Nat} (h2 : ky_cl k2 < 5) (hne : k2 ≠ k) (h : t_OB (G.2.1 k2) (G.2.2.2.2.1.1 (ky_cl k2)) (ky_N (ky_cl k2)) (G.2.2.2.2.1.2 (ky_cl k2)) H (ky_val G σ k2)) :
    t_OB (G.2.1 k2) (G.2.2.2.2.1.1 (ky_cl k2)) (ky_N (ky_cl k2)) (G.2.2.2.2.1.2 (ky_cl k2)) H1 (ky_val G σ1 k2) := by
  refine (h.kept (oq _ fun e => hne (hI.2.1 _ _ (ky_cl_f (L := 0) h2).1 hk e))).to fun f _ => ?_
  unfold ky_val
  rw [(hσ k2 hne).1, (hσ k2 hne).2]
theorem ky_arr.other {G : ky_G} {U : State} {σ σ1 : ky_St} {H H1 : Heap} (hI : ky_I G) {k : Nat} (hk : ky_us k = true) (oq : ∀ q, q ≠ G.2.1 k → H1[q]? = H[q]?) (hσ : ∀ a, a ≠ k → σ1.1 a = σ.1 a)
    {k2 n : Nat} (h2 : ky_us k2 = true) (hne : k2 ≠ k) (h : ky_arr G U σ H k2 n) : ky_arr G U σ1 H1 k2 n := by
  have e : H1[G.2.1 k2]? = H[G.2.1 k2]? := oq _ fun e => hne (hI.2.1 _ _ h2 hk e)
  rcases h with ⟨h1, h3⟩ | ⟨h1, h3⟩
  · exact Or.inl ⟨h1, by rw [hσ k2 hne]; exact h3.kept e⟩
  · exact Or.inr ⟨h1, by rw [e, hσ k2 hne]; exact h3⟩
theorem ky_M.putObj {G : ky_G} {U : State} {σ σ1 : ky_St} {H H1 : Heap} (hI : ky_I G) (h : ky_M G U σ H) {k : Nat} (hk : ky_cl k < 5) (oq : ∀ q, q ≠ G.2.1 k → H1[q]? = H[q]?) (hσ : ∀ a, a ≠ k → σ1.1 a = σ.1 a ∧ σ1.2 a = σ.2 a)
    (h1 : t_OB (G.2.1 k) (G.2.2.2.2.1.1 (ky_cl k)) (ky_N (ky_cl k)) (G.2.2.2.2.1.2 (ky_cl k)) H1 (ky_val G σ1 k)) : ky_M G U σ1 H1 := by
  obtain ⟨m1, m2, ⟨scr, r1, r2⟩, ⟨sc2, t1, t2, t3, t4, t5⟩⟩ := h
  have hf := ky_cl_f (L := G.2.2.2.1) hk
  refine ⟨fun k2 h2 => ?_, fun k2 n h2 => ?_, ⟨scr, (oq _ fun e => hf.2.2.2.1 (hI.2.1 5 k rfl hf.1 e).symm).trans r1, r2⟩, ⟨sc2, (oq _ fun e => hf.2.2.2.2 (hI.2.1 16 k rfl hf.1 e).symm).trans t1, t2, t3, t4, ?_⟩⟩
  · by_cases e : k2 = k
    · subst e; exact h1
    · exact ky_M.objOther hI hf.1 oq hσ h2 e (m1 k2 h2)
  · have hg := ky_len_f h2
    exact ky_arr.other hI hf.1 oq (fun a ha => (hσ a ha).1) hg.1 (fun e => hg.2.2.2 (by rw [e]; exact hk)) (m2 k2 n h2)
  · rw [(hσ 16 (fun e => hf.2.2.2.2 e.symm)).2]; exact t5
theorem ky_M.putArr {G : ky_G} {U : State} {σ σ1 : ky_St} {H H1 : Heap} (hI : ky_I G) (h : ky_M G U σ H) {k N : Nat} (hk : ky_len G.2.2.2.1 k = some N) (hro : ky_ro k = false) (oq : ∀ q, q ≠ G.2.1 k → H1[q]? = H[q]?) (hσ : ∀ a, a ≠ k → σ1.1 a = σ.1 a) (hσ2 : σ1.2 = σ.2)
    (h1 : H1[G.2.1 k]? = some (vp_cell G.2.2.2.2.2 (N, .inl (σ1.1 k)))) : ky_M G U σ1 H1 := by
  obtain ⟨m1, m2, ⟨scr, r1, r2⟩, ⟨sc2, t1, t2, t3, t4, t5⟩⟩ := h
  have hf := ky_len_f hk
  refine ⟨fun k2 h2 => ?_, fun k2 n h2 => ?_, ⟨scr, (oq _ fun e => hf.2.1 (hI.2.1 5 k rfl hf.1 e).symm).trans r1, r2⟩, ⟨sc2, (oq _ fun e => hf.2.2.1 (hI.2.1 16 k rfl hf.1 e).symm).trans t1, t2, t3, t4, ?_⟩⟩
  · exact ky_M.objOther hI hf.1 oq (fun a ha => ⟨hσ a ha, by rw [hσ2]⟩) h2 (fun e => hf.2.2.2 (by rw [← e]; exact h2)) (m1 k2 h2)
  · by_cases e : k2 = k
    · subst e
      cases hk.symm.trans h2
      exact Or.inr ⟨hro, h1⟩
    · exact ky_arr.other hI hf.1 oq hσ (ky_len_f h2).1 e (m2 k2 n h2)
  · rw [hσ2]; exact t5
theorem ky_M.putOut {G : ky_G} {U : State} {σ σ1 : ky_St} {H H1 : Heap} (hI : ky_I G) (h : ky_M G U σ H) (oq : ∀ q, q ≠ G.2.1 16 → H1[q]? = H[q]?) (hσ : σ1.1 = σ.1) (hσ2 : ∀ a, a ≠ 16 → σ1.2 a = σ.2 a)
    (h1 : ky_out G U σ1 H1) : ky_M G U σ1 H1 := by
  obtain ⟨m1, m2, ⟨scr, r1, r2⟩, -⟩ := h
  refine ⟨fun k2 h2 => ?_, fun k2 n h2 => ?_, ⟨scr, (oq _ fun e => absurd (hI.2.1 5 16 rfl rfl e) (by decide)).trans r1, r2⟩, h1⟩
  · exact ky_M.objOther hI (k := 16) rfl oq (fun a ha => ⟨by rw [hσ], hσ2 a ha⟩) h2 (ky_cl_f (L := 0) h2).2.2.2.2 (m1 k2 h2)
  · exact ky_arr.other hI (k := 16) rfl oq (fun a ha => by rw [hσ]) (ky_len_f h2).1 (ky_len_f h2).2.2.1 (m2 k2 n h2)
/-- any row of ints, as the reading rows want it -/
theorem ky_M.X {G : ky_G} {U : State} {σ : ky_St} {H : Heap} (hA : ArrOfT U G.2.2.2.2.2 .int) (h : ky_M G U σ H) {k N : Nat} (hk : ky_len G.2.2.2.1 k = some N) : va_X (G.2.1 k) N (σ.1 k) U H := by
  rcases h.2.1 k N hk with ⟨-, h1⟩ | ⟨-, h1⟩
  · exact h1
  · exact ⟨_, h1, hA N (fun j => .int (σ.1 k j)), fun q => (by cases q), arrV_size _ _ _, fun j hj => arrV_read _ _ hj⟩
theorem ky_lt {i : Int32} {N : Nat} (h : vp_in i N) : i.toNatClampNeg < N := Nat.not_le.mp fun q => h (Or.inr q)
end
section
section KYr
variable {G : ky_G} {M : ky_Md} {d kc ks pc n : Nat} {lv lv' : List (Nat × Value)} {st : List Value} {σ σ' : ky_St} {o : ky_O}
theorem ky_getf {i k f c : Nat} {q : vw_C} {v : Value} (hd : decode M.2.1 pc = .ok (.getfield i, 3)) (hn : pc + 3 = n) (hc : ky_cl k = c) (hq : ky_cls[c]? = some q) (hf : f < q.2.2) (hlk : Cond.fieldLink M.1.cls i (q.2.1 f).1 (q.2.1 f).2.1 (q.2.1 f).2.2.1 ∈ ky_ws) (hv : ky_val G σ k f = v)
    (k0 : ky_T G M d kc ks n lv (v :: st) σ o σ') : ky_T G M d kc ks pc lv (ky_r G k :: st) σ o σ' := by
  intro p e R s m args below meth c0 H locs cells slots mc ms ls C hS hM hl h1 h2
  subst hn
  subst hc
  obtain ⟨hc5, hN, hin, -, -⟩ := ky_cq hq
  obtain ⟨cell, q1, q2, q3, q4⟩ := hM.1 k hc5
  obtain ⟨hSl, hfc, kC, hkC, hkind⟩ := C.2.2.2.2.2.2.1.1 _ q hq
  obtain ⟨cf, kf, fi, f0, hi, hsl⟩ := hSl f hf
  refine W.getf C.1 C.2.1 C.2.2.2.2.1 (C.2.2.2.2.2.1 _ hlk) hi (u_facts hfc hkC (u_lays C.2.2.2.2.2.1 hin hf) hi).1 q1 (by rw [q3]; exact fun h => by cases h) (v := v) ?_ rfl rfl hd (k0 p e R s m args below meth c0 H locs cells slots mc ms ls C hS hM hl h1 h2)
  rw [hsl, q4 f (by rw [hN]; exact hf), hv]
theorem ky_putW {i k f c : Nat} {q : vw_C} {v : Value} {σ1 : ky_St} {fty : FieldType} (hd : decode M.2.1 pc = .ok (.putfield i, 3)) (hn : pc + 3 = n) (hc : ky_cl k = c) (hq : ky_cls[c]? = some q) (hf : f < q.2.2) (hlk : Cond.fieldLink M.1.cls i (q.2.1 f).1 (q.2.1 f).2.1 (q.2.1 f).2.2.1 ∈ ky_ws)
    (hfin : (q.2.1 f).2.2.2 = false) (hpd : parseFieldDescriptor (q.2.1 f).2.2.1 = some fty) (hnar : narrow fty v = v) (hfit : fits fty v = true) (hσ : ∀ a, a ≠ k → σ1.1 a = σ.1 a ∧ σ1.2 a = σ.2 a) (hval : ∀ j, updV (ky_val G σ k) f v j = ky_val G σ1 k j)
    (k0 : ky_T G M d kc ks n lv st σ1 o σ') : ky_T G M d kc ks pc lv (v :: ky_r G k :: st) σ o σ' := by
  intro p e R s m args below meth c0 H locs cells slots mc ms ls C hS hM hl h1 h2
  subst hn
  subst hc
  obtain ⟨hc5, hN, hin, ⟨ty0, hty⟩, hnm⟩ := ky_cq hq
  obtain ⟨cell, q1, q2, q3, q4⟩ := hM.1 k hc5
  have hK := C.2.2.2.2.2.2.1.K
  have hap := va_apart (own := M.1.cls) (C := q.1) (T := q.2.1) (N := q.2.2) C.2.2.2.2.2.1 hin ty0 hty hnm hK hq
  obtain ⟨hSl, hfc, kC, hkC, hkind⟩ := C.2.2.2.2.2.2.1.1 _ q hq
  obtain ⟨cf, kf, fi, f0, hi, hsl⟩ := hSl f hf
  have hlay := C.2.2.2.2.2.1 _ (hin _ (u_in_lay hf))
  unfold u_lay at hlay
  rw [if_neg (by rw [hfin]; decide)] at hlay
  have hst := (u_facts hfc hkC (u_lays C.2.2.2.2.2.1 hin hf) hi).1
  have h6 := u_store hfc hkC hkind hlay hi hpd hnar hfit
  rw [hN] at q4
  refine W.putK C.1 C.2.1 (f := f0) ⟨C.2.2.2.2.1, C.2.2.2.2.2.1 _ hlk, ⟨_, _, _, hi⟩, hst⟩ (by rw [q2]; exact h6) q1 q3 (by rw [hsl]; exact k2_hasslot (q4 f hf)) rfl rfl hd fun H' e1 e2 e3 => ?_
  rw [hsl] at e1 ⊢
  refine k0 p e R s m args below meth c0 H' _ cells slots mc ms ls C (hS.put e2 e3 (C.2.2.2.2.2.2.2.2.2.1.2.2 k (ky_cl_f (L := 0) hc5).1 (ky_cl_f (L := 0) hc5).2.1)) (hM.putObj C.2.2.2.2.2.2.2.2.2.1 hc5 e3 hσ ?_) hl h1 h2
  rw [hN]
  exact t_OB.to (V := updV (ky_val G σ k) f v) ⟨_, e1, q2, q3, t_set q4 hap hf v⟩ (fun j _ => hval j)
theorem ky_putf {i k f c : Nat} {q : vw_C} {x : Int32} (hd : decode M.2.1 pc = .ok (.putfield i, 3)) (hn : pc + 3 = n) (hc : ky_cl k = c) (hq : ky_cls[c]? = some q) (hf : f < q.2.2) (hlk : Cond.fieldLink M.1.cls i (q.2.1 f).1 (q.2.1 f).2.1 (q.2.1 f).2.2.1 ∈ ky_ws)
    (hfin : (q.2.1 f).2.2.2 = false) (hpd : parseFieldDescriptor (q.2.1 f).2.2.1 = some .int) (hty : ky_ty c f = 0)
    (k0 : ∀ σ1, σ1 = ky_u1 σ k f x → ky_T G M d kc ks n lv st σ1 o σ') : ky_T G M d kc ks pc lv (.int x :: ky_r G k :: st) σ o σ' := by
  refine ky_putW (σ1 := ky_u1 σ k f x) hd hn hc hq hf hlk hfin hpd rfl rfl (fun a ha => ⟨ky_u1_ne ha, rfl⟩) (fun j => ?_) (k0 _ rfl)
  unfold updV ky_val
  by_cases hj : j = f
  · subst hj
    rw [if_pos rfl, hc, if_pos hty, ky_u1_row]
    simp [upd]
  · rw [if_neg hj, ky_u1_row]
    simp [upd, hj, ky_u1]
theorem ky_putl {i k f c : Nat} {q : vw_C} {x : Int64} (hd : decode M.2.1 pc = .ok (.putfield i, 3)) (hn : pc + 3 = n) (hc : ky_cl k = c) (hq : ky_cls[c]? = some q) (hf : f < q.2.2) (hlk : Cond.fieldLink M.1.cls i (q.2.1 f).1 (q.2.1 f).2.1 (q.2.1 f).2.2.1 ∈ ky_ws)
    (hfin : (q.2.1 f).2.2.2 = false) (hpd : parseFieldDescriptor (q.2.1 f).2.2.1 = some .long) (hty : ∀ j, ky_ty c j = 0 ∨ ky_ty c j = 1 ∨ j = f) (hty2 : ky_ty c f = 2)
    (k0 : ∀ σ1, σ1 = ky_uJ σ k x → ky_T G M d kc ks n lv st σ1 o σ') : ky_T G M d kc ks pc lv (.long x :: ky_r G k :: st) σ o σ' := by
  refine ky_putW (σ1 := ky_uJ σ k x) hd hn hc hq hf hlk hfin hpd rfl rfl (fun a ha => ⟨rfl, if_neg ha⟩) (fun j => ?_) (k0 _ rfl)
  unfold updV ky_val
  rw [hc]
  by_cases hj : j = f
  · subst hj
    rw [if_pos rfl, hty2]
    simp [ky_uJ]
  · rw [if_neg hj]
    rcases hty j with h | h | h
    · rw [h]; rfl
    · rw [h]; rfl
    · exact absurd h hj
theorem ky_iald {k N : Nat} {x : Int32} (hd : decode M.2.1 pc = .ok (.iaload, 1)) (hn : pc + 1 = n) (hlen : ky_len G.2.2.2.1 k = some N) (hin : vp_in x N)
    (k0 : ky_T G M d kc ks n lv (.int (σ.1 k x.toNatClampNeg) :: st) σ o σ') : ky_T G M d kc ks pc lv (.int x :: ky_r G k :: st) σ o σ' := by
  intro p e R s m args below meth c0 H locs cells slots mc ms ls C hS hM hl h1 h2
  subst hn
  obtain ⟨scr, b1, b2, b3, b4, b5⟩ := hM.X C.2.2.2.2.2.2.1.2.1 hlen
  exact W.iald (v := .int (σ.1 k x.toNatClampNeg)) C.1 C.2.1 b1 b2 b3 (by rw [b4]; exact hin) (b5 _ (ky_lt hin)) rfl rfl hd (k0 p e R s m args below meth c0 H locs cells slots mc ms ls C hS hM hl h1 h2)
theorem ky_alen {k N : Nat} (hd : decode M.2.1 pc = .ok (.arraylength, 1)) (hn : pc + 1 = n) (hlen : ky_len G.2.2.2.1 k = some N)
    (k0 : ky_T G M d kc ks n lv (.int (Int32.ofNat N) :: st) σ o σ') : ky_T G M d kc ks pc lv (ky_r G k :: st) σ o σ' := by
  intro p e R s m args below meth c0 H locs cells slots mc ms ls C hS hM hl h1 h2
  subst hn
  obtain ⟨scr, b1, b2, b3, b4, b5⟩ := hM.X C.2.2.2.2.2.2.1.2.1 hlen
  exact W.alen (n := Int32.ofNat N) C.1 C.2.1 b1 b2 (by rw [b4] <;> rfl) rfl rfl hd (k0 p e R s m args below meth c0 H locs cells slots mc ms ls C hS hM hl h1 h2)
theorem ky_alenR (hd : decode M.2.1 pc = .ok (.arraylength, 1)) (hn : pc + 1 = n)
    (k0 : ky_T G M d kc ks n lv (.int 6 :: st) σ o σ') : ky_T G M d kc ks pc lv (ky_r G 5 :: st) σ o σ' := by
  intro p e R s m args below meth c0 H locs cells slots mc ms ls C hS hM hl h1 h2
  subst hn
  obtain ⟨scr, b1, b2, b3, b4, b5⟩ := hM.2.2.1
  exact W.alen (n := 6) C.1 C.2.1 b1 b2 (by rw [b4]; rfl) rfl rfl hd (k0 p e R s m args below meth c0 H locs cells slots mc ms ls C hS hM hl h1 h2)
theorem ky_aald {x : Int32} (hd : decode M.2.1 pc = .ok (.aaload, 1)) (hn : pc + 1 = n) (hin : vp_in x 6)
    (k0 : ky_T G M d kc ks n lv (ky_r G (33 + 13 * x.toNatClampNeg) :: st) σ o σ') : ky_T G M d kc ks pc lv (.int x :: ky_r G 5 :: st) σ o σ' := by
  intro p e R s m args below meth c0 H locs cells slots mc ms ls C hS hM hl h1 h2
  subst hn
  obtain ⟨scr, b1, b2, b3, b4, b5⟩ := hM.2.2.1
  exact W.aald (v := ky_r G (33 + 13 * x.toNatClampNeg)) (ty := .object RX0) C.1 C.2.1 b1 b2 rfl b3 (by rw [b4]; exact hin) (b5 _ (ky_lt hin)) rfl rfl hd (k0 p e R s m args below meth c0 H locs cells slots mc ms ls C hS hM hl h1 h2)
theorem ky_lald (hd : decode M.2.1 pc = .ok (.laload, 1)) (hn : pc + 1 = n)
    (k0 : ky_T G M d kc ks n lv (.long (σ.2 16) :: st) σ o σ') : ky_T G M d kc ks pc lv (.int 0 :: ky_r G 16 :: st) σ o σ' := by
  intro p e R s m args below meth c0 H locs cells slots mc ms ls C hS hM hl h1 h2
  subst hn
  obtain ⟨scr, b1, b2, b3, b4, b5⟩ := hM.2.2.2
  exact W.lald (j := 0) (v := .long (σ.2 16)) C.1 C.2.1 b1 b2 b3 (by rw [b4]; decide) b5 rfl rfl hd (k0 p e R s m args below meth c0 H locs cells slots mc ms ls C hS hM hl h1 h2)
theorem ky_last {x : Int64} (hd : decode M.2.1 pc = .ok (.lastore, 1)) (hn : pc + 1 = n)
    (k0 : ∀ σ1, σ1 = ky_uJ σ 16 x → ky_T G M d kc ks n lv st σ1 o σ') : ky_T G M d kc ks pc lv (.long x :: .int 0 :: ky_r G 16 :: st) σ o σ' := by
  intro p e R s m args below meth c0 H locs cells slots mc ms ls C hS hM hl h1 h2
  subst hn
  obtain ⟨scr, b1, b2, b3, b4, b5⟩ := hM.2.2.2
  refine W.last C.1 C.2.1 b1 b2 b3 (by rw [b4]; decide) rfl rfl hd fun H1 e1 z oq => ?_
  refine k0 _ rfl p e R s m args below meth c0 H1 _ cells slots mc ms ls C (hS.put z oq (C.2.2.2.2.2.2.2.2.2.1.2.2 16 rfl rfl)) (hM.putOut C.2.2.2.2.2.2.2.2.2.1 oq rfl (fun a ha => if_neg ha) ⟨_, e1, b2, b3, ?_, ?_⟩) hl h1 h2
  · simpa [Cell.setSlot] using b4
  · have h0 : 0 < scr.slots.size := by rw [b4]; decide
    simp [Cell.setSlot, ky_uJ, h0]
theorem ky_iast {k N : Nat} {x y : Int32} (hd : decode M.2.1 pc = .ok (.iastore, 1)) (hn : pc + 1 = n) (hlen : ky_len G.2.2.2.1 k = some N) (hro : ky_ro k = false) (hin : vp_in x N)
    (k0 : ∀ σ1, σ1 = ky_u1 σ k x.toNatClampNeg y → ky_T G M d kc ks n lv st σ1 o σ') : ky_T G M d kc ks pc lv (.int y :: .int x :: ky_r G k :: st) σ o σ' := by
  intro p e R s m args below meth c0 H locs cells slots mc ms ls C hS hM hl h1 h2
  subst hn
  have hcell : H[G.2.1 k]? = some (vp_cell G.2.2.2.2.2 (N, .inl (σ.1 k))) := by
    rcases hM.2.1 k N hlen with ⟨h, -⟩ | ⟨-, h⟩
    · rw [hro] at h; cases h
    · exact h
  refine W.iast C.1 C.2.1 hcell (C.2.2.2.2.2.2.1.2.1 N (fun j => .int (σ.1 k j))) (fun q => by cases q) (by show ¬ (x < 0 ∨ (arrV _ _ _).slots.size ≤ _); rw [arrV_size]; exact hin) rfl rfl hd fun H1 e1 z oq => ?_
  refine k0 _ rfl p e R s m args below meth c0 H1 _ cells slots mc ms ls C (hS.put z oq (C.2.2.2.2.2.2.2.2.2.1.2.2 k (ky_len_f hlen).1 hro)) (hM.putArr C.2.2.2.2.2.2.2.2.2.1 hlen hro oq (fun a ha => ky_u1_ne ha) rfl ?_) hl h1 h2
  rw [e1, ky_u1_row, vp_cell_i, vp_cell_i, arrV_store]
  congr 2
  funext q
  by_cases hq : q = x.toNatClampNeg
  · subst hq
    simp [updV, upd]
  · simp [updV, upd, hq]
theorem ky_gets {i : Nat} (hd : decode M.2.1 pc = .ok (.getstatic i, 3)) (hn : pc + 3 = n) (nm : String) (k : Nat) (hk : (nm = "WHOLE" ∧ k = 13) ∨ (nm = "PRICE" ∧ k = 14)) (hlk : Cond.fieldLink M.1.cls i RX3 nm "[I" ∈ ky_ws)
    (k0 : ky_T G M d kc ks n lv (ky_r G k :: st) σ o σ') : ky_T G M d kc ks pc lv st σ o σ' := by
  intro p e R s m args below meth c0 H locs cells slots mc ms ls C hS hM hl h1 h2
  subst hn
  have hZ : va_Z RX3 nm "[I" (ky_r G k) (ky_A G) s s.heap := by
    rcases hk with ⟨rfl, rfl⟩ | ⟨rfl, rfl⟩
    · exact C.2.2.2.2.2.2.1.2.2.2.2.2.2.2.2.1
    · exact C.2.2.2.2.2.2.1.2.2.2.2.2.2.2.2.2
  exact va_gets C.1 C.2.1 hZ hS C.2.2.2.2.1 (C.2.2.2.2.2.1 _ hlk) (fun _ h => h) hd (k0 p e R s m args below meth c0 H locs cells slots mc ms ls C hS hM hl h1 h2)
/-! ends -/
theorem ky_ireturn {x : Int32} (hd : decode M.2.1 pc = .ok (.ireturn, 1)) (hr : M.2.2.2.1 = some .int) : ky_T G M d kc ks pc lv [.int x] σ (.inr (some (.int x))) σ := by
  intro p e R s m args below meth c0 H locs cells slots mc ms ls C hS hM hl h1 h2
  refine W.widen (k := mc) (n := ms) (by omega) (by omega) (vx_ret (W.iret C.1 C.2.1 (C.2.2.1.trans hr) (fun t ht hW => ?_) hS.2.2 hd C.2.2.2.2.2.2.2.1))
  exact ⟨_, rfl, rfl, (show ky_M G s σ t.heap by rw [ht]; exact hM).moved hW.alike, hS.F ht⟩
theorem ky_zreturn {x : Int32} (hd : decode M.2.1 pc = .ok (.ireturn, 1)) (hr : M.2.2.2.1 = some .boolean) (hx : x = 0 ∨ x = 1) : ky_T G M d kc ks pc lv [.int x] σ (.inr (some (.int x))) σ := by
  intro p e R s m args below meth c0 H locs cells slots mc ms ls C hS hM hl h1 h2
  refine W.widen (k := mc) (n := ms) (by omega) (by omega) (vx_ret (W.zret (ty := .boolean) C.1 C.2.1 (C.2.2.1.trans hr) (by rcases hx with rfl | rfl <;> rfl) (fun t ht hW => ?_) hS.2.2 hd C.2.2.2.2.2.2.2.1))
  exact ⟨_, rfl, rfl, (show ky_M G s σ t.heap by rw [ht]; exact hM).moved hW.alike, hS.F ht⟩
theorem ky_return (hd : decode M.2.1 pc = .ok (.return_, 1)) (hr : M.2.2.2.1 = none) : ky_T G M d kc ks pc lv [] σ (.inr none) σ := by
  intro p e R s m args below meth c0 H locs cells slots mc ms ls C hS hM hl h1 h2
  refine W.widen (k := mc) (n := ms) (by omega) (by omega) (vx_ret (W.vret C.1 C.2.1 (C.2.2.1.trans hr) (fun t ht hW => ?_) hS.2.2 hd C.2.2.2.2.2.2.2.1))
  exact ⟨_, rfl, rfl, (show ky_M G s σ t.heap by rw [ht]; exact hM).moved hW.alike, hS.F ht⟩
theorem ky_lreturn {x : Int64} (hd : decode M.2.1 pc = .ok (.lreturn, 1)) (hr : M.2.2.2.1 = some .long) : ky_T G M d kc ks pc lv [.long x] σ (.inr (some (.long x))) σ := by
  intro p e R s m args below meth c0 H locs cells slots mc ms ls C hS hM hl h1 h2
  refine W.widen (k := mc) (n := ms) (by omega) (by omega) (vx_ret (W.lret C.1 C.2.1 (C.2.2.1.trans hr) (fun t ht hW => ?_) hS.2.2 hd C.2.2.2.2.2.2.2.1))
  exact ⟨_, rfl, rfl, (show ky_M G s σ t.heap by rw [ht]; exact hM).moved hW.alike, hS.F ht⟩
theorem ky_dreturn {x : UInt64} (hd : decode M.2.1 pc = .ok (.dreturn, 1)) (hr : M.2.2.2.1 = some .double) : ky_T G M d kc ks pc lv [.double x] σ (.inr (some (.double x))) σ := by
  intro p e R s m args below meth c0 H locs cells slots mc ms ls C hS hM hl h1 h2
  refine W.widen (k := mc) (n := ms) (by omega) (by omega) (vx_ret (W.dret C.1 C.2.1 (C.2.2.1.trans hr) (fun t ht hW => ?_) hS.2.2 hd C.2.2.2.2.2.2.2.1))
  exact ⟨_, rfl, rfl, (show ky_M G s σ t.heap by rw [ht]; exact hM).moved hW.alike, hS.F ht⟩
theorem ky_areturn {v : Value} (hd : decode M.2.1 pc = .ok (.areturn, 1)) (hr : ∃ nm, M.2.2.2.1 = some (.object nm)) (hv : v = .null ∨ ∃ a, v = .ref a) : ky_T G M d kc ks pc lv [v] σ (.inr (some v)) σ := by
  intro p e R s m args below meth c0 H locs cells slots mc ms ls C hS hM hl h1 h2
  obtain ⟨nm, hr⟩ := hr
  refine W.widen (k := mc) (n := ms) (by omega) (by omega) (vx_ret (W.aret C.1 C.2.1 (C.2.2.1.trans hr) (Or.inl ⟨nm, rfl⟩) hv (fun t ht hW => ?_) hS.2.2 hd C.2.2.2.2.2.2.2.1))
  exact ⟨_, rfl, rfl, (show ky_M G s σ t.heap by rw [ht]; exact hM).moved hW.alike, hS.F ht⟩
end KYr
end
section
/-! ===== calls ===== -/
theorem ky_bad1 : (vx_atS RX3 295 ky_ex3 ["java/lang/RuntimeException", "java/lang/Exception"]).filter (fun w => !goodWord w) = [.declares (Bundle.initS "java/lang/RuntimeException"), .declares (Bundle.initS "java/lang/Exception"), .declares (Bundle.initS Bundle.tN), .castable ky_ex3 ky_ex3] := by decide +kernel
def ky_rm (d mc ms : Nat) : Room := { frames := d, cells := mc, slots := ms, locals := 35 * d }
def ky_wy (M : ky_Md) : List Cond := if M.2.2.2.2 = [] then .code M.1 M.2.1 M.2.2.1 M.2.2.2.1 :: ky_ws else .codeWith M.1 M.2.1 M.2.2.1 M.2.2.2.1 M.2.2.2.2 :: ky_ws
def ky_Pc (G : ky_G) (av : List Value) (σ : ky_St) : Array Value → State → Prop := fun a U => a = av.toArray ∧ ky_E G U U.heap ∧ ky_M G U σ U.heap ∧ ky_I G ∧ G.2.2.1 ≤ U.heap.size
/-- the method M, at these arguments and this state, ends so; it makes at most mc cells of ms slots -/
def ky_K (G : ky_G) (M : ky_Md) (d mc ms : Nat) (av : List Value) (σ : ky_St) (o : ky_O) (σ' : ky_St) : Prop :=
  vx_Met G.1 M.1 (ky_wy M) (ky_rm d mc ms) (ky_Pc G av σ) (ky_Qc G o σ') (ky_XC G o σ') mc ms (ky_A G)
theorem ky_blind {G : ky_G} {av : List Value} {σ : ky_St} : FrameBlind (ky_Pc G av σ) := by
  intro a U g mk h
  obtain ⟨h1, h2, h3, h4, h5⟩ := h
  have hW : U.WarmedH (U.calling g mk a).vm := State.WarmedH.refl U
  exact ⟨h1, h2.warm hW, h3.moved hW.alike, h4, h5⟩
section KYc
variable {G : ky_G} {M : ky_Md} {d kc ks pc n : Nat} {lv lv' : List (Nat × Value)} {st : List Value} {σ σ' : ky_St} {o : ky_O}
theorem ky_enter {av : List Value} (hh : M.2.2.2.2 = []) (hp : plainName M.1.cls = true) (hlen : (lg_sl av).length ≤ M.2.2.1) (hlv : lv_args 0 av = lv) (h : ky_T G M d kc ks 0 lv [] σ o σ') : ky_K G M d kc ks av σ o σ' := by
  have hwy : ky_wy M = .code M.1 M.2.1 M.2.2.1 M.2.2.2.1 :: ky_ws := if_pos hh
  refine vx_ofW (cc := M.2.1) (maxL := M.2.2.1) (ret := M.2.2.2.1) hp hwy ?_
  intro p e s m args below meth c s₁ B hml hex hv
  obtain ⟨rfl, hE, hM, hI, hB⟩ := hv
  have hts : ∀ w ∈ ky_wy M, w.before av.toArray s = true := atoms_spec B.pre
  have hts : ∀ w ∈ ky_ws, w.before av.toArray s = true := fun w hw => hts w (by rw [hwy]; exact List.mem_cons_of_mem _ hw)
  have hex2 : c.exceptionTable.toList = [] := by
    cases hq : c.exceptionTable.toList with
    | nil => rfl
    | cons a t => exact absurd (hex a (by rw [hq]; exact List.mem_cons_self)) id
  rw [lg_entry_eq]
  refine h p e _ s m _ below meth c s.heap [] 0 0 kc ks _ ⟨B.exec, B.bytes, B.returns, hml, findClass_of_methodNamed B.named, hts, hE, B.notSynchronized, by rw [hex2, hh]; rfl, hI, hB, Nat.le_refl _, Nat.le_refl _, Nat.le_refl _, Nat.le_refl _⟩ va_S.rf hM ?_ (by omega) (by omega)
  rw [← hlv]
  exact lv_entry av hlen
theorem ky_enterH {av : List Value} (hh : M.2.2.2.2 ≠ []) (hp : plainName M.1.cls = true) (hlen : (lg_sl av).length ≤ M.2.2.1) (hlv : lv_args 0 av = lv) (h : ky_T G M d kc ks 0 lv [] σ o σ') : ky_K G M d kc ks av σ o σ' := by
  have hwy : ky_wy M = .codeWith M.1 M.2.1 M.2.2.1 M.2.2.2.1 M.2.2.2.2 :: ky_ws := if_neg hh
  refine vx_ofWH (cc := M.2.1) (maxL := M.2.2.1) (ret := M.2.2.2.1) hp hwy ?_
  intro p e s m args below meth c s₁ B hml hv
  obtain ⟨rfl, hE, hM, hI, hB⟩ := hv
  have hts : ∀ w ∈ ky_wy M, w.before av.toArray s = true := atoms_spec B.pre
  have htab := vx_table (x := M.1) B (hts _ (by rw [hwy]; exact List.mem_cons_self))
  have hts : ∀ w ∈ ky_ws, w.before av.toArray s = true := fun w hw => hts w (by rw [hwy]; exact List.mem_cons_of_mem _ hw)
  rw [lg_entry_eq]
  refine h p e _ s m _ below meth c s.heap [] 0 0 kc ks _ ⟨B.exec, B.bytes, B.returns, hml, findClass_of_methodNamed B.named, hts, hE, B.notSynchronized, htab, hI, hB, Nat.le_refl _, Nat.le_refl _, Nat.le_refl _, Nat.le_refl _⟩ va_S.rf hM ?_ (by omega) (by omega)
  rw [← hlv]
  exact lv_entry av hlen
/-- a method that doesn't throw, as a plain contract -/
theorem ky_Met {av : List Value} {v : Option Value} {mc ms : Nat} (h : ky_K G M d mc ms av σ (.inr v) σ') : Met G.1 M.1 (ky_wy M) (ky_rm d mc ms) (ky_Pc G av σ) (ky_Qc G (.inr v) σ') mc ms (ky_A G) := by
  intro p e h1 h2 h3 s m args below h4 h5 h6 h7
  obtain ⟨n, oc, a1, a2, a3, a4⟩ := h p e h1 h2 h3 s m args below h4 h5 h6 h7
  refine ⟨n, oc, a1, a2, a3, ?_⟩
  rcases a4 with h | ⟨q, -, E, ce, L, hx, -⟩
  · exact h
  · exact absurd hx.1 (by intro z; cases z)
/-- what a program decides of a method once -/
def ky_okM (Mc : ky_Md) (na : Nat) : Prop := (Mc.2.2.2.2 = [] ∧ plainName Mc.1.cls = true ∧ Cond.code Mc.1 Mc.2.1 Mc.2.2.1 Mc.2.2.2.1 ∈ ky_ws ∧ Cond.initialized Mc.1.cls ∈ ky_ws) ∧ (Mc.1.cls ≠ "java/lang/invoke/MethodHandle" ∧ Mc.1.cls ≠ "java/lang/invoke/VarHandle") ∧
  (parseMethodDescriptor Mc.1.desc).map (fun d => d.parameters.length) = some na ∧ Mc.2.2.1 ≤ 16
def ky_okV (Mc : ky_Md) (na : Nat) : Prop := ky_okM Mc na ∧ Cond.instanceMethod Mc.1 ∈ ky_ws ∧ Cond.selects Mc.1.cls Mc.1 Mc.1 ∈ ky_ws
def ky_okS (Mc : ky_Md) (na : Nat) : Prop := ky_okM Mc na ∧ Cond.static Mc.1 ∈ ky_ws
theorem ky_okM.words {Mc : ky_Md} {na : Nat} (h : ky_okM Mc na) {args : Array Value} {s : State} (hts : ∀ w ∈ ky_ws, w.before args s = true) : ∀ w ∈ ky_wy Mc, ∀ (a' : Array Value) (U : State), s.WarmedH U.vm → w.before a' U = true := by
  intro w hw a' U hW
  have hm : w ∈ ky_ws := by
    rw [show ky_wy Mc = .code Mc.1 Mc.2.1 Mc.2.2.1 Mc.2.2.2.1 :: ky_ws from if_pos h.1.1] at hw
    rcases List.mem_cons.mp hw with e | hw
    · rw [e]; exact h.1.2.2.1
    · exact hw
  exact word_at hW (ky_good hm) (hts w hm)
theorem ky_nargs {Mc : ky_Md} {na : Nat} (h : (parseMethodDescriptor Mc.1.desc).map (fun d => d.parameters.length) = some na) : ∀ sig, parseMethodDescriptor Mc.1.desc = some sig → na = sig.parameters.length := by
  intro sig h2
  rw [h2] at h
  exact (Option.some.inj h).symm
/-- behind a call -/
theorem ky_go {p : Program} {e : Env} {R : Room} {s : State} {m : MethodId} {args : Array Value} {below : List Frame} {meth : Method} {c : Code} {H H0 : Heap} {locs : List Loc} {cells slots mc ms : Nat} {Q : State → Prop} {ls : Array Slot} {st0 rest : List Value} {a : Array Value} {o1 : ky_O} {σ1 : ky_St}
    (hr : vx_Run p G.1 e R s m args below meth c H locs cells slots mc ms (F0 m pc ls st0) rest (ky_Qc G o1 σ1 a) (ky_XC G o1 σ1) (ky_A G)) (hS : va_S (ky_A G) H0 H locs)
    (kx : ∀ (E : String) (ce : Cell) (q9 : Addr) (H1 : Heap) (locs1 : List Loc), o1 = .inl E → ky_M G s σ1 H1 → va_S (ky_A G) H0 H1 locs1 → H1[q9]? = some ce → ce.vm = .none → s.vm.findClass E = some ce.cls → vx_W p G.1 e R s m args below meth c H1 locs1 (cells + mc) (slots + ms) Q (F0 m pc ls rest) q9)
    (kk : ∀ (v : Option Value) (H1 : Heap) (locs1 : List Loc), o1 = .inr v → ky_M G s σ1 H1 → va_S (ky_A G) H0 H1 locs1 → W p G.1 e R s m args below meth c H1 locs1 (cells + mc) (slots + ms) Q (F0 m (pc + 3) ls (v.toList ++ rest))) : W p G.1 e R s m args below meth c H locs cells slots Q (F0 m pc ls st0) := by
  intro T hT X
  rcases hr T hT X with ⟨v, st₀, t, T', L, h0, X', hL, e1, e2, ⟨v', hv, ho, hm, hF⟩, go⟩ | ⟨q, st₀, t, T', L, E, ce, h0, X', hL, e1, e2, ⟨ho, hm, hF⟩, hce, hcv, hcl, go⟩
  · cases hv
    obtain ⟨k1, k2, k3⟩ := vx_keep h0 e1 hS (fun q _ h => h) (fun q h => h) hL hF
    have hal : t.vm.Alike s.vm := by rw [← e2]; exact X'.warmed.alike.symm
    obtain ⟨t2, a1, b1⟩ := kk v T'.heap (locs ++ L) ho (by rw [e1]; exact hm.moved hal) k3 T' rfl X'
    exact ⟨t2, go t2 a1, b1⟩
  · obtain ⟨k1, k2, k3⟩ := vx_keep h0 e1 hS (fun q _ h => h) (fun q h => h) hL hF
    have hal : t.vm.Alike s.vm := by rw [← e2]; exact X'.warmed.alike.symm
    obtain ⟨t2, a1, b1⟩ := kx E ce q T'.heap (locs ++ L) ho (by rw [e1]; exact hm.moved hal) k3 (by rw [e1]; exact hce) hcv hcl T' rfl X'
    exact ⟨t2, go.trans a1, b1⟩
theorem ky_goA {p : Program} {e : Env} {R : Room} {s : State} {m : MethodId} {args : Array Value} {below : List Frame} {meth : Method} {c : Code} {H H0 : Heap} {locs : List Loc} {cells slots mc ms : Nat} {Q : State → Prop} {ls : Array Slot} {st0 rest : List Value} {a : Array Value} {v1 : Option Value} {σ1 : ky_St}
    (hr : va_Run p G.1 e R s m args below meth c H locs cells slots mc ms (F0 m pc ls st0) rest (ky_Qc G (.inr v1) σ1 a) (ky_A G)) (hS : va_S (ky_A G) H0 H locs)
    (kk : ∀ (H1 : Heap) (locs1 : List Loc), ky_M G s σ1 H1 → va_S (ky_A G) H0 H1 locs1 → W p G.1 e R s m args below meth c H1 locs1 (cells + mc) (slots + ms) Q (F0 m (pc + 3) ls (v1.toList ++ rest))) : W p G.1 e R s m args below meth c H locs cells slots Q (F0 m pc ls st0) := by
  intro T hT X
  obtain ⟨v, st₀, t, T', L, h0, X', hL, e1, e2, ⟨v', hv, ho, hm, hF⟩, go⟩ := hr T hT X
  cases hv
  cases ho
  obtain ⟨k1, k2, k3⟩ := vx_keep h0 e1 hS (fun q _ h => h) (fun q h => h) hL hF
  have hal : t.vm.Alike s.vm := by rw [← e2]; exact X'.warmed.alike.symm
  obtain ⟨t2, a1, b1⟩ := kk T'.heap (locs ++ L) (by rw [e1]; exact hm.moved hal) k3 T' rfl X'
  exact ⟨t2, go t2 a1, b1⟩
theorem ky_pre {s : State} {H : Heap} {locs : List Loc} (hE : ky_E G s s.heap) (hS : va_S (ky_A G) s.heap H locs) (hM : ky_M G s σ H) (hI : ky_I G) (hB : G.2.2.1 ≤ s.heap.size) (av : List Value) : ∀ U : State, U.heap = H → s.WarmedH U.vm → ky_Pc G av σ av.toArray U := by
  intro U hU hW
  refine ⟨rfl, ?_, ?_, hI, ?_⟩
  · rw [hU]
    exact (hE.kept hS.2.1).warm hW
  · rw [hU]
    exact hM.moved hW.alike
  · rw [hU]
    exact Nat.le_trans hB hS.1
theorem ky_runV {Mc : ky_Md} {i na k0 kc2 ks2 : Nat} {as : List Value} {o1 : ky_O} {σ1 : ky_St} {stk : List Value} {c5 : Nat} {q : vw_C} (hM1 : ky_K G Mc d kc2 ks2 (ky_r G k0 :: as) σ o1 σ1) (ok : ky_okV Mc na) (hlk : Cond.methodLink M.1.cls i Mc.1 ∈ ky_ws) (hc : ky_cl k0 = c5) (hq : ky_cls[c5]? = some q) (hq2 : q.1 = Mc.1.cls)
    (hna : as.length = na) (hstk : stk = as.reverse ++ ky_r G k0 :: st) (hst : (st.map fun v => v.category).sum ≤ 8) (hd : decode M.2.1 pc = .ok (.invokevirtual i, 3))
    {p : Program} {e : Env} {R : Room} {s : State} {m : MethodId} {args : Array Value} {below : List Frame} {meth : Method} {c : Code} {H : Heap} {locs : List Loc} {cells slots mc ms : Nat} {ls : Array Slot}
    (C : ky_C G M (d + 1) p R s m args meth c mc ms) (hS : va_S (ky_A G) s.heap H locs) (hM : ky_M G s σ H) (hl : lv_has ls M.2.2.1 lv) (h1 : cells + (kc + kc2) ≤ mc) (h2 : slots + (ks + ks2) ≤ ms) :
    vx_Run p G.1 e R s m args below meth c H locs cells slots kc2 ks2 (F0 m pc ls stk) st (ky_Qc G o1 σ1 (ky_r G k0 :: as).toArray) (ky_XC G o1 σ1) (ky_A G) := by
  obtain ⟨hx, hb, hr, hml, hown, hts, hE, hlk2, hex, hI, hB, hf, hlo, hmc, hms⟩ := C
  obtain ⟨⟨hcq5, hN, -⟩, -⟩ := (⟨ky_cq hq, trivial⟩ : _ ∧ True)
  subst hc
  obtain ⟨cell, q1, q2, q3, q4⟩ := hM.1 k0 hcq5
  obtain ⟨-, hfc, -⟩ := hE.1 _ q hq
  refine vx_runV (As := as) (C := Mc.1.cls) (index := i) (n := na) (bytes := Mc.2.1) (maxL := Mc.2.2.1) (ret := Mc.2.2.2.1) ⟨hx, hb, hml, hown, hts⟩ hM1 ⟨⟨rfl, rfl, hf, ?_, ok.1.words hts, ?_, hts _ ok.1.1.2.2.1, hts _ ok.1.1.2.2.2, ok.1.2.1, ky_nargs ok.1.2.2.1, hts _ hlk⟩, hts _ ok.2.1, hts _ ok.2.2⟩
    ⟨ky_blind, ⟨cell, q1, by rw [q3]; rfl, ?_⟩, ky_pre hE hS hM hI hB _⟩ rfl hna hl.1 hstk (lv_room hst) hd ⟨by omega, by omega⟩
  · have := ok.1.2.2.2
    show 8 + (Mc.2.2.1 + 11) + 35 * d ≤ R.locals
    omega
  · rw [show ky_wy Mc = .code Mc.1 Mc.2.1 Mc.2.2.1 Mc.2.2.2.1 :: ky_ws from if_pos ok.1.1.1]; exact List.mem_cons_self
  · rw [← hq2, q2]; exact hfc
theorem ky_callV {Mc : ky_Md} {i na k0 kc2 ks2 : Nat} {as : List Value} {v : Option Value} {σ1 : ky_St} {stk : List Value} {c5 : Nat} {q : vw_C} (hM1 : ky_K G Mc d kc2 ks2 (ky_r G k0 :: as) σ (.inr v) σ1) (ok : ky_okV Mc na) (hlk : Cond.methodLink M.1.cls i Mc.1 ∈ ky_ws) (hc : ky_cl k0 = c5) (hq : ky_cls[c5]? = some q) (hq2 : q.1 = Mc.1.cls)
    (hna : as.length = na) (hstk : stk = as.reverse ++ ky_r G k0 :: st) (hst : (st.map fun v => v.category).sum ≤ 8) (hd : decode M.2.1 pc = .ok (.invokevirtual i, 3)) (hn : pc + 3 = n)
    (k : ky_T G M (d + 1) kc ks n lv (v.toList ++ st) σ1 o σ') : ky_T G M (d + 1) (kc + kc2) (ks + ks2) pc lv stk σ o σ' := by
  intro p e R s m args below meth c H locs cells slots mc ms ls C hS hM hl h1 h2
  subst hn
  refine ky_go (ky_runV hM1 ok hlk hc hq hq2 hna hstk hst hd C hS hM hl h1 h2) hS (fun E ce q9 H1 locs1 z => (by cases z)) (fun v2 H1 locs1 z hM2 hS2 => ?_)
  cases z
  exact k p e R s m args below meth c H1 locs1 _ _ mc ms ls C hS2 hM2 hl (by omega) (by omega)
/-- the callee throws, nothing here catches it -/
theorem ky_callVX {Mc : ky_Md} {i na k0 kc2 ks2 : Nat} {as : List Value} {E : String} {σ1 : ky_St} {stk : List Value} {c5 : Nat} {q : vw_C} (hM1 : ky_K G Mc d kc2 ks2 (ky_r G k0 :: as) σ (.inl E) σ1) (ok : ky_okV Mc na) (hlk : Cond.methodLink M.1.cls i Mc.1 ∈ ky_ws) (hc : ky_cl k0 = c5) (hq : ky_cls[c5]? = some q) (hq2 : q.1 = Mc.1.cls)
    (hna : as.length = na) (hstk : stk = as.reverse ++ ky_r G k0 :: st) (hst : (st.map fun v => v.category).sum ≤ 8) (hd : decode M.2.1 pc = .ok (.invokevirtual i, 3)) (hh : M.2.2.2.2 = []) : ky_T G M (d + 1) (kc + kc2) (ks + ks2) pc lv stk σ (.inl E) σ1 := by
  intro p e R s m args below meth c H locs cells slots mc ms ls C hS hM hl h1 h2
  refine ky_go (ky_runV hM1 ok hlk hc hq hq2 hna hstk hst hd C hS hM hl h1 h2) hS (fun E2 ce q9 H1 locs1 z hM2 hS2 hce hcv hcl => ?_) (fun v2 H1 locs1 z => (by cases z))
  cases z
  exact vx_out (by rw [C.2.2.2.2.2.2.2.2.1, hh]; intro x hx; cases hx) C.2.2.2.2.2.2.2.1 hce hcv hcl (fun t ht hal => ⟨rfl, (show ky_M G s σ1 t.heap by rw [ht]; exact hM2).moved hal, hS2.F ht⟩) hS2.2.2 (by omega) (by omega)
theorem ky_runS {Mc : ky_Md} {i na kc2 ks2 : Nat} {as : List Value} {o1 : ky_O} {σ1 : ky_St} {stk : List Value} (hM1 : ky_K G Mc d kc2 ks2 as σ o1 σ1) (ok : ky_okS Mc na) (hlk : Cond.methodLink M.1.cls i Mc.1 ∈ ky_ws)
    (hna : as.length = na) (hstk : stk = as.reverse ++ st) (hst : (st.map fun v => v.category).sum ≤ 8) (hd : decode M.2.1 pc = .ok (.invokestatic i, 3))
    {p : Program} {e : Env} {R : Room} {s : State} {m : MethodId} {args : Array Value} {below : List Frame} {meth : Method} {c : Code} {H : Heap} {locs : List Loc} {cells slots mc ms : Nat} {ls : Array Slot}
    (C : ky_C G M (d + 1) p R s m args meth c mc ms) (hS : va_S (ky_A G) s.heap H locs) (hM : ky_M G s σ H) (hl : lv_has ls M.2.2.1 lv) (h1 : cells + (kc + kc2) ≤ mc) (h2 : slots + (ks + ks2) ≤ ms) :
    vx_Run p G.1 e R s m args below meth c H locs cells slots kc2 ks2 (F0 m pc ls stk) st (ky_Qc G o1 σ1 as.toArray) (ky_XC G o1 σ1) (ky_A G) := by
  obtain ⟨hx, hb, hr, hml, hown, hts, hE, hlk2, hex, hI, hB, hf, hlo, hmc, hms⟩ := C
  refine vx_runS (As := as) (index := i) (n := na) (bytes := Mc.2.1) (maxL := Mc.2.2.1) (ret := Mc.2.2.2.1) ⟨hx, hb, hml, hown, hts⟩ hM1 ⟨⟨rfl, rfl, hf, ?_, ok.1.words hts, ?_, hts _ ok.1.1.2.2.1, hts _ ok.1.1.2.2.2, ok.1.2.1, ky_nargs ok.1.2.2.1, hts _ hlk⟩, hts _ ok.2⟩
    ⟨ky_blind, ky_pre hE hS hM hI hB _⟩ rfl hna hl.1 hstk (lv_room hst) hd ⟨by omega, by omega⟩
  · have := ok.1.2.2.2
    show 8 + (Mc.2.2.1 + 11) + 35 * d ≤ R.locals
    omega
  · rw [show ky_wy Mc = .code Mc.1 Mc.2.1 Mc.2.2.1 Mc.2.2.2.1 :: ky_ws from if_pos ok.1.1.1]; exact List.mem_cons_self
theorem ky_callS {Mc : ky_Md} {i na kc2 ks2 : Nat} {as : List Value} {v : Option Value} {σ1 : ky_St} {stk : List Value} (hM1 : ky_K G Mc d kc2 ks2 as σ (.inr v) σ1) (ok : ky_okS Mc na) (hlk : Cond.methodLink M.1.cls i Mc.1 ∈ ky_ws)
    (hna : as.length = na) (hstk : stk = as.reverse ++ st) (hst : (st.map fun v => v.category).sum ≤ 8) (hd : decode M.2.1 pc = .ok (.invokestatic i, 3)) (hn : pc + 3 = n)
    (k : ky_T G M (d + 1) kc ks n lv (v.toList ++ st) σ1 o σ') : ky_T G M (d + 1) (kc + kc2) (ks + ks2) pc lv stk σ o σ' := by
  intro p e R s m args below meth c H locs cells slots mc ms ls C hS hM hl h1 h2
  subst hn
  refine ky_go (ky_runS hM1 ok hlk hna hstk hst hd C hS hM hl h1 h2) hS (fun E ce q9 H1 locs1 z => (by cases z)) (fun v2 H1 locs1 z hM2 hS2 => ?_)
  cases z
  exact k p e R s m args below meth c H1 locs1 _ _ mc ms ls C hS2 hM2 hl (by omega) (by omega)
theorem ky_callSX {Mc : ky_Md} {i na kc2 ks2 : Nat} {as : List Value} {E : String} {σ1 : ky_St} {stk : List Value} (hM1 : ky_K G Mc d kc2 ks2 as σ (.inl E) σ1) (ok : ky_okS Mc na) (hlk : Cond.methodLink M.1.cls i Mc.1 ∈ ky_ws)
    (hna : as.length = na) (hstk : stk = as.reverse ++ st) (hst : (st.map fun v => v.category).sum ≤ 8) (hd : decode M.2.1 pc = .ok (.invokestatic i, 3)) (hh : M.2.2.2.2 = []) : ky_T G M (d + 1) (kc + kc2) (ks + ks2) pc lv stk σ (.inl E) σ1 := by
  intro p e R s m args below meth c H locs cells slots mc ms ls C hS hM hl h1 h2
  refine ky_go (ky_runS hM1 ok hlk hna hstk hst hd C hS hM hl h1 h2) hS (fun E2 ce q9 H1 locs1 z hM2 hS2 hce hcv hcl => ?_) (fun v2 H1 locs1 z => (by cases z))
  cases z
  exact vx_out (by rw [C.2.2.2.2.2.2.2.2.1, hh]; intro x hx; cases hx) C.2.2.2.2.2.2.2.1 hce hcv hcl (fun t ht hal => ⟨rfl, (show ky_M G s σ1 t.heap by rw [ht]; exact hM2).moved hal, hS2.F ht⟩) hS2.2.2 (by omega) (by omega)
/-- a private static method of a nest mate -/
theorem ky_callN {Mc : ky_Md} {i na kc2 ks2 : Nat} {as : List Value} {v : Option Value} {σ1 : ky_St} {stk : List Value} (hM1 : ky_K G Mc d kc2 ks2 as σ (.inr v) σ1) (ok : ky_okS Mc na) (hlk : Cond.methodLinkNest M.1.cls i Mc.1 RX3 ∈ ky_nest)
    (hna : as.length = na) (hstk : stk = as.reverse ++ st) (hst : (st.map fun v => v.category).sum ≤ 8) (hd : decode M.2.1 pc = .ok (.invokestatic i, 3)) (hn : pc + 3 = n)
    (k : ky_T G M (d + 1) kc ks n lv (v.toList ++ st) σ1 o σ') : ky_T G M (d + 1) (kc + kc2) (ks + ks2) pc lv stk σ o σ' := by
  intro p e R s m args below meth c H locs cells slots mc ms ls C hS hM hl h1 h2
  subst hn
  obtain ⟨hx, hb, hr, hml, hown, hts, hE, hlk2, hex, hI, hB, hf, hlo, hmc, hms⟩ := id C
  refine ky_goA (va_runSN (As := as) (index := i) (n := na) (host := RX3) (rest := st) (bytes := Mc.2.1) (maxL := Mc.2.2.1) (ret := Mc.2.2.2.1) ⟨hx, hb, hml, hown, hts⟩ (ky_Met hM1) ⟨⟨⟨rfl, rfl, hf, ?_, ok.1.words hts, ?_⟩, hts _ ok.1.1.2.2.1, hts _ ok.1.1.2.2.2, ok.1.2.1, ky_nargs ok.1.2.2.1, va_Nw.use rfl (hE.2.2.1 _ hlk)⟩, hts _ ok.2, trivial⟩
    ⟨ky_blind, ky_pre hE hS hM hI hB _⟩ rfl hna hl.1 hstk (lv_room hst) hd ⟨by omega, by omega⟩) hS (fun H1 locs1 hM2 hS2 => ?_)
  · have := ok.1.2.2.2
    show 8 + (Mc.2.2.1 + 11) + 35 * d ≤ R.locals
    omega
  · rw [show ky_wy Mc = .code Mc.1 Mc.2.1 Mc.2.2.1 Mc.2.2.2.1 :: ky_ws from if_pos ok.1.1.1]; exact List.mem_cons_self
  · exact k p e R s m args below meth c H1 locs1 _ _ mc ms ls C hS2 hM2 hl (by omega) (by omega)
end KYc
end
section
/-! ===== throws, catches, the library ===== -/
section KYt
variable {G : ky_G} {M : ky_Md} {d kc ks pc n : Nat} {lv lv' : List (Nat × Value)} {st : List Value} {σ σ' : ky_St} {o : ky_O}
def ky_bad (X : String) : List Cond := [.declares (Bundle.initS "java/lang/RuntimeException"), .declares (Bundle.initS "java/lang/Exception"), .declares (Bundle.initS Bundle.tN), .castable X X]
def ky_sup : List String := ["java/lang/RuntimeException", "java/lang/Exception"]
/-- what a program decides of a throw's words, once for each class -/
def ky_okX (ic : Nat) (X : String) : Prop := X ∈ [ky_ex1, ky_ex2, ky_ex3] ∧ Bundle.fit X = true ∧ Cond.initialized X ∈ ky_ws ∧ (∀ w ∈ (vx_atS RX3 ic X ky_sup).filter goodWord, w ∈ ky_ws) ∧ (vx_atS RX3 ic X ky_sup).filter (fun w => !goodWord w) = ky_bad X ∧ (∀ w ∈ Cond.initialized X :: vx_atS RX3 ic X ky_sup, vx_ot w = true)
theorem ky_throw {ik is ic : Nat} {X text : String} (ok : ky_okX ic X) (hown : M.1.cls = RX3) (hk : Cond.classLink RX3 ik X ∈ ky_ws) (hstr : (is, text) ∈ ky_strs)
    (d0 : decode M.2.1 pc = .ok (.new ik, 3)) (d3 : decode M.2.1 (pc + 3) = .ok (.dup, 1)) (d4 : decode M.2.1 (pc + 4) = .ok (.ldc is, 2)) (d6 : decode M.2.1 (pc + 6) = .ok (.invokespecial ic, 3)) (d9 : decode M.2.1 (pc + 9) = .ok (.athrow, 1))
    (hh : M.2.2.2.2 = []) (hst : (st.map fun v => v.category).sum ≤ 8) (hkc : 1 ≤ kc) (hks : 6 ≤ ks) (hd : 6 ≤ d) : ky_T G M d kc ks pc lv st σ (.inl X) σ := by
  intro p e R s m args below meth c H locs cells slots mc ms ls C hS hM hl h1 h2
  obtain ⟨hx, hb, hr, hml, how, hts, hE, hlk2, hex, hI, hB, hf, hlo, hmc, hms⟩ := id C
  obtain ⟨o1, o2, o3, o4, o5, o6⟩ := ok
  obtain ⟨sa, hsa⟩ := hE.2.2.2.1 _ hstr
  refine vx_throwS (names := ky_sup) (sa := sa) (text := text) hx hb hI.1 (by rw [← hown]; exact how) o2 (by decide) (hts _ hk) (hts _ o3) hsa (vx_hat (B := ky_bad X) (fun w hw => hts w (o4 w hw)) (fun w hw => by rw [o5] at hw; exact hw) ?_) ?_
    hE.2.2.2.2.2.2.1 hE.2.2.2.2.2.2.2.1 hS (by rw [hl.1, hml]) d0 d3 d4 d6 d9 (by rw [hex, hh]; intro x hx; cases hx) (by show 2 + 3 < R.frames; omega) (by show _ + (13 * (2 + 1) + 43) ≤ R.locals; omega) (by omega) (by omega) hlk2
    (fun t hal hz hk => ⟨rfl, ?_, ?_, ?_⟩) hS.2.2 (by omega) (by omega)
  · intro w hw
    simp only [ky_bad, List.mem_cons, List.not_mem_nil, or_false] at hw
    have hn : ∀ q ∈ ky_nest, va_Nw q s := hE.2.2.1
    rcases hw with rfl | rfl | rfl | rfl
    · exact va_Nw.use rfl (hn _ (List.mem_of_getElem? (i := 7) rfl))
    · exact va_Nw.use rfl (hn _ (List.mem_of_getElem? (i := 8) rfl))
    · exact va_Nw.use rfl (hn _ (List.mem_of_getElem? (i := 9) rfl))
    · exact va_Nw.use rfl (hE.2.2.2.2.2.1 _ o1)
  · intro w hw
    rcases List.mem_cons.mp hw with e | hw
    · rw [e]; rfl
    · exact o6 w hw
  · have hlt : ∀ k n, ky_len G.2.2.2.1 k = some n → G.2.1 k < H.size := fun k n hk2 => by
      obtain ⟨scr, b1, -⟩ := hM.X hE.2.1 hk2
      exact (Array.getElem?_eq_some_iff.mp b1).1
    obtain ⟨m1, m2, ⟨scr, r1, r2, r3⟩, ⟨sc2, t1, t2, t3⟩⟩ := hM
    refine ⟨fun k hk2 => ?_, fun k n hk2 => ?_, ⟨scr, (hk _ (Array.getElem?_eq_some_iff.mp r1).1).trans r1, State.isArrayOf_alike hal r2, r3⟩, ⟨sc2, (hk _ (Array.getElem?_eq_some_iff.mp t1).1).trans t1, State.isArrayOf_alike hal t2, t3⟩⟩
    · obtain ⟨cell, q1, q2⟩ := m1 k hk2
      exact ⟨cell, (hk _ (Array.getElem?_eq_some_iff.mp q1).1).trans q1, q2⟩
    · have e := hk _ (hlt k n hk2)
      rcases m2 k n hk2 with ⟨h5, h6⟩ | ⟨h5, h6⟩
      · exact Or.inl ⟨h5, (va_X.moved hal h6).kept e⟩
      · exact Or.inr ⟨h5, by rw [e]; exact h6⟩
  · exact Nat.le_trans hS.1 hz
  · intro q g1 g2
    rw [hk q (Nat.lt_of_lt_of_le g1 hS.1)]
    exact hS.2.1 q g1 g2
/-- the callee throws, a handler here takes it -/
theorem ky_callVC {Mc : ky_Md} {i na k0 kc2 ks2 : Nat} {as : List Value} {X : String} {σ1 : ky_St} {stk : List Value} {c5 : Nat} {q : vw_C} (hM1 : ky_K G Mc d kc2 ks2 (ky_r G k0 :: as) σ (.inl X) σ1) (ok : ky_okV Mc na) (hlk : Cond.methodLink M.1.cls i Mc.1 ∈ ky_ws) (hc : ky_cl k0 = c5) (hq : ky_cls[c5]? = some q) (hq2 : q.1 = Mc.1.cls)
    (hna : as.length = na) (hstk : stk = as.reverse ++ ky_r G k0 :: st) (hst : (st.map fun v => v.category).sum ≤ 8) (hd : decode M.2.1 pc = .ok (.invokevirtual i, 3)) (hX : X ∈ [ky_ex1, ky_ex2, ky_ex3])
    (pre : List (Nat × Nat × Nat × Nat)) (nms : List String) (x : Nat × Nat × Nat × Nat) (suf : List (Nat × Nat × Nat × Nat)) (hh : M.2.2.2.2 = pre ++ x :: suf) (hx1 : x.1 ≤ pc ∧ pc < x.2.1) (h0 : x.2.2.2 ≠ 0)
    (hpre : pre.map (fun z => z.2.2.2) = nms.map (fun y => if y = ky_ex1 then 13 else if y = ky_ex2 then 15 else 21)) (hnm : ∀ y ∈ nms, y ∈ [ky_ex1, ky_ex2, ky_ex3] ∧ y ≠ X) (hl13 : ∀ y ∈ [ky_ex1, ky_ex2, ky_ex3], Cond.classLink M.1.cls (if y = ky_ex1 then 13 else if y = ky_ex2 then 15 else 21) y ∈ ky_ws)
    (hx2 : x.2.2.2 = if X = ky_ex1 then 13 else if X = ky_ex2 then 15 else 21) (hcov : covers ⟨x.1, x.2.1, x.2.2.1, x.2.2.2⟩ pc = true)
    (k : ∀ qa : Nat, ky_T G M (d + 1) kc ks x.2.2.1 lv [.ref qa] σ1 o σ') : ky_T G M (d + 1) (kc + kc2) (ks + ks2) pc lv stk σ o σ' := by
  intro p e R s m args below meth c H locs cells slots mc ms ls C hS hM hl h1 h2
  refine ky_go (ky_runV hM1 ok hlk hc hq hq2 hna hstk hst hd C hS hM hl h1 h2) hS (fun E2 ce q9 H1 locs1 z hM2 hS2 hce hcv hcl => ?_) (fun v2 H1 locs1 z => (by cases z))
  cases z
  obtain ⟨hx, hb, hr, hml, how, hts, hE, hlk2, hex, hI, hB, hf, hlo, hmc, hms⟩ := id C
  refine vx_catch (name := X) how (tableOf pre) ⟨x.1, x.2.1, x.2.2.1, x.2.2.2⟩ (tableOf suf) (by rw [hex, hh]; simp [tableOf]) (fun z hz => Or.inr ?_) hcov h0 (by show (Cond.classLink _ x.2.2.2 _).before _ _ = true; rw [hx2]; exact hts _ (hl13 X hX)) (va_Nw.use rfl (hE.2.2.2.2.2.1 _ hX)) hce hcv hcl
    (k q9 p e R s m args below meth c H1 locs1 _ _ mc ms ls C hS2 hM2 hl (by omega) (by omega))
  obtain ⟨z0, hz0, rfl⟩ := List.mem_map.mp hz
  have hm : z0.2.2.2 ∈ pre.map (fun z => z.2.2.2) := List.mem_map.mpr ⟨z0, hz0, rfl⟩
  rw [hpre] at hm
  obtain ⟨y, hy, hye⟩ := List.mem_map.mp hm
  obtain ⟨hy1, hy2⟩ := hnm y hy
  refine ⟨?_, y, ?_, hE.2.2.2.2.1 X hX y hy1 (fun e => hy2 e.symm)⟩
  · show z0.2.2.2 ≠ 0
    rw [← hye]
    split
    · decide
    · split <;> decide
  · show (Cond.classLink _ z0.2.2.2 _).before _ _ = true
    rw [← hye]
    exact hts _ (hl13 y hy1)
/-- a static method with handlers, which returns -/
theorem ky_callSW {Mc : ky_Md} {i na kc2 ks2 : Nat} {as : List Value} {v : Option Value} {σ1 : ky_St} {stk : List Value} (hM1 : ky_K G Mc d kc2 ks2 as σ (.inr v) σ1) (hh : Mc.2.2.2.2 ≠ []) (hco : Cond.codeWith Mc.1 Mc.2.1 Mc.2.2.1 Mc.2.2.2.1 Mc.2.2.2.2 ∈ ky_ws) (hini : Cond.initialized Mc.1.cls ∈ ky_ws) (hst0 : Cond.static Mc.1 ∈ ky_ws) (hcl : Mc.1.cls ≠ "java/lang/invoke/MethodHandle" ∧ Mc.1.cls ≠ "java/lang/invoke/VarHandle")
    (hpa : (parseMethodDescriptor Mc.1.desc).map (fun d => d.parameters.length) = some na) (hmx : Mc.2.2.1 ≤ 16) (hlk : Cond.methodLink M.1.cls i Mc.1 ∈ ky_ws)
    (hna : as.length = na) (hstk : stk = as.reverse ++ st) (hst : (st.map fun v => v.category).sum ≤ 8) (hd : decode M.2.1 pc = .ok (.invokestatic i, 3)) (hn : pc + 3 = n)
    (k : ky_T G M (d + 1) kc ks n lv (v.toList ++ st) σ1 o σ') : ky_T G M (d + 1) (kc + kc2) (ks + ks2) pc lv stk σ o σ' := by
  intro p e R s m args below meth c H locs cells slots mc ms ls C hS hM hl h1 h2
  subst hn
  obtain ⟨hx, hb, hr, hml, hown, hts, hE, hlk2, hex, hI, hB, hf, hlo, hmc, hms⟩ := id C
  have hwy : ky_wy Mc = .codeWith Mc.1 Mc.2.1 Mc.2.2.1 Mc.2.2.2.1 Mc.2.2.2.2 :: ky_ws := if_neg hh
  have hwm : ∀ w ∈ ky_wy Mc, w ∈ ky_ws := fun w hw => by
    rw [hwy] at hw
    rcases List.mem_cons.mp hw with e | hw
    · rw [e]; exact hco
    · exact hw
  refine ky_goA (vx_runSW (As := as) (index := i) (n := na) (rest := st) (bytes := Mc.2.1) (maxL := Mc.2.2.1) (ret := Mc.2.2.2.1) (hh := Mc.2.2.2.2) ⟨hx, hb, hml, hown, hts⟩ (ky_Met hM1) ⟨⟨rfl, rfl, hf, ?_, fun w hw a' U hW => word_at hW (ky_good (hwm w hw)) (hts w (hwm w hw)), ?_⟩, hts _ hco, hts _ hini, hcl, ky_nargs hpa, hts _ hlk, hts _ hst0⟩
    ⟨ky_blind, ky_pre hE hS hM hI hB _⟩ rfl hna hl.1 hstk (lv_room hst) hd ⟨by omega, by omega⟩) hS (fun H1 locs1 hM2 hS2 => ?_)
  · show 8 + (Mc.2.2.1 + 11) + 35 * d ≤ R.locals
    omega
  · rw [hwy]; exact List.mem_cons_self
  · exact k p e R s m args below meth c H1 locs1 _ _ mc ms ls C hS2 hM2 hl (by omega) (by omega)
theorem ky_min {i : Nat} {x y : Int32} (hd : decode M.2.1 pc = .ok (.invokestatic i, 3)) (hn : pc + 3 = n) (hlk : Cond.methodLink M.1.cls i Lib.Math.min.name ∈ ky_ws) (h0 : Cond.static Lib.Math.min.name ∈ ky_ws) (hi : Cond.initialized "java/lang/Math" ∈ ky_ws) (hco : Cond.code Lib.Math.min.name Lib.Math.min.code 2 (some .int) ∈ ky_ws)
    (hd1 : 1 ≤ d) (hst : (st.map fun v => v.category).sum ≤ 8) (k : ky_T G M d kc ks n lv (.int (if y < x then y else x) :: st) σ o σ') : ky_T G M d kc ks pc lv (.int y :: .int x :: st) σ o σ' := by
  intro p e R s m args below meth c H locs cells slots mc ms ls C hS hM hl h1 h2
  subst hn
  obtain ⟨hx, hb, hr, hml, hown, hts, hE, hlk2, hex, hI, hB, hf, hlo, hmc, hms⟩ := id C
  exact va_mmin hx hb (hml.trans hl.1.symm) hown (hts _ hlk) (hts _ h0) (hts _ hi) (hts _ hco) (by omega) (by omega) (by omega) (by omega) hd (k p e R s m args below meth c H locs cells slots mc ms ls C hS hM hl h1 h2)
theorem ky_max {i : Nat} {x y : Int32} (hd : decode M.2.1 pc = .ok (.invokestatic i, 3)) (hn : pc + 3 = n) (hlk : Cond.methodLink M.1.cls i Lib.Math.max.name ∈ ky_ws) (h0 : Cond.static Lib.Math.max.name ∈ ky_ws) (hi : Cond.initialized "java/lang/Math" ∈ ky_ws) (hco : Cond.code Lib.Math.max.name Lib.Math.max.code 2 (some .int) ∈ ky_ws)
    (hd1 : 1 ≤ d) (hst : (st.map fun v => v.category).sum ≤ 8) (k : ky_T G M d kc ks n lv (.int (if x < y then y else x) :: st) σ o σ') : ky_T G M d kc ks pc lv (.int y :: .int x :: st) σ o σ' := by
  intro p e R s m args below meth c H locs cells slots mc ms ls C hS hM hl h1 h2
  subst hn
  obtain ⟨hx, hb, hr, hml, hown, hts, hE, hlk2, hex, hI, hB, hf, hlo, hmc, hms⟩ := id C
  exact va_mmax hx hb (hml.trans hl.1.symm) hown (hts _ hlk) (hts _ h0) (hts _ hi) (hts _ hco) (by omega) (by omega) (by omega) (by omega) hd (k p e R s m args below meth c H locs cells slots mc ms ls C hS hM hl h1 h2)
theorem ky_rawbits {i : Nat} {b : UInt64} (hd : decode M.2.1 pc = .ok (.invokestatic i, 3)) (hn : pc + 3 = n) (hlk : Cond.methodLink M.1.cls i ⟨"java/lang/Double", "doubleToRawLongBits", "(D)J"⟩ ∈ ky_ws) (h0 : Cond.native ⟨"java/lang/Double", "doubleToRawLongBits", "(D)J"⟩ ∈ ky_ws) (h3 : Cond.static ⟨"java/lang/Double", "doubleToRawLongBits", "(D)J"⟩ ∈ ky_ws) (hi : Cond.initialized "java/lang/Double" ∈ ky_ws)
    (hd1 : 1 ≤ d) (hst : (st.map fun v => v.category).sum ≤ 8) (k : ky_T G M d kc ks n lv (.long b.toInt64 :: st) σ o σ') : ky_T G M d kc ks pc lv (.double b :: st) σ o σ' := by
  intro p e R s m args below meth c H locs cells slots mc ms ls C hS hM hl h1 h2
  subst hn
  obtain ⟨hx, hb, hr, hml, hown, hts, hE, hlk2, hex, hI, hB, hf, hlo, hmc, hms⟩ := id C
  exact vn_d2l hx hb (hml.trans hl.1.symm) hown (hts _ hlk) (hts _ h0) (hts _ h3) (hts _ hi) (by omega) (by omega) hd (k p e R s m args below meth c H locs cells slots mc ms ls C hS hM hl h1 h2)
/-- System.arraycopy of whole int rows from their starts -/
theorem ky_copy {i k0 k1 n0 n1 : Nat} {z : Int32} (hd : decode M.2.1 pc = .ok (.invokestatic i, 3)) (hn : pc + 3 = n) (hlk : Cond.methodLink M.1.cls i arraycopyName ∈ ky_ws) (h0 : Cond.native arraycopyName ∈ ky_ws) (h3 : Cond.static arraycopyName ∈ ky_ws) (hi : Cond.initialized "java/lang/System" ∈ ky_ws)
    (g0 : ky_len G.2.2.2.1 k0 = some n0) (r0 : ky_ro k0 = false) (g1 : ky_len G.2.2.2.1 k1 = some n1) (r1 : ky_ro k1 = false) (hz : ¬ z < 0) (hz0 : z.toNatClampNeg ≤ n0) (hz1 : z.toNatClampNeg ≤ n1)
    (hd1 : 1 ≤ d) (hst : (st.map fun v => v.category).sum ≤ 8) (k : ∀ σ1, σ1 = ky_uR σ k1 (va_cpy (σ.1 k0) (σ.1 k1) 0 0 z.toNatClampNeg) → ky_T G M d kc ks n lv st σ1 o σ') : ky_T G M d kc ks pc lv (.int z :: .int 0 :: ky_r G k1 :: .int 0 :: ky_r G k0 :: st) σ o σ' := by
  intro p e R s m args below meth c H locs cells slots mc ms ls C hS hM hl h1 h2
  subst hn
  obtain ⟨hx, hb, hr, hml, hown, hts, hE, hlk2, hex, hI, hB, hf, hlo, hmc, hms⟩ := id C
  have hc0 : H[G.2.1 k0]? = some (vp_cell G.2.2.2.2.2 (n0, .inl (σ.1 k0))) := by
    rcases hM.2.1 k0 n0 g0 with ⟨h, -⟩ | ⟨-, h⟩
    · rw [r0] at h; cases h
    · exact h
  have hc1 : H[G.2.1 k1]? = some (vp_cell G.2.2.2.2.2 (n1, .inl (σ.1 k1))) := by
    rcases hM.2.1 k1 n1 g1 with ⟨h, -⟩ | ⟨-, h⟩
    · rw [r1] at h; cases h
    · exact h
  intro T hT X
  obtain ⟨-, q0, hq0, cm0, hqq0⟩ := hE.2.1 n0 (fun j => .int (σ.1 k0 j))
  obtain ⟨-, q1, hq1, cm1, hqq1⟩ := hE.2.1 n1 (fun j => .int (σ.1 k1 j))
  have nz : ((0 : Int32)).toNatClampNeg = 0 := rfl
  have hnf : nativeFrameWords "java/lang/System" "arraycopy" 5 ≤ 16 := by decide
  have nn : ∀ v : Int32, ¬ v < 0 → v.toInt = (v.toNatClampNeg : Int) := fun v hv => by
    rw [Int32.lt_iff_toInt_lt, Int32.toInt_zero] at hv
    show v.toInt = ((v.toInt.toNat : Nat) : Int)
    omega
  obtain ⟨vm', X', step⟩ := X.arraycopy hx hown (hts _ hlk) (hts _ h0) (hts _ h3) (hts _ hi) (src := G.2.1 k0) (dst := G.2.1 k1) (cs := vp_cell G.2.2.2.2.2 (n0, .inl (σ.1 k0))) (cd := vp_cell G.2.2.2.2.2 (n1, .inl (σ.1 k1))) (srcPos := 0) (destPos := 0) (n := z) (by rw [hT]; exact hc0) (by rw [hT]; exact hc1)
    (fun _ h => by cases h) (fun _ h => by cases h) (fun h => by cases h) (fun h => by cases h) hq0 hq1 hqq0 hqq1 (by simp [refKind]) (by decide) (by decide) hz
    (by rw [nn z hz]; show ¬ _ > ((arrV G.2.2.2.2.2 n0 (fun j => .int (σ.1 k0 j))).slots.size : Int); rw [arrV_size]; simp; omega)
    (by rw [nn z hz]; show ¬ _ > ((arrV G.2.2.2.2.2 n1 (fun j => .int (σ.1 k1 j))).slots.size : Int); rw [arrV_size]; simp; omega)
    (fun vm₁ _ i hi => by
      have e : (vp_cell G.2.2.2.2.2 (n0, .inl (σ.1 k0))).slots.getD ((0 : Int32).toNatClampNeg + i) .null = .int (σ.1 k0 ((0 : Int32).toNatClampNeg + i)) := by
        show (arrV G.2.2.2.2.2 n0 (fun j => .int (σ.1 k0 j))).slots.getD _ _ = _
        rw [Array.getD_eq_getD_getElem?, arrV_read _ _ (by rw [nz]; omega)]
        rfl
      refine ⟨?_, ?_⟩
      · rw [e]; rfl
      · rw [e]; exact trivial)
    (g := F0 m pc ls (.int z :: .int 0 :: ky_r G k1 :: .int 0 :: ky_r G k0 :: st)) rfl (by rw [hl.1, hml]) (rest := st) rfl (by rw [hb]; exact hd) (by omega) (by show 2 * 0 + _ + _ ≤ _; omega)
  have e1 : copied (vp_cell G.2.2.2.2.2 (n0, .inl (σ.1 k0))) (vp_cell G.2.2.2.2.2 (n1, .inl (σ.1 k1))) 0 0 z = vp_cell G.2.2.2.2.2 (n1, .inl (va_cpy (σ.1 k0) (σ.1 k1) (0 : Int32).toNatClampNeg (0 : Int32).toNatClampNeg z.toNatClampNeg)) := va_copied (fun z => .int z) _ _ _ _ (by rw [nz]; omega)
  rw [e1] at X' step
  have hl1 : G.2.1 k1 < H.size := (Array.getElem?_eq_some_iff.mp hc1).1
  have hheap : ((T.setVm vm').setCell (G.2.1 k1) (vp_cell G.2.2.2.2.2 (n1, .inl (va_cpy (σ.1 k0) (σ.1 k1) (0 : Int32).toNatClampNeg (0 : Int32).toNatClampNeg z.toNatClampNeg)))).heap = H.setIfInBounds (G.2.1 k1) (vp_cell G.2.2.2.2.2 (n1, .inl (va_cpy (σ.1 k0) (σ.1 k1) (0 : Int32).toNatClampNeg (0 : Int32).toNatClampNeg z.toNatClampNeg))) := by rw [← hT]; rfl
  have oq : ∀ q : Nat, q ≠ G.2.1 k1 → (H.setIfInBounds (G.2.1 k1) (vp_cell G.2.2.2.2.2 (n1, .inl (va_cpy (σ.1 k0) (σ.1 k1) (0 : Int32).toNatClampNeg (0 : Int32).toNatClampNeg z.toNatClampNeg))))[q]? = H[q]? := fun q hq => by simp [Array.getElem?_setIfInBounds, Ne.symm hq]
  have hA1 := hI.2.2 k1 (ky_len_f g1).1 r1
  have hS2 : ∀ (locs1 : List Loc), (∀ q ∈ locs1, ky_A G q.base) → va_S (ky_A G) s.heap (H.setIfInBounds (G.2.1 k1) (vp_cell G.2.2.2.2.2 (n1, .inl (va_cpy (σ.1 k0) (σ.1 k1) (0 : Int32).toNatClampNeg (0 : Int32).toNatClampNeg z.toNatClampNeg)))) (locs ++ locs1) := by
    intro locs1 hL
    refine ⟨by simp; exact hS.1, fun q g1 g2 => ?_, fun q hq => ?_⟩
    · rw [oq q (fun e => g2 (by rw [e]; exact hA1))]
      exact hS.2.1 q g1 g2
    · rcases List.mem_append.mp hq with h | h
      · exact hS.2.2 q h
      · exact hL q h
  have hM2 : ky_M G s (ky_uR σ k1 (va_cpy (σ.1 k0) (σ.1 k1) 0 0 z.toNatClampNeg)) (H.setIfInBounds (G.2.1 k1) (vp_cell G.2.2.2.2.2 (n1, .inl (va_cpy (σ.1 k0) (σ.1 k1) (0 : Int32).toNatClampNeg (0 : Int32).toNatClampNeg z.toNatClampNeg)))) := by
    refine hM.putArr hI g1 r1 oq (fun a ha => ky_uR_ne ha) rfl ?_
    rw [ky_uR_row]
    simp [Array.getElem?_setIfInBounds, hl1]
  obtain ⟨t, a1, b1⟩ := k _ rfl p e R s m args below meth c _ _ cells slots mc ms ls C (hS2 _ (fun q hq => by
      obtain ⟨z, -, hz⟩ := List.mem_map.mp hq
      rw [← hz]
      exact hA1)) hM2 hl h1 h2 _ hheap X'
  exact ⟨t, step t a1, b1⟩
end KYt
end
section
theorem ky_dummy : True := trivial
end
