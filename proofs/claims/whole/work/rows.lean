section
-- ===== PART A: goes FIRST, ahead of the names: the tables' words, and 'selects' of the private methods out of them =====
/-- a private method of a class that the tables say can be made, by its rows of tables_1 -/
def lw_okq (q : MethodName × Nat) : Prop := (q.1.cls ≠ "java/lang/invoke/MethodHandle" ∧ q.1.cls ≠ "java/lang/invoke/VarHandle") ∧ Cond.instantiable q.1.cls q.2 ∈ tables_1 ∧ Cond.privateMethod q.1 ∈ tables_1 ∧ Cond.instanceMethod q.1 ∈ tables_1
theorem lw_p0 : lw_okq (⟨"CompostKeys", "numberOf", "(I)I"⟩, 5) := ⟨⟨by decide +kernel, by decide +kernel⟩, List.mem_of_getElem? (i := 19) (by decide +kernel), List.mem_of_getElem? (i := 240) (by decide +kernel), List.mem_of_getElem? (i := 241) (by decide +kernel)⟩
theorem lw_p1 : lw_okq (⟨"CompostKeys", "mixKind", "(JI)J"⟩, 5) := ⟨⟨by decide +kernel, by decide +kernel⟩, List.mem_of_getElem? (i := 19) (by decide +kernel), List.mem_of_getElem? (i := 261) (by decide +kernel), List.mem_of_getElem? (i := 262) (by decide +kernel)⟩
theorem lw_p2 : lw_okq (⟨"CompostKeys$Keys", "rankByRule", "(III)I"⟩, 6) := ⟨⟨by decide +kernel, by decide +kernel⟩, List.mem_of_getElem? (i := 33) (by decide +kernel), List.mem_of_getElem? (i := 303) (by decide +kernel), List.mem_of_getElem? (i := 304) (by decide +kernel)⟩
theorem lw_p3 : lw_okq (⟨"java/lang/Throwable", "fillInStackTrace", "(I)Ljava/lang/Throwable;"⟩, 6) := ⟨⟨by decide +kernel, by decide +kernel⟩, List.mem_of_getElem? (i := 384) (by decide +kernel), List.mem_of_getElem? (i := 382) (by decide +kernel), List.mem_of_getElem? (i := 383) (by decide +kernel)⟩
theorem lw_p4 : lw_okq (⟨"CompostKeys$SavedStates", "dropOldest", "()V"⟩, 2) := ⟨⟨by decide +kernel, by decide +kernel⟩, List.mem_of_getElem? (i := 119) (by decide +kernel), List.mem_of_getElem? (i := 418) (by decide +kernel), List.mem_of_getElem? (i := 419) (by decide +kernel)⟩
theorem lw_p5 : lw_okq (⟨"CompostKeys$Compost", "giveKey", "(II)V"⟩, 3) := ⟨⟨by decide +kernel, by decide +kernel⟩, List.mem_of_getElem? (i := 27) (by decide +kernel), List.mem_of_getElem? (i := 444) (by decide +kernel), List.mem_of_getElem? (i := 445) (by decide +kernel)⟩
theorem lw_p6 : lw_okq (⟨"CompostKeys$Keys", "takeOut", "(II)V"⟩, 6) := ⟨⟨by decide +kernel, by decide +kernel⟩, List.mem_of_getElem? (i := 33) (by decide +kernel), List.mem_of_getElem? (i := 452) (by decide +kernel), List.mem_of_getElem? (i := 453) (by decide +kernel)⟩
theorem lw_p7 : lw_okq (⟨"CompostKeys$Compost", "reasonAgainst", "(II)I"⟩, 3) := ⟨⟨by decide +kernel, by decide +kernel⟩, List.mem_of_getElem? (i := 27) (by decide +kernel), List.mem_of_getElem? (i := 474) (by decide +kernel), List.mem_of_getElem? (i := 475) (by decide +kernel)⟩
theorem lw_p8 : lw_okq (⟨"CompostKeys", "doOrder", "(I)Z"⟩, 5) := ⟨⟨by decide +kernel, by decide +kernel⟩, List.mem_of_getElem? (i := 19) (by decide +kernel), List.mem_of_getElem? (i := 667) (by decide +kernel), List.mem_of_getElem? (i := 668) (by decide +kernel)⟩
theorem lw_p9 : lw_okq (⟨"CompostKeys", "turnIfKind", "(I)Z"⟩, 5) := ⟨⟨by decide +kernel, by decide +kernel⟩, List.mem_of_getElem? (i := 19) (by decide +kernel), List.mem_of_getElem? (i := 675) (by decide +kernel), List.mem_of_getElem? (i := 676) (by decide +kernel)⟩
theorem lw_p10 : lw_okq (⟨"CompostKeys", "passIfCan", "(I)Z"⟩, 5) := ⟨⟨by decide +kernel, by decide +kernel⟩, List.mem_of_getElem? (i := 19) (by decide +kernel), List.mem_of_getElem? (i := 679) (by decide +kernel), List.mem_of_getElem? (i := 680) (by decide +kernel)⟩
theorem lw_p11 : lw_okq (⟨"CompostKeys", "doRowOrder", "(III)Z"⟩, 5) := ⟨⟨by decide +kernel, by decide +kernel⟩, List.mem_of_getElem? (i := 19) (by decide +kernel), List.mem_of_getElem? (i := 683) (by decide +kernel), List.mem_of_getElem? (i := 684) (by decide +kernel)⟩
theorem lw_p12 : lw_okq (⟨"CompostKeysModel", "goes", "(ZZ)Z"⟩, 9) := ⟨⟨by decide +kernel, by decide +kernel⟩, List.mem_of_getElem? (i := 793) (by decide +kernel), List.mem_of_getElem? (i := 842) (by decide +kernel), List.mem_of_getElem? (i := 843) (by decide +kernel)⟩
theorem lw_p13 : lw_okq (⟨"CompostKeysModel", "saves", "()V"⟩, 9) := ⟨⟨by decide +kernel, by decide +kernel⟩, List.mem_of_getElem? (i := 793) (by decide +kernel), List.mem_of_getElem? (i := 846) (by decide +kernel), List.mem_of_getElem? (i := 847) (by decide +kernel)⟩
theorem lw_p14 : lw_okq (⟨"CompostKeysModel", "copies", "(II)V"⟩, 9) := ⟨⟨by decide +kernel, by decide +kernel⟩, List.mem_of_getElem? (i := 793) (by decide +kernel), List.mem_of_getElem? (i := 850) (by decide +kernel), List.mem_of_getElem? (i := 851) (by decide +kernel)⟩
theorem lw_p15 : lw_okq (⟨"CompostKeysModel", "asks", "(I)I"⟩, 9) := ⟨⟨by decide +kernel, by decide +kernel⟩, List.mem_of_getElem? (i := 793) (by decide +kernel), List.mem_of_getElem? (i := 854) (by decide +kernel), List.mem_of_getElem? (i := 855) (by decide +kernel)⟩
def lw_privs_1 : List (MethodName × Nat) := [(⟨"CompostKeys", "numberOf", "(I)I"⟩, 5), (⟨"CompostKeys", "mixKind", "(JI)J"⟩, 5), (⟨"CompostKeys$Keys", "rankByRule", "(III)I"⟩, 6), (⟨"java/lang/Throwable", "fillInStackTrace", "(I)Ljava/lang/Throwable;"⟩, 6), (⟨"CompostKeys$SavedStates", "dropOldest", "()V"⟩, 2), (⟨"CompostKeys$Compost", "giveKey", "(II)V"⟩, 3), (⟨"CompostKeys$Keys", "takeOut", "(II)V"⟩, 6), (⟨"CompostKeys$Compost", "reasonAgainst", "(II)I"⟩, 3), (⟨"CompostKeys", "doOrder", "(I)Z"⟩, 5), (⟨"CompostKeys", "turnIfKind", "(I)Z"⟩, 5), (⟨"CompostKeys", "passIfCan", "(I)Z"⟩, 5), (⟨"CompostKeys", "doRowOrder", "(III)Z"⟩, 5), (⟨"CompostKeysModel", "goes", "(ZZ)Z"⟩, 9), (⟨"CompostKeysModel", "saves", "()V"⟩, 9), (⟨"CompostKeysModel", "copies", "(II)V"⟩, 9), (⟨"CompostKeysModel", "asks", "(I)I"⟩, 9)]
theorem lw_r1 : ∀ q ∈ lw_privs_1, lw_okq q := List.forall_mem_cons.mpr ⟨lw_p0, List.forall_mem_cons.mpr ⟨lw_p1, List.forall_mem_cons.mpr ⟨lw_p2, List.forall_mem_cons.mpr ⟨lw_p3, List.forall_mem_cons.mpr ⟨lw_p4, List.forall_mem_cons.mpr ⟨lw_p5, List.forall_mem_cons.mpr ⟨lw_p6, List.forall_mem_cons.mpr ⟨lw_p7, List.forall_mem_cons.mpr ⟨lw_p8, List.forall_mem_cons.mpr ⟨lw_p9, List.forall_mem_cons.mpr ⟨lw_p10, List.forall_mem_cons.mpr ⟨lw_p11, List.forall_mem_cons.mpr ⟨lw_p12, List.forall_mem_cons.mpr ⟨lw_p13, List.forall_mem_cons.mpr ⟨lw_p14, List.forall_mem_cons.mpr ⟨lw_p15, fun _ h => absurd h List.not_mem_nil⟩⟩⟩⟩⟩⟩⟩⟩⟩⟩⟩⟩⟩⟩⟩⟩
theorem lw_p16 : lw_okq (⟨"CompostKeysModel", "draws", "(II)I"⟩, 9) := ⟨⟨by decide +kernel, by decide +kernel⟩, List.mem_of_getElem? (i := 793) (by decide +kernel), List.mem_of_getElem? (i := 858) (by decide +kernel), List.mem_of_getElem? (i := 859) (by decide +kernel)⟩
theorem lw_p17 : lw_okq (⟨"CompostKeysModel", "lowestFresh", "(II)I"⟩, 9) := ⟨⟨by decide +kernel, by decide +kernel⟩, List.mem_of_getElem? (i := 793) (by decide +kernel), List.mem_of_getElem? (i := 862) (by decide +kernel), List.mem_of_getElem? (i := 863) (by decide +kernel)⟩
theorem lw_p18 : lw_okq (⟨"CompostKeysModel", "topRipe", "(II)I"⟩, 9) := ⟨⟨by decide +kernel, by decide +kernel⟩, List.mem_of_getElem? (i := 793) (by decide +kernel), List.mem_of_getElem? (i := 869) (by decide +kernel), List.mem_of_getElem? (i := 870) (by decide +kernel)⟩
theorem lw_p19 : lw_okq (⟨"CompostKeysModel", "pileAt", "(III)I"⟩, 9) := ⟨⟨by decide +kernel, by decide +kernel⟩, List.mem_of_getElem? (i := 793) (by decide +kernel), List.mem_of_getElem? (i := 873) (by decide +kernel), List.mem_of_getElem? (i := 874) (by decide +kernel)⟩
theorem lw_p20 : lw_okq (⟨"CompostKeysModel", "isRipe", "(III)Z"⟩, 9) := ⟨⟨by decide +kernel, by decide +kernel⟩, List.mem_of_getElem? (i := 793) (by decide +kernel), List.mem_of_getElem? (i := 877) (by decide +kernel), List.mem_of_getElem? (i := 878) (by decide +kernel)⟩
theorem lw_p21 : lw_okq (⟨"CompostKeysModel", "age", "(III)I"⟩, 9) := ⟨⟨by decide +kernel, by decide +kernel⟩, List.mem_of_getElem? (i := 793) (by decide +kernel), List.mem_of_getElem? (i := 881) (by decide +kernel), List.mem_of_getElem? (i := 882) (by decide +kernel)⟩
theorem lw_p22 : lw_okq (⟨"CompostKeysModel", "canGive", "(III)Z"⟩, 9) := ⟨⟨by decide +kernel, by decide +kernel⟩, List.mem_of_getElem? (i := 793) (by decide +kernel), List.mem_of_getElem? (i := 885) (by decide +kernel), List.mem_of_getElem? (i := 886) (by decide +kernel)⟩
theorem lw_p23 : lw_okq (⟨"CompostKeysModel", "reason", "(I)I"⟩, 9) := ⟨⟨by decide +kernel, by decide +kernel⟩, List.mem_of_getElem? (i := 793) (by decide +kernel), List.mem_of_getElem? (i := 889) (by decide +kernel), List.mem_of_getElem? (i := 890) (by decide +kernel)⟩
theorem lw_p24 : lw_okq (⟨"CompostKeysModel", "without", "(II)I"⟩, 9) := ⟨⟨by decide +kernel, by decide +kernel⟩, List.mem_of_getElem? (i := 793) (by decide +kernel), List.mem_of_getElem? (i := 893) (by decide +kernel), List.mem_of_getElem? (i := 894) (by decide +kernel)⟩
theorem lw_p25 : lw_okq (⟨"CompostKeysModel", "gives", "(III)V"⟩, 9) := ⟨⟨by decide +kernel, by decide +kernel⟩, List.mem_of_getElem? (i := 793) (by decide +kernel), List.mem_of_getElem? (i := 897) (by decide +kernel), List.mem_of_getElem? (i := 898) (by decide +kernel)⟩
theorem lw_p26 : lw_okq (⟨"CompostKeysModel", "takes", "(III)V"⟩, 9) := ⟨⟨by decide +kernel, by decide +kernel⟩, List.mem_of_getElem? (i := 793) (by decide +kernel), List.mem_of_getElem? (i := 901) (by decide +kernel), List.mem_of_getElem? (i := 902) (by decide +kernel)⟩
theorem lw_p27 : lw_okq (⟨"CompostKeysModel", "placeOf", "(III)I"⟩, 9) := ⟨⟨by decide +kernel, by decide +kernel⟩, List.mem_of_getElem? (i := 793) (by decide +kernel), List.mem_of_getElem? (i := 905) (by decide +kernel), List.mem_of_getElem? (i := 906) (by decide +kernel)⟩
theorem lw_p28 : lw_okq (⟨"CompostKeysModel", "wants", "(II)I"⟩, 9) := ⟨⟨by decide +kernel, by decide +kernel⟩, List.mem_of_getElem? (i := 793) (by decide +kernel), List.mem_of_getElem? (i := 916) (by decide +kernel), List.mem_of_getElem? (i := 917) (by decide +kernel)⟩
theorem lw_p29 : lw_okq (⟨"CompostKeysModel", "isAlive", "(II)Z"⟩, 9) := ⟨⟨by decide +kernel, by decide +kernel⟩, List.mem_of_getElem? (i := 793) (by decide +kernel), List.mem_of_getElem? (i := 924) (by decide +kernel), List.mem_of_getElem? (i := 925) (by decide +kernel)⟩
theorem lw_p30 : lw_okq (⟨"CompostKeysModel", "deletes", "(II)I"⟩, 9) := ⟨⟨by decide +kernel, by decide +kernel⟩, List.mem_of_getElem? (i := 793) (by decide +kernel), List.mem_of_getElem? (i := 928) (by decide +kernel), List.mem_of_getElem? (i := 929) (by decide +kernel)⟩
theorem lw_p31 : lw_okq (⟨"CompostKeysModel", "canComeBack", "(II)Z"⟩, 9) := ⟨⟨by decide +kernel, by decide +kernel⟩, List.mem_of_getElem? (i := 793) (by decide +kernel), List.mem_of_getElem? (i := 936) (by decide +kernel), List.mem_of_getElem? (i := 937) (by decide +kernel)⟩
def lw_privs_2 : List (MethodName × Nat) := [(⟨"CompostKeysModel", "draws", "(II)I"⟩, 9), (⟨"CompostKeysModel", "lowestFresh", "(II)I"⟩, 9), (⟨"CompostKeysModel", "topRipe", "(II)I"⟩, 9), (⟨"CompostKeysModel", "pileAt", "(III)I"⟩, 9), (⟨"CompostKeysModel", "isRipe", "(III)Z"⟩, 9), (⟨"CompostKeysModel", "age", "(III)I"⟩, 9), (⟨"CompostKeysModel", "canGive", "(III)Z"⟩, 9), (⟨"CompostKeysModel", "reason", "(I)I"⟩, 9), (⟨"CompostKeysModel", "without", "(II)I"⟩, 9), (⟨"CompostKeysModel", "gives", "(III)V"⟩, 9), (⟨"CompostKeysModel", "takes", "(III)V"⟩, 9), (⟨"CompostKeysModel", "placeOf", "(III)I"⟩, 9), (⟨"CompostKeysModel", "wants", "(II)I"⟩, 9), (⟨"CompostKeysModel", "isAlive", "(II)Z"⟩, 9), (⟨"CompostKeysModel", "deletes", "(II)I"⟩, 9), (⟨"CompostKeysModel", "canComeBack", "(II)Z"⟩, 9)]
theorem lw_r2 : ∀ q ∈ lw_privs_2, lw_okq q := List.forall_mem_cons.mpr ⟨lw_p16, List.forall_mem_cons.mpr ⟨lw_p17, List.forall_mem_cons.mpr ⟨lw_p18, List.forall_mem_cons.mpr ⟨lw_p19, List.forall_mem_cons.mpr ⟨lw_p20, List.forall_mem_cons.mpr ⟨lw_p21, List.forall_mem_cons.mpr ⟨lw_p22, List.forall_mem_cons.mpr ⟨lw_p23, List.forall_mem_cons.mpr ⟨lw_p24, List.forall_mem_cons.mpr ⟨lw_p25, List.forall_mem_cons.mpr ⟨lw_p26, List.forall_mem_cons.mpr ⟨lw_p27, List.forall_mem_cons.mpr ⟨lw_p28, List.forall_mem_cons.mpr ⟨lw_p29, List.forall_mem_cons.mpr ⟨lw_p30, List.forall_mem_cons.mpr ⟨lw_p31, fun _ h => absurd h List.not_mem_nil⟩⟩⟩⟩⟩⟩⟩⟩⟩⟩⟩⟩⟩⟩⟩⟩
theorem lw_p32 : lw_okq (⟨"CompostKeysModel", "comesBack", "(II)I"⟩, 9) := ⟨⟨by decide +kernel, by decide +kernel⟩, List.mem_of_getElem? (i := 793) (by decide +kernel), List.mem_of_getElem? (i := 940) (by decide +kernel), List.mem_of_getElem? (i := 941) (by decide +kernel)⟩
theorem lw_p33 : lw_okq (⟨"CompostKeysModel", "turns", "(I)I"⟩, 9) := ⟨⟨by decide +kernel, by decide +kernel⟩, List.mem_of_getElem? (i := 793) (by decide +kernel), List.mem_of_getElem? (i := 948) (by decide +kernel), List.mem_of_getElem? (i := 949) (by decide +kernel)⟩
theorem lw_p34 : lw_okq (⟨"CompostKeysModel", "refers", "(III)I"⟩, 9) := ⟨⟨by decide +kernel, by decide +kernel⟩, List.mem_of_getElem? (i := 793) (by decide +kernel), List.mem_of_getElem? (i := 956) (by decide +kernel), List.mem_of_getElem? (i := 957) (by decide +kernel)⟩
theorem lw_p35 : lw_okq (⟨"CompostKeysModel", "passes", "(I)I"⟩, 9) := ⟨⟨by decide +kernel, by decide +kernel⟩, List.mem_of_getElem? (i := 793) (by decide +kernel), List.mem_of_getElem? (i := 964) (by decide +kernel), List.mem_of_getElem? (i := 965) (by decide +kernel)⟩
theorem lw_p36 : lw_okq (⟨"CompostKeysModel", "keysIn", "(II)I"⟩, 9) := ⟨⟨by decide +kernel, by decide +kernel⟩, List.mem_of_getElem? (i := 793) (by decide +kernel), List.mem_of_getElem? (i := 968) (by decide +kernel), List.mem_of_getElem? (i := 969) (by decide +kernel)⟩
theorem lw_p37 : lw_okq (⟨"CompostKeysModel", "changes", "(II)I"⟩, 9) := ⟨⟨by decide +kernel, by decide +kernel⟩, List.mem_of_getElem? (i := 793) (by decide +kernel), List.mem_of_getElem? (i := 976) (by decide +kernel), List.mem_of_getElem? (i := 977) (by decide +kernel)⟩
theorem lw_p38 : lw_okq (⟨"CompostKeysModel", "error", "()I"⟩, 9) := ⟨⟨by decide +kernel, by decide +kernel⟩, List.mem_of_getElem? (i := 793) (by decide +kernel), List.mem_of_getElem? (i := 996) (by decide +kernel), List.mem_of_getElem? (i := 997) (by decide +kernel)⟩
theorem lw_p39 : lw_okq (⟨"CompostKeysModel", "order", "()C"⟩, 9) := ⟨⟨by decide +kernel, by decide +kernel⟩, List.mem_of_getElem? (i := 793) (by decide +kernel), List.mem_of_getElem? (i := 1000) (by decide +kernel), List.mem_of_getElem? (i := 1001) (by decide +kernel)⟩
theorem lw_p40 : lw_okq (⟨"CompostKeysModel", "takesDays", "()Z"⟩, 9) := ⟨⟨by decide +kernel, by decide +kernel⟩, List.mem_of_getElem? (i := 793) (by decide +kernel), List.mem_of_getElem? (i := 1004) (by decide +kernel), List.mem_of_getElem? (i := 1005) (by decide +kernel)⟩
theorem lw_p41 : lw_okq (⟨"CompostKeysModel", "isSign", "(CC)Z"⟩, 9) := ⟨⟨by decide +kernel, by decide +kernel⟩, List.mem_of_getElem? (i := 793) (by decide +kernel), List.mem_of_getElem? (i := 1008) (by decide +kernel), List.mem_of_getElem? (i := 1009) (by decide +kernel)⟩
theorem lw_p42 : lw_okq (⟨"CompostKeysModel", "takesKind", "()Z"⟩, 9) := ⟨⟨by decide +kernel, by decide +kernel⟩, List.mem_of_getElem? (i := 793) (by decide +kernel), List.mem_of_getElem? (i := 1012) (by decide +kernel), List.mem_of_getElem? (i := 1013) (by decide +kernel)⟩
theorem lw_p43 : lw_okq (⟨"CompostKeysModel", "takesKey", "()Z"⟩, 9) := ⟨⟨by decide +kernel, by decide +kernel⟩, List.mem_of_getElem? (i := 793) (by decide +kernel), List.mem_of_getElem? (i := 1016) (by decide +kernel), List.mem_of_getElem? (i := 1017) (by decide +kernel)⟩
theorem lw_p44 : lw_okq (⟨"CompostKeysModel", "does", "(C)Z"⟩, 9) := ⟨⟨by decide +kernel, by decide +kernel⟩, List.mem_of_getElem? (i := 793) (by decide +kernel), List.mem_of_getElem? (i := 1024) (by decide +kernel), List.mem_of_getElem? (i := 1025) (by decide +kernel)⟩
theorem lw_p45 : lw_okq (⟨"CompostKeysModel", "keys", "(III)I"⟩, 9) := ⟨⟨by decide +kernel, by decide +kernel⟩, List.mem_of_getElem? (i := 793) (by decide +kernel), List.mem_of_getElem? (i := 1044) (by decide +kernel), List.mem_of_getElem? (i := 1045) (by decide +kernel)⟩
theorem lw_p46 : lw_okq (⟨"CompostKeysModel", "kinds", "(II)I"⟩, 9) := ⟨⟨by decide +kernel, by decide +kernel⟩, List.mem_of_getElem? (i := 793) (by decide +kernel), List.mem_of_getElem? (i := 1052) (by decide +kernel), List.mem_of_getElem? (i := 1053) (by decide +kernel)⟩
theorem lw_p47 : lw_okq (⟨"CompostKeysModel", "piled", "(II)I"⟩, 9) := ⟨⟨by decide +kernel, by decide +kernel⟩, List.mem_of_getElem? (i := 793) (by decide +kernel), List.mem_of_getElem? (i := 1060) (by decide +kernel), List.mem_of_getElem? (i := 1061) (by decide +kernel)⟩
def lw_privs_3 : List (MethodName × Nat) := [(⟨"CompostKeysModel", "comesBack", "(II)I"⟩, 9), (⟨"CompostKeysModel", "turns", "(I)I"⟩, 9), (⟨"CompostKeysModel", "refers", "(III)I"⟩, 9), (⟨"CompostKeysModel", "passes", "(I)I"⟩, 9), (⟨"CompostKeysModel", "keysIn", "(II)I"⟩, 9), (⟨"CompostKeysModel", "changes", "(II)I"⟩, 9), (⟨"CompostKeysModel", "error", "()I"⟩, 9), (⟨"CompostKeysModel", "order", "()C"⟩, 9), (⟨"CompostKeysModel", "takesDays", "()Z"⟩, 9), (⟨"CompostKeysModel", "isSign", "(CC)Z"⟩, 9), (⟨"CompostKeysModel", "takesKind", "()Z"⟩, 9), (⟨"CompostKeysModel", "takesKey", "()Z"⟩, 9), (⟨"CompostKeysModel", "does", "(C)Z"⟩, 9), (⟨"CompostKeysModel", "keys", "(III)I"⟩, 9), (⟨"CompostKeysModel", "kinds", "(II)I"⟩, 9), (⟨"CompostKeysModel", "piled", "(II)I"⟩, 9)]
theorem lw_r3 : ∀ q ∈ lw_privs_3, lw_okq q := List.forall_mem_cons.mpr ⟨lw_p32, List.forall_mem_cons.mpr ⟨lw_p33, List.forall_mem_cons.mpr ⟨lw_p34, List.forall_mem_cons.mpr ⟨lw_p35, List.forall_mem_cons.mpr ⟨lw_p36, List.forall_mem_cons.mpr ⟨lw_p37, List.forall_mem_cons.mpr ⟨lw_p38, List.forall_mem_cons.mpr ⟨lw_p39, List.forall_mem_cons.mpr ⟨lw_p40, List.forall_mem_cons.mpr ⟨lw_p41, List.forall_mem_cons.mpr ⟨lw_p42, List.forall_mem_cons.mpr ⟨lw_p43, List.forall_mem_cons.mpr ⟨lw_p44, List.forall_mem_cons.mpr ⟨lw_p45, List.forall_mem_cons.mpr ⟨lw_p46, List.forall_mem_cons.mpr ⟨lw_p47, fun _ h => absurd h List.not_mem_nil⟩⟩⟩⟩⟩⟩⟩⟩⟩⟩⟩⟩⟩⟩⟩⟩
theorem lw_p48 : lw_okq (⟨"CompostKeysModel", "counted", "(I)I"⟩, 9) := ⟨⟨by decide +kernel, by decide +kernel⟩, List.mem_of_getElem? (i := 793) (by decide +kernel), List.mem_of_getElem? (i := 1068) (by decide +kernel), List.mem_of_getElem? (i := 1069) (by decide +kernel)⟩
theorem lw_p49 : lw_okq (⟨"CompostKeysModel", "sum", "(I)I"⟩, 9) := ⟨⟨by decide +kernel, by decide +kernel⟩, List.mem_of_getElem? (i := 793) (by decide +kernel), List.mem_of_getElem? (i := 1072) (by decide +kernel), List.mem_of_getElem? (i := 1073) (by decide +kernel)⟩
theorem lw_p50 : lw_okq (⟨"CompostKeysModel", "greatestRound", "()I"⟩, 9) := ⟨⟨by decide +kernel, by decide +kernel⟩, List.mem_of_getElem? (i := 793) (by decide +kernel), List.mem_of_getElem? (i := 1076) (by decide +kernel), List.mem_of_getElem? (i := 1077) (by decide +kernel)⟩
theorem lw_p51 : lw_okq (⟨"CompostKeysModel", "wouldAsk", "(I)I"⟩, 9) := ⟨⟨by decide +kernel, by decide +kernel⟩, List.mem_of_getElem? (i := 793) (by decide +kernel), List.mem_of_getElem? (i := 1088) (by decide +kernel), List.mem_of_getElem? (i := 1089) (by decide +kernel)⟩
theorem lw_p52 : lw_okq (⟨"CompostKeysModel", "soonest", "(I)I"⟩, 9) := ⟨⟨by decide +kernel, by decide +kernel⟩, List.mem_of_getElem? (i := 793) (by decide +kernel), List.mem_of_getElem? (i := 1096) (by decide +kernel), List.mem_of_getElem? (i := 1097) (by decide +kernel)⟩
theorem lw_p53 : lw_okq (⟨"CompostKeysModel", "comes", "(II)I"⟩, 9) := ⟨⟨by decide +kernel, by decide +kernel⟩, List.mem_of_getElem? (i := 793) (by decide +kernel), List.mem_of_getElem? (i := 1104) (by decide +kernel), List.mem_of_getElem? (i := 1105) (by decide +kernel)⟩
theorem lw_p54 : lw_okq (⟨"CompostKeysModel", "longestSeason", "(I)I"⟩, 9) := ⟨⟨by decide +kernel, by decide +kernel⟩, List.mem_of_getElem? (i := 793) (by decide +kernel), List.mem_of_getElem? (i := 1112) (by decide +kernel), List.mem_of_getElem? (i := 1113) (by decide +kernel)⟩
theorem lw_p55 : lw_okq (⟨"CompostKeysModel", "fewest", "()I"⟩, 9) := ⟨⟨by decide +kernel, by decide +kernel⟩, List.mem_of_getElem? (i := 793) (by decide +kernel), List.mem_of_getElem? (i := 1124) (by decide +kernel), List.mem_of_getElem? (i := 1125) (by decide +kernel)⟩
theorem lw_p56 : lw_okq (⟨"CompostKeysModel", "share", "()D"⟩, 9) := ⟨⟨by decide +kernel, by decide +kernel⟩, List.mem_of_getElem? (i := 793) (by decide +kernel), List.mem_of_getElem? (i := 1132) (by decide +kernel), List.mem_of_getElem? (i := 1133) (by decide +kernel)⟩
theorem lw_p57 : lw_okq (⟨"CompostKeysModel", "mean", "(I)F"⟩, 9) := ⟨⟨by decide +kernel, by decide +kernel⟩, List.mem_of_getElem? (i := 793) (by decide +kernel), List.mem_of_getElem? (i := 1140) (by decide +kernel), List.mem_of_getElem? (i := 1141) (by decide +kernel)⟩
def lw_privs_4 : List (MethodName × Nat) := [(⟨"CompostKeysModel", "counted", "(I)I"⟩, 9), (⟨"CompostKeysModel", "sum", "(I)I"⟩, 9), (⟨"CompostKeysModel", "greatestRound", "()I"⟩, 9), (⟨"CompostKeysModel", "wouldAsk", "(I)I"⟩, 9), (⟨"CompostKeysModel", "soonest", "(I)I"⟩, 9), (⟨"CompostKeysModel", "comes", "(II)I"⟩, 9), (⟨"CompostKeysModel", "longestSeason", "(I)I"⟩, 9), (⟨"CompostKeysModel", "fewest", "()I"⟩, 9), (⟨"CompostKeysModel", "share", "()D"⟩, 9), (⟨"CompostKeysModel", "mean", "(I)F"⟩, 9)]
theorem lw_r4 : ∀ q ∈ lw_privs_4, lw_okq q := List.forall_mem_cons.mpr ⟨lw_p48, List.forall_mem_cons.mpr ⟨lw_p49, List.forall_mem_cons.mpr ⟨lw_p50, List.forall_mem_cons.mpr ⟨lw_p51, List.forall_mem_cons.mpr ⟨lw_p52, List.forall_mem_cons.mpr ⟨lw_p53, List.forall_mem_cons.mpr ⟨lw_p54, List.forall_mem_cons.mpr ⟨lw_p55, List.forall_mem_cons.mpr ⟨lw_p56, List.forall_mem_cons.mpr ⟨lw_p57, fun _ h => absurd h List.not_mem_nil⟩⟩⟩⟩⟩⟩⟩⟩⟩⟩
def lw_privs : List (MethodName × Nat) := lw_privs_1 ++ (lw_privs_2 ++ (lw_privs_3 ++ (lw_privs_4)))
def lw_tbl : List Cond := k2_sels lw_privs ++ tables_1
theorem lw_privs_ok : ∀ q ∈ lw_privs, lw_okq q := by
  show ∀ q ∈ lw_privs_1 ++ (lw_privs_2 ++ (lw_privs_3 ++ (lw_privs_4))), lw_okq q
  exact List.forall_mem_append.mpr ⟨lw_r1, List.forall_mem_append.mpr ⟨lw_r2, List.forall_mem_append.mpr ⟨lw_r3, lw_r4⟩⟩⟩
/-- the streams that the claim lets the run draw from -/
abbrev lw_cs : List Choice := [Jvm.Choice.named "NaN.bits"]
theorem lw_bits : nanBits ∈ lw_cs := by first | decide | exact List.mem_cons_self | simp [lw_cs, nanBits]
-- ===== end of PART A; then your names; then what follows =====
end
section
/-! ===== BEGIN words of one list among another's, by their places ===== -/
theorem goodIn_r {big : List Cond} (ws : List Cond) (ps : List Nat) (hp : ws = ps.filterMap (fun i => big[i]?)) (h : ws.all goodWord = true) : GoodIn big ws := by
  intro w hw
  have h1 := List.all_eq_true.mp h w hw
  rw [hp] at hw
  obtain ⟨i, -, hi⟩ := List.mem_filterMap.mp hw
  have hm : w ∈ big := by first | exact List.mem_of_getElem? hi | exact List.getElem?_mem hi
  exact ⟨hm, good_of_word h1⟩
theorem goodIn_app {big a b : List Cond} (ha : GoodIn big a) (hb : GoodIn big b) : GoodIn big (a ++ b) := fun w h => (List.mem_append.mp h).elim (ha w) (hb w)
theorem goodIn_ca {big a b : List Cond} {c : Cond} (ha : GoodIn big (c :: a)) (hb : GoodIn big b) : GoodIn big (c :: (a ++ b)) := fun w h => (List.mem_cons.mp h).elim (fun e => ha w (List.mem_cons.mpr (Or.inl e))) (fun h => (List.mem_append.mp h).elim (fun h => ha w (List.mem_cons.mpr (Or.inr h))) (hb w))
theorem goodIn_sub {big ws : List Cond} (hm : ∀ w ∈ ws, w ∈ big) (h : ws.all goodWord = true) : GoodIn big ws := fun w hw => ⟨hm w hw, good_of_word (List.all_eq_true.mp h w hw)⟩
/-! ===== END ===== -/

/-! ===== BEGIN exceptions that leave a method, and their catching by the caller (launches without stack traces) ===== -/
section VXA
/-! The laws vx_back, vx_callV, vx_callS, vx_callSW, vx_throw0, vx_throwS follow proofs of the library, with one case more: JvmDerived/Free/Laws.lean (Back.of_free), Shelf42/LK1.lean (callV, callS), Shelf/KitTraced.lean (throwNew0V, throwNewS). -/
/-- where a method has thrown q: the class by its name, the cell, what was written, the world -/
def vx_T (XC : String → State → State → Prop) (st : State) (q : Addr) (t : State) (mc ms : Nat) (free : Addr → Prop) : Prop :=
  ∃ (E : String) (ce : Cell) (L : List Loc), XC E st t ∧ t.heap[q]? = some ce ∧ ce.vm = .none ∧ st.vm.findClass E = some ce.cls ∧ st.WarmedH t.vm ∧ st.sameButNew ({ t with vm := st.vm } : State) L mc ms ∧ ∀ z ∈ L, free z.base
def vx_Q (Qc : Array Value → State → Outcome → State → Prop) (XC : String → State → State → Prop) (mc ms : Nat) (free : Addr → Prop) : Array Value → State → Outcome → State → Prop := fun a st o t =>
  (Qc a st o t ∧ ∃ L, FrameEnd st o t L mc ms ∧ ∀ q ∈ L, free q.base) ∨ ∃ q, o = .threw q ∧ vx_T XC st q t mc ms free
/-- a callee that returns or throws -/
def vx_Met (l : Launch) (y : MethodName) (ws : List Cond) (rm : Room) (Pc : Array Value → State → Prop) (Qc : Array Value → State → Outcome → State → Prop) (XC : String → State → State → Prop) (mc ms : Nat) (free : Addr → Prop) : Prop :=
  MetFree l y (headSpec ws rm) Pc (fun _ _ _ _ _ => True) (vx_Q Qc XC mc ms free)
def vx_Post (XC : String → State → State → Prop) (mc ms : Nat) (free : Addr → Prop) : Pt → Array Value → Addr → Pt → Prop := fun A a q B =>
  ∃ (g : JFrame) (mk : MethodId) (t : State) (L : List Loc) (E : String) (ce : Cell), B.U.heap = t.heap ∧ B.U.vm = t.vm ∧ XC E (A.U.calling g mk a) t ∧ t.heap[q]? = some ce ∧ ce.vm = .none ∧ A.U.vm.findClass E = some ce.cls ∧ B.locs = A.locs ++ L ∧ (∀ z ∈ L, free z.base) ∧ B.cells = A.cells + mc ∧ B.slots = A.slots + ms
def vx_Back (l : Launch) (R : Room) (p : Program) (e : Env) (below : List Frame) (s : State) (sargs : Array Value) (y : MethodName) (len W9 : Nat)
    (Pre : Pt → Array Value → Prop) (Post : Pt → Array Value → Option Value → Pt → Prop) (PostX : Pt → Array Value → Addr → Pt → Prop) : Prop :=
  ∀ (m : MethodId) (meth : Method) (c : Code) (A : Pt) (g : JFrame) (ig : Instr) (mk : MethodId) (a : Array Value),
    Stand p l e R s m sargs below meth c A.U A.locs A.cells A.slots → g.method = m → g.locals.size = c.maxLocals → decode c.code g.pc = .ok (ig, len) →
    2 * g.monitorRoom + (g.stack.map fun v => v.category).sum ≤ W9 → A.U.methodNamed? y = some mk → Pre A a →
    (∃ (v : Option Value) (B : Pt), Stand p l e R s m sargs below meth c B.U B.locs B.cells B.slots ∧ Post A a v B ∧
      Steps p.tables e below (doInvoke e (A.U.setTop g) [] mk a).1 (B.U.setTop { g with pc := g.pc + len, stack := v.toList ++ g.stack })) ∨
    (∃ (q : Addr) (B : Pt), Stand p l e R s m sargs below meth c B.U B.locs B.cells B.slots ∧ PostX A a q B ∧
      Steps p.tables e below (doInvoke e (A.U.setTop g) [] mk a).1 ((B.U.setTop g).pushFrame (.throwing q)))
section Payer
variable {l : Launch} {R : Room} {p : Program} {e : Env} {below : List Frame} {s : State} {sargs : Array Value} {y : MethodName} {len W9 : Nat}
theorem vx_back {ws : List Cond} {rm : Room} {Pc : Array Value → State → Prop} {Qc : Array Value → State → Outcome → State → Prop} {XC : String → State → State → Prop} {mc ms : Nat} {free : Addr → Prop} {bytes : ByteArray} {maxL : Nat} {ret : Option FieldType}
    (hM : vx_Met l y ws rm Pc Qc XC mc ms free) (hblind : FrameBlind Pc) (hrc : rm.cells = mc) (hrs : rm.slots = ms)
    (hframes : rm.frames + 1 ≤ R.frames) (hlocals : W9 + (maxL + 11) + rm.locals ≤ R.locals)
    (hws : ∀ w ∈ ws, ∀ a' U, s.WarmedH U.vm → w.before a' U = true) (hcode : Cond.code y bytes maxL ret ∈ ws) (hinit : ∀ a' U, s.WarmedH U.vm → (Cond.initialized y.cls).before a' U = true) :
    vx_Back l R p e below s sargs y len W9 (PreOf R mc ms Pc) (PostOf Qc mc ms free) (vx_Post XC mc ms free) := by
  intro m meth c A g ig mk a X hg hsize hdg hW hn hp
  have h1 : (headSpec ws rm).pre.before a A.U = true := atoms_intro fun w hw => hws w hw _ _ X.warmed
  have h2 : (Cond.code y bytes maxL ret).before a A.U = true := hws _ hcode _ _ X.warmed
  have h3 : (Cond.initialized y.cls).before a A.U = true := hinit _ _ X.warmed
  have h4 : A.cells + (headSpec ws rm).room.cells ≤ R.cells := by rw [show (headSpec ws rm).room.cells = mc from hrc]; exact hp.1
  have h5 : A.slots + (headSpec ws rm).room.slots ≤ R.slots := by rw [show (headSpec ws rm).room.slots = ms from hrs]; exact hp.2.1
  have hPc : Pc a (A.U.calling g mk a) := hblind _ _ _ _ hp.2.2
  obtain ⟨U, Ls, c0, s0⟩ := A
  dsimp only [Pt.U, Pt.locs, Pt.cells, Pt.slots] at h1 h2 h3 h4 h5 X hn hPc ⊢
  obtain ⟨methY, cY, hmY, hcY, -, hlY, -, -, -, -⟩ := Cond.code_spec hn h2
  obtain ⟨kY, hkY, -⟩ := className_of_methodNamed hn
  have hinitY : kY.init = .initialized := Cond.initialized_spec (findClass_of_methodNamed hn) hkY h3
  have h : At U g.method c below := by rw [hg]; exact X.here
  have hlocals9 : W9 + (maxL + 11) + (headSpec ws rm).room.locals ≤ R.locals := hlocals
  have happ : (headSpec ws rm).appliesLoose y e.platform (U.calling g mk a) = true :=
    Spec.appliesLoose_calling (g := g) h hdg hn hkY hinitY
      (X.room_calling (g := g) (R' := (headSpec ws rm).room) hsize hmY hcY hframes (by rw [hlY]; omega) h4 h5) h1
  obtain ⟨mid, hmid⟩ := h.above
  have hfr : (U.setTop g).frames = (.java g :: mid) ++ below := by rw [State.frames_setTop' g h.top, hmid]; rfl
  obtain ⟨o, s₂, hsteps, -, hend, hq⟩ := Steps.callFree hM p X.admits X.cas X.clock (acts := []) hfr happ hPc trivial
  have hq' : vx_Q Qc XC mc ms free a (U.calling g mk a) o s₂ := hq
  rw [State.frames_setTop' g h.top] at hend
  obtain ⟨g₀, hg0⟩ := Option.isSome_iff_exists.mp h.top
  obtain ⟨r, hr⟩ := State.topJava?_eq_some.mp hg0
  have hr' : (({ U with heap := s₂.heap, slotsUsed := s₂.slotsUsed } : State).setVm s₂.vm).frames = .java g₀ :: r := hr
  rcases hq' with ⟨hqc, L, hfe, hL⟩ | ⟨q, rfl, E, ce, L, hx, hce, hcv, hcl, hW₂, hsm, hL⟩
  · obtain ⟨⟨v, rfl⟩, hW₂, e2, q2, q3, q4, q5, q6⟩ := id hfe
    have e3 : s₂ = ({ (U.calling g mk a).setFrames s₂.frames with heap := s₂.heap, slotsUsed := s₂.slotsUsed } : State).setVm s₂.vm := by
      have : s₂ = ({ s₂ with vm := (U.calling g mk a).vm } : State).setVm s₂.vm := rfl
      rw [e2] at this
      exact this
    obtain ⟨c₂, i₂, len₂, hc₂, hd₂, hf₂⟩ := hend
    have hW' : U.WarmedH s₂.vm := hW₂
    have hcc : c₂ = c := by
      have h1 : s₂.code? g.method = U.code? g.method := by
        rw [State.code?_eq, State.code?_eq, hW'.alike.method?]
      exact Option.some.inj (hc₂.symm.trans (h1.trans h.code))
    subst hcc
    have hlen : len₂ = len := by rw [hdg] at hd₂; cases hd₂; rfl
    subst hlen
    have hs₂ : s₂ = (({ U with heap := s₂.heap, slotsUsed := s₂.slotsUsed } : State).setVm s₂.vm).setTop { g with pc := g.pc + len₂, stack := v.toList ++ g.stack } := by
      refine e3.trans ?_
      rw [hf₂, State.calling_eq h.top, State.setFrames_setFrames, State.setTop_of_frames _ hr', hr]
      rfl
    have hsame : U.sameButNew ({ U with heap := s₂.heap, slotsUsed := s₂.slotsUsed } : State) L mc ms := by
      refine ⟨?_, q2, q3, q4, q5, q6⟩
      obtain ⟨t, ht, -⟩ := State.frames_cons hr
      show ({ U with heap := s₂.heap, slotsUsed := s₂.slotsUsed } : State) = { U.setFrames U.frames with heap := s₂.heap, slotsUsed := s₂.slotsUsed }
      rw [State.setFrames_self ht]
    subst hg
    refine Or.inl ⟨v, ⟨(({ U with heap := s₂.heap, slotsUsed := s₂.slotsUsed } : State).setVm s₂.vm), Ls ++ L, c0 + mc, s0 + ms⟩,
      ⟨X.admits, X.cas, X.clock, X.frames, X.room, X.hears, X.method, X.code, (X.here.setHeapUsed s₂.heap s₂.slotsUsed).setVm hW'.alike, X.tail, State.WarmedH.trans X.warmed hW', X.limits, X.bytes, X.same.trans (hsame.setVm s.vm)⟩,
      ⟨g, mk, s₂, L, rfl, rfl, hqc, rfl, hL, rfl, rfl⟩, ?_⟩
    show Steps p.tables e below _ ((({ U with heap := s₂.heap, slotsUsed := s₂.slotsUsed } : State).setVm s₂.vm).setTop { g with pc := g.pc + len₂, stack := v.toList ++ g.stack })
    rw [← hs₂]
    exact hsteps
  · obtain ⟨e2, q2, q3, q4, q5, q6⟩ := id hsm
    have e3 : s₂ = ({ (U.calling g mk a).setFrames s₂.frames with heap := s₂.heap, slotsUsed := s₂.slotsUsed } : State).setVm s₂.vm := by
      have : s₂ = ({ s₂ with vm := (U.calling g mk a).vm } : State).setVm s₂.vm := rfl
      rw [e2] at this
      exact this
    have hf₂ : s₂.frames = .throwing q :: .java g :: U.frames.tail := hend
    have hW' : U.WarmedH s₂.vm := hW₂
    have hs₂ : s₂ = ((({ U with heap := s₂.heap, slotsUsed := s₂.slotsUsed } : State).setVm s₂.vm).setTop g).pushFrame (.throwing q) := by
      refine e3.trans ?_
      rw [hf₂, State.calling_eq h.top, State.setFrames_setFrames, State.pushFrame, State.frames_setTop _ hr', State.setTop_of_frames _ hr', State.setFrames_setFrames, hr]
      rfl
    have hsame : U.sameButNew ({ U with heap := s₂.heap, slotsUsed := s₂.slotsUsed } : State) L mc ms := by
      refine ⟨?_, q2, q3, q4, q5, q6⟩
      obtain ⟨t, ht, -⟩ := State.frames_cons hr
      show ({ U with heap := s₂.heap, slotsUsed := s₂.slotsUsed } : State) = { U.setFrames U.frames with heap := s₂.heap, slotsUsed := s₂.slotsUsed }
      rw [State.setFrames_self ht]
    subst hg
    refine Or.inr ⟨q, ⟨(({ U with heap := s₂.heap, slotsUsed := s₂.slotsUsed } : State).setVm s₂.vm), Ls ++ L, c0 + mc, s0 + ms⟩,
      ⟨X.admits, X.cas, X.clock, X.frames, X.room, X.hears, X.method, X.code, (X.here.setHeapUsed s₂.heap s₂.slotsUsed).setVm hW'.alike, X.tail, State.WarmedH.trans X.warmed hW', X.limits, X.bytes, X.same.trans (hsame.setVm s.vm)⟩,
      ⟨g, mk, s₂, L, E, ce, rfl, rfl, hx, hce, hcv, hcl, rfl, hL, rfl, rfl⟩, ?_⟩
    show Steps p.tables e below _ (((({ U with heap := s₂.heap, slotsUsed := s₂.slotsUsed } : State).setVm s₂.vm).setTop g).pushFrame (.throwing q))
    rw [← hs₂]
    exact hsteps
end Payer
section Calls
variable {p : Program} {l : Launch} {e : Env} {R : Room} {s : State} {m : MethodId} {args : Array Value} {below : List Frame} {meth : Method} {c : Code} {T : State} {locs : List Loc} {cells slots : Nat}
theorem vx_callV (X : Stand p l e R s m args below meth c T locs cells slots) (hexec : p.tables.exec = Jvm.exec) {own C : String} {index : Nat} {y : MethodName} {bytes : ByteArray} {maxL : Nat} {ret : Option FieldType}
    (hown : s.vm.findClass own = some m.cls) (hlink : (Cond.methodLink own index y).before args s = true) (hinst : (Cond.instanceMethod y).before args s = true) (hsel : (Cond.selects C y y).before args s = true)
    (hcode : (Cond.code y bytes maxL ret).before args s = true) (hy : y.cls ≠ "java/lang/invoke/MethodHandle" ∧ y.cls ≠ "java/lang/invoke/VarHandle")
    {W9 : Nat} {Pre : Pt → Array Value → Prop} {Post : Pt → Array Value → Option Value → Pt → Prop} {PostX : Pt → Array Value → Addr → Pt → Prop} (hK : vx_Back l R p e below s args y 3 W9 Pre Post PostX)
    {b : Addr} {cellB : Cell} (hcell : T.heap[b]? = some cellB) (hobj : cellB.vm.isStatics = false) (hcls : s.vm.findClass C = some cellB.cls)
    {g : JFrame} (hg : g.method = m) (hsize : g.locals.size = c.maxLocals) {argsL rest : List Value} (hlen : ∀ sig, parseMethodDescriptor y.desc = some sig → argsL.length = sig.parameters.length)
    (hstack : g.stack = argsL.reverse ++ .ref b :: rest) (hW : 2 * g.monitorRoom + (rest.map fun v => v.category).sum ≤ W9) (hdg : decode c.code g.pc = .ok (.invokevirtual index, 3))
    (hpre : ∀ vm₁, s.WarmedH vm₁ → Pre ⟨T.setVm vm₁, locs, cells, slots⟩ (Value.ref b :: argsL).toArray) :
    (∃ (v : Option Value) (vm₁ : Vm) (B : Pt), s.WarmedH vm₁ ∧ Stand p l e R s m args below meth c B.U B.locs B.cells B.slots ∧ Post ⟨T.setVm vm₁, locs, cells, slots⟩ (Value.ref b :: argsL).toArray v B ∧
      ∀ target, Steps p.tables e below (B.U.setTop { g with pc := g.pc + 3, stack := v.toList ++ rest }) target → Steps p.tables e below (T.setTop g) target) ∨
    (∃ (q : Addr) (vm₁ : Vm) (B : Pt), s.WarmedH vm₁ ∧ Stand p l e R s m args below meth c B.U B.locs B.cells B.slots ∧ PostX ⟨T.setVm vm₁, locs, cells, slots⟩ (Value.ref b :: argsL).toArray q B ∧
      Steps p.tables e below (T.setTop g) ((B.U.setTop { g with stack := rest }).pushFrame (.throwing q))) := by
  obtain ⟨mk, methM, hnamed, hmethM, hstM, habM⟩ := Cond.instanceMethod_spec hinst
  obtain ⟨methM', cM, hmethM', -, -, -, -, -, -, hsigM⟩ := Cond.code_spec hnamed hcode
  cases hmethM.symm.trans hmethM'
  obtain ⟨c2, r2, m2, q1, q2, q3, q4, kP, hkP, hkPi⟩ := Cond.selects_spec hsel
  cases hcls.symm.trans q1
  cases (State.methodFound?_of_named hnamed hy).symm.trans q2
  cases hnamed.symm.trans q3
  have hselP : selectMethod e.platform s.vm cellB.cls mk = .method mk := by rw [Launch.admits_selectMethod X.admits]; exact q4
  obtain ⟨vm₁, X₁, hstep₁⟩ := X.invokevirtual hexec hown hlink hnamed hmethM hstM hkP hkPi hy (a := b) (cell := cellB) hcell
    (fun z h => by rw [h] at hobj; cases hobj) hselP hmethM habM hkP hkPi (g := g) hg (argsL := argsL) (rest := rest) (hlen _ hsigM) hstack hdg
  rcases hK m meth c ⟨T.setVm vm₁, locs, cells, slots⟩ { g with stack := rest } (.invokevirtual index) mk (Value.ref b :: argsL).toArray X₁ hg hsize hdg hW (X₁.named hnamed) (hpre vm₁ X₁.warmed) with ⟨v, B, X', hpost, hsteps⟩ | ⟨q, B, X', hpost, hsteps⟩
  · exact Or.inl ⟨v, vm₁, B, X₁.warmed, X', hpost, fun target h => hstep₁ _ fun acts => by rw [doInvoke_state]; exact hsteps.trans h⟩
  · exact Or.inr ⟨q, vm₁, B, X₁.warmed, X', hpost, hstep₁ _ fun acts => by rw [doInvoke_state]; exact hsteps⟩
theorem vx_callS (X : Stand p l e R s m args below meth c T locs cells slots) (hexec : p.tables.exec = Jvm.exec) {own : String} {index : Nat} {y : MethodName} {bytes : ByteArray} {maxL : Nat} {ret : Option FieldType}
    (hown : s.vm.findClass own = some m.cls) (hlink : (Cond.methodLink own index y).before args s = true) (hstat : (Cond.static y).before args s = true) (hinit : (Cond.initialized y.cls).before args s = true)
    (hcode : (Cond.code y bytes maxL ret).before args s = true) (hy : y.cls ≠ "java/lang/invoke/MethodHandle" ∧ y.cls ≠ "java/lang/invoke/VarHandle")
    {W9 : Nat} {Pre : Pt → Array Value → Prop} {Post : Pt → Array Value → Option Value → Pt → Prop} {PostX : Pt → Array Value → Addr → Pt → Prop} (hK : vx_Back l R p e below s args y 3 W9 Pre Post PostX)
    {g : JFrame} (hg : g.method = m) (hsize : g.locals.size = c.maxLocals) {argsL rest : List Value} (hlen : ∀ sig, parseMethodDescriptor y.desc = some sig → argsL.length = sig.parameters.length)
    (hstack : g.stack = argsL.reverse ++ rest) (hW : 2 * g.monitorRoom + (rest.map fun v => v.category).sum ≤ W9) (hdg : decode c.code g.pc = .ok (.invokestatic index, 3))
    (hpre : ∀ vm₁, s.WarmedH vm₁ → Pre ⟨T.setVm vm₁, locs, cells, slots⟩ argsL.toArray) :
    (∃ (v : Option Value) (vm₁ : Vm) (B : Pt), s.WarmedH vm₁ ∧ Stand p l e R s m args below meth c B.U B.locs B.cells B.slots ∧ Post ⟨T.setVm vm₁, locs, cells, slots⟩ argsL.toArray v B ∧
      ∀ target, Steps p.tables e below (B.U.setTop { g with pc := g.pc + 3, stack := v.toList ++ rest }) target → Steps p.tables e below (T.setTop g) target) ∨
    (∃ (q : Addr) (vm₁ : Vm) (B : Pt), s.WarmedH vm₁ ∧ Stand p l e R s m args below meth c B.U B.locs B.cells B.slots ∧ PostX ⟨T.setVm vm₁, locs, cells, slots⟩ argsL.toArray q B ∧
      Steps p.tables e below (T.setTop g) ((B.U.setTop { g with stack := rest }).pushFrame (.throwing q))) := by
  obtain ⟨mk, hnamed⟩ := Cond.code_named hcode
  obtain ⟨methM, cM, hmethM, -, -, -, -, -, -, hsigM⟩ := Cond.code_spec hnamed hcode
  have hstatic : methM.isStatic = true := Cond.static_spec hnamed hmethM hstat
  obtain ⟨kP, hkP, -⟩ := className_of_methodNamed hnamed
  have hinitP : kP.init = .initialized := Cond.initialized_spec (findClass_of_methodNamed hnamed) hkP hinit
  obtain ⟨vm₁, X₁, hstep₁⟩ := X.invokestatic hexec hown hlink hnamed hmethM hstatic hkP hinitP hy (g := g) hg (argsL := argsL) (rest := rest) (hlen _ hsigM) hstack hdg
  rcases hK m meth c ⟨T.setVm vm₁, locs, cells, slots⟩ { g with stack := rest } (.invokestatic index) mk argsL.toArray X₁ hg hsize hdg hW (X₁.named hnamed) (hpre vm₁ X₁.warmed) with ⟨v, B, X', hpost, hsteps⟩ | ⟨q, B, X', hpost, hsteps⟩
  · exact Or.inl ⟨v, vm₁, B, X₁.warmed, X', hpost, fun target h => hstep₁ _ fun acts => by rw [doInvoke_state]; exact hsteps.trans h⟩
  · exact Or.inr ⟨q, vm₁, B, X₁.warmed, X', hpost, hstep₁ _ fun acts => by rw [doInvoke_state]; exact hsteps⟩
end Calls
theorem vx_cls {s : State} {T : State} {vm₁ : Vm} {E : String} {k : ClassId} (hW : s.WarmedH vm₁) (h : (T.setVm vm₁).vm.findClass E = some k) : s.vm.findClass E = some k := by
  have h1 : vm₁.findClass E = some k := h
  rw [hW.alike.findClass] at h1
  exact h1
/-- the method's frame g, with q thrown over it -/
def vx_W (p : Program) (l : Launch) (e : Env) (R : Room) (s : State) (m : MethodId) (args : Array Value) (below : List Frame) (meth : Method) (c : Code) (H : Heap) (locs : List Loc) (cells slots : Nat) (Q : State → Prop) (g : JFrame) (q : Addr) : Prop :=
  ∀ T : State, T.heap = H → Stand p l e R s m args below meth c T locs cells slots → ∃ t, Steps p.tables e below ((T.setTop g).pushFrame (.throwing q)) t ∧ Q t
def vx_Run (p : Program) (l : Launch) (e : Env) (R : Room) (s : State) (m : MethodId) (args : Array Value) (below : List Frame) (meth : Method) (c : Code) (H : Heap) (locs : List Loc) (cells slots mc ms : Nat) (g : JFrame) (rest : List Value) (Qa : State → Outcome → State → Prop) (XC : String → State → State → Prop) (free : Addr → Prop) : Prop :=
  ∀ T : State, T.heap = H → Stand p l e R s m args below meth c T locs cells slots →
    (∃ (v : Option Value) (st₀ t T' : State) (L : List Loc), st₀.heap = H ∧ Stand p l e R s m args below meth c T' (locs ++ L) (cells + mc) (slots + ms) ∧ (∀ q ∈ L, free q.base) ∧ T'.heap = t.heap ∧ T'.vm = t.vm ∧ Qa st₀ (.returned v) t ∧
      Goes p e below T g T' { g with pc := g.pc + 3, stack := v.toList ++ rest }) ∨
    (∃ (q : Addr) (st₀ t T' : State) (L : List Loc) (E : String) (ce : Cell), st₀.heap = H ∧ Stand p l e R s m args below meth c T' (locs ++ L) (cells + mc) (slots + ms) ∧ (∀ z ∈ L, free z.base) ∧ T'.heap = t.heap ∧ T'.vm = t.vm ∧ XC E st₀ t ∧ t.heap[q]? = some ce ∧ ce.vm = .none ∧ s.vm.findClass E = some ce.cls ∧
      Steps p.tables e below (T.setTop g) ((T'.setTop { g with stack := rest }).pushFrame (.throwing q)))
def vx_X {S : Type} (px : S → Prop) (B : String → S → State → Prop) (A : Nat → Prop) : String → State → State → Prop := fun E st t => ∃ u : S, px u ∧ B E u t ∧ va_F A st t
section Runs
variable {p : Program} {l : Launch} {e : Env} {R : Room} {s : State} {m : MethodId} {args : Array Value} {below : List Frame} {meth : Method} {c : Code} {H : Heap} {locs : List Loc} {cells slots : Nat}
variable {y : MethodName} {bytes cc : ByteArray} {maxL nL mc ms n index : Nat} {ret : Option FieldType} {ws : List Cond} {rm : Room} {Pc : Array Value → State → Prop} {Qc : Array Value → State → Outcome → State → Prop} {XC : String → State → State → Prop} {free : Addr → Prop} {Ts : List Cond} {own C : String} {b : Addr} {As rest : List Value} {g : JFrame}
theorem vx_callBack (cb : CallB R s args own index y bytes maxL ret ws rm mc ms n) (hM : vx_Met l y ws rm Pc Qc XC mc ms free) (hbl : FrameBlind Pc) : vx_Back l R p e below s args y 3 8 (PreOf R mc ms Pc) (PostOf Qc mc ms free) (vx_Post XC mc ms free) := by
  obtain ⟨hrc, hrs, hfr, hlo, hws, hcw, -, hini, -⟩ := cb
  exact vx_back (bytes := bytes) (maxL := maxL) (ret := ret) hM hbl hrc hrs hfr hlo hws hcw (fun a' U hW => word_at hW (Or.inl (by first | rfl | simp [Cond.onTables, Cond.keeps, Cond.steady])) hini)
theorem vx_runV (S : CallFix p m c cc nL s args Ts own) (hM : vx_Met l y ws rm Pc Qc XC mc ms free) (cw : CallW R s args own C index y bytes maxL ret ws rm mc ms n) (hp : PreV s H C b Pc As)
    (hg : g.method = m) (hn : As.length = n) (hsize : g.locals.size = nL) (hstack : g.stack = As.reverse ++ .ref b :: rest) (hW : 2 * g.monitorRoom + (rest.map fun v => v.category).sum ≤ 8) (hdg : decode cc g.pc = .ok (.invokevirtual index, 3)) (hf : cells + mc ≤ R.cells ∧ slots + ms ≤ R.slots) :
    vx_Run p l e R s m args below meth c H locs cells slots mc ms g rest (Qc (Value.ref b :: As).toArray) XC free := by
  have hK : vx_Back l R p e below s args y 3 8 (PreOf R mc ms Pc) (PostOf Qc mc ms free) (vx_Post XC mc ms free) := vx_callBack cw.1 hM hp.1
  obtain ⟨⟨-, -, -, -, -, -, hcode, -, hy, hlen, hl⟩, hin, hse⟩ := cw
  obtain ⟨hx, hb, hml, ho, -⟩ := S
  obtain ⟨-, ⟨cellB, hcB, hoB, hclB⟩, hPc⟩ := hp
  intro T hT X
  rcases vx_callV X hx (C := C) (bytes := bytes) (maxL := maxL) (ret := ret) ho hl hin hse hcode hy hK (by rw [hT]; exact hcB) hoB hclB hg (hsize.trans hml.symm) (argsL := As) (rest := rest) (fun sig h => hn.trans (hlen sig h)) hstack hW (by rw [hb]; exact hdg)
    (fun vm₁ hW₁ => ⟨hf.1, hf.2, hPc (T.setVm vm₁) hT hW₁⟩) with ⟨v, vm₁, ⟨U', l2, c2, s2⟩, hW₁, X', ⟨g', mk, t, L, e1, e2, hq, h1, hL, h2, h3⟩, st⟩ | ⟨q, vm₁, ⟨U', l2, c2, s2⟩, hW₁, X', ⟨g', mk, t, L, E, ce, e1, e2, hq, hce, hcv, hcl, h1, hL, h2, h3⟩, st⟩
  · dsimp only [Pt.U, Pt.locs, Pt.cells, Pt.slots] at X' e1 e2 h1 h2 h3 st
    subst h1; subst h2; subst h3
    exact Or.inl ⟨v, (T.setVm vm₁).calling g' mk (Value.ref b :: As).toArray, t, U', L, hT, X', hL, e1, e2, hq, st⟩
  · dsimp only [Pt.U, Pt.locs, Pt.cells, Pt.slots] at X' e1 e2 h1 h2 h3 st hcl
    subst h1; subst h2; subst h3
    exact Or.inr ⟨q, (T.setVm vm₁).calling g' mk (Value.ref b :: As).toArray, t, U', L, E, ce, hT, X', hL, e1, e2, hq, hce, hcv, vx_cls hW₁ hcl, st⟩
theorem vx_runS (S : CallFix p m c cc nL s args Ts own) (hM : vx_Met l y ws rm Pc Qc XC mc ms free) (cw : CallB R s args own index y bytes maxL ret ws rm mc ms n ∧ (Cond.static y).before args s = true) (hp : PreS s H Pc As)
    (hg : g.method = m) (hn : As.length = n) (hsize : g.locals.size = nL) (hstack : g.stack = As.reverse ++ rest) (hW : 2 * g.monitorRoom + (rest.map fun v => v.category).sum ≤ 8) (hdg : decode cc g.pc = .ok (.invokestatic index, 3)) (hf : cells + mc ≤ R.cells ∧ slots + ms ≤ R.slots) :
    vx_Run p l e R s m args below meth c H locs cells slots mc ms g rest (Qc As.toArray) XC free := by
  have hK : vx_Back l R p e below s args y 3 8 (PreOf R mc ms Pc) (PostOf Qc mc ms free) (vx_Post XC mc ms free) := vx_callBack cw.1 hM hp.1
  obtain ⟨⟨-, -, -, -, -, -, hcode, hini, hy, hlen, hl⟩, hstt⟩ := cw
  obtain ⟨hx, hb, hml, ho, -⟩ := S
  intro T hT X
  rcases vx_callS X hx (bytes := bytes) (maxL := maxL) (ret := ret) ho hl hstt hini hcode hy hK hg (hsize.trans hml.symm) (argsL := As) (rest := rest) (fun sig h => hn.trans (hlen sig h)) hstack hW (by rw [hb]; exact hdg)
    (fun vm₁ hW₁ => ⟨hf.1, hf.2, hp.2 (T.setVm vm₁) hT hW₁⟩) with ⟨v, vm₁, ⟨U', l2, c2, s2⟩, hW₁, X', ⟨g', mk, t, L, e1, e2, hq, h1, hL, h2, h3⟩, st⟩ | ⟨q, vm₁, ⟨U', l2, c2, s2⟩, hW₁, X', ⟨g', mk, t, L, E, ce, e1, e2, hq, hce, hcv, hcl, h1, hL, h2, h3⟩, st⟩
  · dsimp only [Pt.U, Pt.locs, Pt.cells, Pt.slots] at X' e1 e2 h1 h2 h3 st
    subst h1; subst h2; subst h3
    exact Or.inl ⟨v, (T.setVm vm₁).calling g' mk As.toArray, t, U', L, hT, X', hL, e1, e2, hq, st⟩
  · dsimp only [Pt.U, Pt.locs, Pt.cells, Pt.slots] at X' e1 e2 h1 h2 h3 st hcl
    subst h1; subst h2; subst h3
    exact Or.inr ⟨q, (T.setVm vm₁).calling g' mk As.toArray, t, U', L, E, ce, hT, X', hL, e1, e2, hq, hce, hcv, vx_cls hW₁ hcl, st⟩
end Runs
section Rows
variable {p : Program} {l : Launch} {e : Env} {R : Room} {s : State} {m : MethodId} {args : Array Value} {below : List Frame} {meth : Method} {c : Code} {H : Heap} {locs : List Loc} {cells slots : Nat} {Q : State → Prop}
variable {mc ms : Nat} {free : Addr → Prop} {A0 A1 : Nat → Prop} {H0 : Heap} {a : Array Value} {pc : Nat} {ls : Array Slot} {st0 rest : List Value}
theorem vx_keep {st₀ t T' : State} {L : List Loc} (h0 : st₀.heap = H) (e1 : T'.heap = t.heap) (hS : va_S A0 H0 H locs) (hA : ∀ q, q < H.size → A1 q → A0 q) (hf : ∀ q, free q → A0 q) (hL : ∀ q ∈ L, free q.base) (hF : va_F A1 st₀ t) :
    H.size ≤ T'.heap.size ∧ (∀ q : Nat, q < H.size → ¬ A1 q → T'.heap[q]? = H[q]?) ∧ va_S A0 H0 T'.heap (locs ++ L) := by
  obtain ⟨hz, hk⟩ := hF
  rw [h0] at hz hk
  exact ⟨by rw [e1]; exact hz, fun q h1 h2 => by rw [e1]; exact hk q h1 h2,
    ⟨Nat.le_trans hS.1 (by rw [e1]; exact hz), fun q h1 h2 => by rw [e1, hk q (Nat.lt_of_lt_of_le h1 hS.1) (fun z => h2 (hA q (Nat.lt_of_lt_of_le h1 hS.1) z))]; exact hS.2.1 q h1 h2, fun q hq => by
      rcases List.mem_append.mp hq with h | h
      · exact hS.2.2 q h
      · exact hf _ (hL q h)⟩⟩
theorem vx_calli {S SX : Type} {post : Int32 → S → Prop} {px : SX → Prop} {B : S → State → Prop} {BX : String → SX → State → Prop} {AX : Nat → Prop} (hr : vx_Run p l e R s m args below meth c H locs cells slots mc ms (F0 m pc ls st0) rest (va_Qi post B A1 a) (vx_X px BX AX) free) (hS : va_S A0 H0 H locs) (hA : ∀ q, q < H.size → A1 q → A0 q) (hf : ∀ q, free q → A0 q) (hAX : ∀ q, q < H.size → AX q → A0 q)
    (kx : ∀ (E : String) (ce : Cell) (q9 : Addr) (u : SX) (t : State) (H1 : Heap) (locs1 : List Loc), t.heap = H1 → s.vm.Alike t.vm → px u → BX E u t → H.size ≤ H1.size → (∀ q : Nat, q < H.size → ¬ AX q → H1[q]? = H[q]?) → va_S A0 H0 H1 locs1 → H1[q9]? = some ce → ce.vm = .none → s.vm.findClass E = some ce.cls → vx_W p l e R s m args below meth c H1 locs1 (cells + mc) (slots + ms) Q (F0 m pc ls rest) q9)
    (kk : ∀ (r : Int32) (u : S) (t : State) (H1 : Heap) (locs1 : List Loc), t.heap = H1 → s.vm.Alike t.vm → post r u → B u t → H.size ≤ H1.size → (∀ q : Nat, q < H.size → ¬ A1 q → H1[q]? = H[q]?) → va_S A0 H0 H1 locs1 → W p l e R s m args below meth c H1 locs1 (cells + mc) (slots + ms) Q (F0 m (pc + 3) ls (.int r :: rest))) : W p l e R s m args below meth c H locs cells slots Q (F0 m pc ls st0) := by
  intro T hT X
  rcases hr T hT X with ⟨v, st₀, t, T', L, h0, X', hL, e1, e2, ⟨⟨r, u, hv, hp, hb⟩, hF⟩, st⟩ | ⟨q, st₀, t, T', L, E, ce, h0, X', hL, e1, e2, ⟨u, hp, hb, hF⟩, hce, hcv, hcl, st⟩
  · cases hv
    obtain ⟨k1, k2, k3⟩ := vx_keep h0 e1 hS hA hf hL hF
    obtain ⟨t2, a1, b1⟩ := kk r u t T'.heap (locs ++ L) e1.symm (by rw [← e2]; exact X'.warmed.alike) hp hb k1 k2 k3 T' rfl X'
    exact ⟨t2, st t2 a1, b1⟩
  · obtain ⟨k1, k2, k3⟩ := vx_keep h0 e1 hS hAX hf hL hF
    obtain ⟨t2, a1, b1⟩ := kx E ce q u t T'.heap (locs ++ L) e1.symm (by rw [← e2]; exact X'.warmed.alike) hp hb k1 k2 k3 (by rw [e1]; exact hce) hcv hcl T' rfl X'
    exact ⟨t2, st.trans a1, b1⟩
theorem vx_calll {S SX : Type} {post : Int64 → S → Prop} {px : SX → Prop} {B : S → State → Prop} {BX : String → SX → State → Prop} {AX : Nat → Prop} (hr : vx_Run p l e R s m args below meth c H locs cells slots mc ms (F0 m pc ls st0) rest (va_Ql post B A1 a) (vx_X px BX AX) free) (hS : va_S A0 H0 H locs) (hA : ∀ q, q < H.size → A1 q → A0 q) (hf : ∀ q, free q → A0 q) (hAX : ∀ q, q < H.size → AX q → A0 q)
    (kx : ∀ (E : String) (ce : Cell) (q9 : Addr) (u : SX) (t : State) (H1 : Heap) (locs1 : List Loc), t.heap = H1 → s.vm.Alike t.vm → px u → BX E u t → H.size ≤ H1.size → (∀ q : Nat, q < H.size → ¬ AX q → H1[q]? = H[q]?) → va_S A0 H0 H1 locs1 → H1[q9]? = some ce → ce.vm = .none → s.vm.findClass E = some ce.cls → vx_W p l e R s m args below meth c H1 locs1 (cells + mc) (slots + ms) Q (F0 m pc ls rest) q9)
    (kk : ∀ (r : Int64) (u : S) (t : State) (H1 : Heap) (locs1 : List Loc), t.heap = H1 → s.vm.Alike t.vm → post r u → B u t → H.size ≤ H1.size → (∀ q : Nat, q < H.size → ¬ A1 q → H1[q]? = H[q]?) → va_S A0 H0 H1 locs1 → W p l e R s m args below meth c H1 locs1 (cells + mc) (slots + ms) Q (F0 m (pc + 3) ls (.long r :: rest))) : W p l e R s m args below meth c H locs cells slots Q (F0 m pc ls st0) := by
  intro T hT X
  rcases hr T hT X with ⟨v, st₀, t, T', L, h0, X', hL, e1, e2, ⟨⟨r, u, hv, hp, hb⟩, hF⟩, st⟩ | ⟨q, st₀, t, T', L, E, ce, h0, X', hL, e1, e2, ⟨u, hp, hb, hF⟩, hce, hcv, hcl, st⟩
  · cases hv
    obtain ⟨k1, k2, k3⟩ := vx_keep h0 e1 hS hA hf hL hF
    obtain ⟨t2, a1, b1⟩ := kk r u t T'.heap (locs ++ L) e1.symm (by rw [← e2]; exact X'.warmed.alike) hp hb k1 k2 k3 T' rfl X'
    exact ⟨t2, st t2 a1, b1⟩
  · obtain ⟨k1, k2, k3⟩ := vx_keep h0 e1 hS hAX hf hL hF
    obtain ⟨t2, a1, b1⟩ := kx E ce q u t T'.heap (locs ++ L) e1.symm (by rw [← e2]; exact X'.warmed.alike) hp hb k1 k2 k3 (by rw [e1]; exact hce) hcv hcl T' rfl X'
    exact ⟨t2, st.trans a1, b1⟩
theorem vx_callf {S SX : Type} {post : UInt32 → S → Prop} {px : SX → Prop} {B : S → State → Prop} {BX : String → SX → State → Prop} {AX : Nat → Prop} (hr : vx_Run p l e R s m args below meth c H locs cells slots mc ms (F0 m pc ls st0) rest (va_Qf post B A1 a) (vx_X px BX AX) free) (hS : va_S A0 H0 H locs) (hA : ∀ q, q < H.size → A1 q → A0 q) (hf : ∀ q, free q → A0 q) (hAX : ∀ q, q < H.size → AX q → A0 q)
    (kx : ∀ (E : String) (ce : Cell) (q9 : Addr) (u : SX) (t : State) (H1 : Heap) (locs1 : List Loc), t.heap = H1 → s.vm.Alike t.vm → px u → BX E u t → H.size ≤ H1.size → (∀ q : Nat, q < H.size → ¬ AX q → H1[q]? = H[q]?) → va_S A0 H0 H1 locs1 → H1[q9]? = some ce → ce.vm = .none → s.vm.findClass E = some ce.cls → vx_W p l e R s m args below meth c H1 locs1 (cells + mc) (slots + ms) Q (F0 m pc ls rest) q9)
    (kk : ∀ (r : UInt32) (u : S) (t : State) (H1 : Heap) (locs1 : List Loc), t.heap = H1 → s.vm.Alike t.vm → post r u → B u t → H.size ≤ H1.size → (∀ q : Nat, q < H.size → ¬ A1 q → H1[q]? = H[q]?) → va_S A0 H0 H1 locs1 → W p l e R s m args below meth c H1 locs1 (cells + mc) (slots + ms) Q (F0 m (pc + 3) ls (.float r :: rest))) : W p l e R s m args below meth c H locs cells slots Q (F0 m pc ls st0) := by
  intro T hT X
  rcases hr T hT X with ⟨v, st₀, t, T', L, h0, X', hL, e1, e2, ⟨⟨r, u, hv, hp, hb⟩, hF⟩, st⟩ | ⟨q, st₀, t, T', L, E, ce, h0, X', hL, e1, e2, ⟨u, hp, hb, hF⟩, hce, hcv, hcl, st⟩
  · cases hv
    obtain ⟨k1, k2, k3⟩ := vx_keep h0 e1 hS hA hf hL hF
    obtain ⟨t2, a1, b1⟩ := kk r u t T'.heap (locs ++ L) e1.symm (by rw [← e2]; exact X'.warmed.alike) hp hb k1 k2 k3 T' rfl X'
    exact ⟨t2, st t2 a1, b1⟩
  · obtain ⟨k1, k2, k3⟩ := vx_keep h0 e1 hS hAX hf hL hF
    obtain ⟨t2, a1, b1⟩ := kx E ce q u t T'.heap (locs ++ L) e1.symm (by rw [← e2]; exact X'.warmed.alike) hp hb k1 k2 k3 (by rw [e1]; exact hce) hcv hcl T' rfl X'
    exact ⟨t2, st.trans a1, b1⟩
theorem vx_calld {S SX : Type} {post : UInt64 → S → Prop} {px : SX → Prop} {B : S → State → Prop} {BX : String → SX → State → Prop} {AX : Nat → Prop} (hr : vx_Run p l e R s m args below meth c H locs cells slots mc ms (F0 m pc ls st0) rest (va_Qd post B A1 a) (vx_X px BX AX) free) (hS : va_S A0 H0 H locs) (hA : ∀ q, q < H.size → A1 q → A0 q) (hf : ∀ q, free q → A0 q) (hAX : ∀ q, q < H.size → AX q → A0 q)
    (kx : ∀ (E : String) (ce : Cell) (q9 : Addr) (u : SX) (t : State) (H1 : Heap) (locs1 : List Loc), t.heap = H1 → s.vm.Alike t.vm → px u → BX E u t → H.size ≤ H1.size → (∀ q : Nat, q < H.size → ¬ AX q → H1[q]? = H[q]?) → va_S A0 H0 H1 locs1 → H1[q9]? = some ce → ce.vm = .none → s.vm.findClass E = some ce.cls → vx_W p l e R s m args below meth c H1 locs1 (cells + mc) (slots + ms) Q (F0 m pc ls rest) q9)
    (kk : ∀ (r : UInt64) (u : S) (t : State) (H1 : Heap) (locs1 : List Loc), t.heap = H1 → s.vm.Alike t.vm → post r u → B u t → H.size ≤ H1.size → (∀ q : Nat, q < H.size → ¬ A1 q → H1[q]? = H[q]?) → va_S A0 H0 H1 locs1 → W p l e R s m args below meth c H1 locs1 (cells + mc) (slots + ms) Q (F0 m (pc + 3) ls (.double r :: rest))) : W p l e R s m args below meth c H locs cells slots Q (F0 m pc ls st0) := by
  intro T hT X
  rcases hr T hT X with ⟨v, st₀, t, T', L, h0, X', hL, e1, e2, ⟨⟨r, u, hv, hp, hb⟩, hF⟩, st⟩ | ⟨q, st₀, t, T', L, E, ce, h0, X', hL, e1, e2, ⟨u, hp, hb, hF⟩, hce, hcv, hcl, st⟩
  · cases hv
    obtain ⟨k1, k2, k3⟩ := vx_keep h0 e1 hS hA hf hL hF
    obtain ⟨t2, a1, b1⟩ := kk r u t T'.heap (locs ++ L) e1.symm (by rw [← e2]; exact X'.warmed.alike) hp hb k1 k2 k3 T' rfl X'
    exact ⟨t2, st t2 a1, b1⟩
  · obtain ⟨k1, k2, k3⟩ := vx_keep h0 e1 hS hAX hf hL hF
    obtain ⟨t2, a1, b1⟩ := kx E ce q u t T'.heap (locs ++ L) e1.symm (by rw [← e2]; exact X'.warmed.alike) hp hb k1 k2 k3 (by rw [e1]; exact hce) hcv hcl T' rfl X'
    exact ⟨t2, st.trans a1, b1⟩
theorem vx_callv {S SX : Type} {post : S → Prop} {px : SX → Prop} {B : S → State → Prop} {BX : String → SX → State → Prop} {AX : Nat → Prop} (hr : vx_Run p l e R s m args below meth c H locs cells slots mc ms (F0 m pc ls st0) rest (va_Qv post B A1 a) (vx_X px BX AX) free) (hS : va_S A0 H0 H locs) (hA : ∀ q, q < H.size → A1 q → A0 q) (hf : ∀ q, free q → A0 q) (hAX : ∀ q, q < H.size → AX q → A0 q)
    (kx : ∀ (E : String) (ce : Cell) (q9 : Addr) (u : SX) (t : State) (H1 : Heap) (locs1 : List Loc), t.heap = H1 → s.vm.Alike t.vm → px u → BX E u t → H.size ≤ H1.size → (∀ q : Nat, q < H.size → ¬ AX q → H1[q]? = H[q]?) → va_S A0 H0 H1 locs1 → H1[q9]? = some ce → ce.vm = .none → s.vm.findClass E = some ce.cls → vx_W p l e R s m args below meth c H1 locs1 (cells + mc) (slots + ms) Q (F0 m pc ls rest) q9)
    (kk : ∀ (u : S) (t : State) (H1 : Heap) (locs1 : List Loc), t.heap = H1 → s.vm.Alike t.vm → post u → B u t → H.size ≤ H1.size → (∀ q : Nat, q < H.size → ¬ A1 q → H1[q]? = H[q]?) → va_S A0 H0 H1 locs1 → W p l e R s m args below meth c H1 locs1 (cells + mc) (slots + ms) Q (F0 m (pc + 3) ls (rest))) : W p l e R s m args below meth c H locs cells slots Q (F0 m pc ls st0) := by
  intro T hT X
  rcases hr T hT X with ⟨v, st₀, t, T', L, h0, X', hL, e1, e2, ⟨⟨u, hv, hp, hb⟩, hF⟩, st⟩ | ⟨q, st₀, t, T', L, E, ce, h0, X', hL, e1, e2, ⟨u, hp, hb, hF⟩, hce, hcv, hcl, st⟩
  · cases hv
    obtain ⟨k1, k2, k3⟩ := vx_keep h0 e1 hS hA hf hL hF
    obtain ⟨t2, a1, b1⟩ := kk u t T'.heap (locs ++ L) e1.symm (by rw [← e2]; exact X'.warmed.alike) hp hb k1 k2 k3 T' rfl X'
    exact ⟨t2, st t2 a1, b1⟩
  · obtain ⟨k1, k2, k3⟩ := vx_keep h0 e1 hS hAX hf hL hF
    obtain ⟨t2, a1, b1⟩ := kx E ce q u t T'.heap (locs ++ L) e1.symm (by rw [← e2]; exact X'.warmed.alike) hp hb k1 k2 k3 (by rw [e1]; exact hce) hcv hcl T' rfl X'
    exact ⟨t2, st.trans a1, b1⟩
/-- caught by the row x of this method's table; the rows ahead don't take it -/
theorem vx_catch {own name : String} {E : String} {ce : Cell} {q : Addr} (hown : s.vm.findClass own = some m.cls) (pre : List ExceptionTableEntry) (x : ExceptionTableEntry) (suf : List ExceptionTableEntry) (hsplit : c.exceptionTable.toList = pre ++ x :: suf)
    (hpass : ∀ z ∈ pre, covers z pc = false ∨ (z.catchType ≠ 0 ∧ ∃ nm : String, (Cond.classLink own z.catchType nm).before args s = true ∧ va_Nc E nm s)) (hx : covers x pc = true) (h0 : x.catchType ≠ 0)
    (hlink : (Cond.classLink own x.catchType name).before args s = true) (hcast : (Cond.castable E name).before args s = true) (hcell : H[q]? = some ce) (hv : ce.vm = .none) (hcl : s.vm.findClass E = some ce.cls)
    (kk : W p l e R s m args below meth c H locs cells slots Q (F0 m x.handlerPc ls [.ref q])) : vx_W p l e R s m args below meth c H locs cells slots Q (F0 m pc ls rest) q := by
  intro T hT X
  have hpl : e.platform.magicAccessors = ({} : Platform).magicAccessors := by rw [X.admits.platform]
  obtain ⟨c3, c4, hc3, hc4, hasg⟩ := Cond.castable_spec hcast
  cases Option.some.inj (hc3.symm.trans hcl)
  obtain ⟨c5, hc5, hcl5⟩ := Cond.classLink_spec hown hlink e.platform hpl
  cases Option.some.inj (hc4.symm.trans hc5)
  obtain ⟨vm', X', st⟩ := X.thenCaughtThrough q (g := F0 m pc ls rest) rfl (Steps.refl _) (by rw [hT]; exact hcell) (by rw [hv]; rfl) (by obtain ⟨k9, h9, -⟩ := Vm.findClass_spec hcl; exact ⟨k9, h9⟩) pre x suf hsplit
    (fun z hz => by
      rcases hpass z hz with h | ⟨hz0, nm, hl1, hn1⟩
      · exact Or.inl h
      · obtain ⟨c6, hc6, hcl6⟩ := Cond.classLink_spec hown hl1 e.platform hpl
        obtain ⟨a8, b8, h1, h2, h3⟩ := hn1
        cases Option.some.inj (h1.symm.trans hcl)
        cases Option.some.inj (h2.symm.trans hc6)
        exact Or.inr ⟨hz0, _, hcl6, h3⟩) hx (Or.inr ⟨h0, c4, hcl5, hasg⟩)
  obtain ⟨t, a1, b1⟩ := kk (T.setVm vm') hT X'
  exact ⟨t, st.trans a1, b1⟩
end Rows
section Ends
variable {p : Program} {l : Launch} {e : Env} {R : Room} {s : State} {m : MethodId} {args : Array Value} {below : List Frame} {meth : Method} {c : Code} {H : Heap} {locs : List Loc} {cells slots : Nat} {Q : State → Prop}
variable {mc ms : Nat} {free : Addr → Prop} {A0 A1 : Nat → Prop} {H0 : Heap} {a : Array Value} {ls : Array Slot} {st0 rest : List Value}
variable {Qc : Array Value → State → Outcome → State → Prop} {XC : String → State → State → Prop}
/-- what a body that may throw owes at its end -/
def vx_MQ (below : List Frame) (Qc : Array Value → State → Outcome → State → Prop) (XC : String → State → State → Prop) (a : Array Value) (s : State) (mc ms : Nat) (free : Addr → Prop) : State → Prop := fun t =>
  ∃ o, t.status = .running ∧ Ended t below o ∧ vx_Q Qc XC mc ms free a s o t
theorem vx_ret {g : JFrame} {mc ms : Nat} (k : W p l e R s m args below meth c H locs cells slots (MQ below Qc args s mc ms free) g) : W p l e R s m args below meth c H locs cells slots (vx_MQ below Qc XC args s mc ms free) g := by
  intro T hT X
  obtain ⟨t, a1, o, b1, b2, b3, b4⟩ := k T hT X
  exact ⟨t, a1, o, b1, b2, Or.inl ⟨b3, b4⟩⟩
/-- not caught here: it goes on to the caller -/
theorem vx_widen {g : JFrame} {q : Addr} {k n : Nat} (h1 : cells ≤ k) (h2 : slots ≤ n) (kk : vx_W p l e R s m args below meth c H locs k n Q g q) : vx_W p l e R s m args below meth c H locs cells slots Q g q := fun T hT X => kk T hT (stand_widen X h1 h2)
theorem vx_out {pc : Nat} {E : String} {ce : Cell} {q : Addr} {mc ms : Nat} (hout : ∀ x ∈ c.exceptionTable.toList, covers x pc = false) (hlocks : meth.locks = false) (hcell : H[q]? = some ce) (hv : ce.vm = .none) (hcl : s.vm.findClass E = some ce.cls)
    (hx : ∀ t : State, t.heap = H → s.vm.Alike t.vm → XC E s t) (hf : ∀ z ∈ locs, free z.base) (hc : cells ≤ mc) (hs : slots ≤ ms) :
    vx_W p l e R s m args below meth c H locs cells slots (vx_MQ below Qc XC args s mc ms free) (F0 m pc ls rest) q := by
  intro T hT X
  obtain ⟨st1, hrun, hend, hW, hsm⟩ := X.leaveThrown q (g := F0 m pc ls rest) rfl rfl rfl hout hlocks
  have hcell9 : (T.setFrames (.throwing q :: below)).heap[q]? = some ce := by
    show T.heap[q]? = some ce
    rw [hT]; exact hcell
  exact ⟨_, st1, .threw q, hrun, hend, Or.inr ⟨q, rfl, E, ce, locs, hx _ hT hW.alike, hcell9, hv, hcl, hW, hsm.mono hc hs, hf⟩⟩
theorem vx_frame {U : State} {k n : Nat} (h : s.sameButNew ({ U with vm := s.vm } : State) locs k n) : s.heap.size ≤ U.heap.size ∧ ∀ q : Nat, q < s.heap.size → (∀ z ∈ locs, z.base ≠ q) → U.heap[q]? = s.heap[q]? := by
  obtain ⟨-, h2, -, -, -, h6⟩ := h
  refine ⟨h2, fun q hq hz => ?_⟩
  obtain ⟨c9, e1, e2, e3, e4⟩ := h6 q _ (Array.getElem?_eq_getElem hq)
  have hs : c9.slots = (s.heap[q]).slots := Array.ext_getElem? fun i => e4 i fun hm => hz _ hm rfl
  have h9 : c9 = s.heap[q] := by
    rw [hs] at e2
    exact e2
  have e5 : U.heap[q]? = some c9 := e1
  rw [e5, h9, Array.getElem?_eq_getElem hq]
/-- the words of a throw but the four that speak of the heap -/
def vx_no (w : Cond) : Bool := decide (w ≠ .isRef (.static Bundle.tN "UNASSIGNED_STACK" Bundle.steD)) && decide (w ≠ .isRef (.static Bundle.tN "SUPPRESSED_SENTINEL" Bundle.listD)) && decide (w ≠ .laysStatic Bundle.tN "UNASSIGNED_STACK" Bundle.steD) && decide (w ≠ .laysStatic Bundle.tN "SUPPRESSED_SENTINEL" Bundle.listD)
def vx_at0 (own : String) (ic : Nat) (X : String) (names : List String) : List Cond := (Bundle.ownAtoms0 own ic X names).filter vx_no
def vx_atS (own : String) (ic : Nat) (X : String) (names : List String) : List Cond := (Bundle.ownAtoms own ic X names).filter vx_no
/-- a word that the tables alone decide, or a good one -/
def vx_ot (w : Cond) : Bool := w.onTables || goodWord w
theorem vx_ot_at {args a' : Array Value} {s U : State} {w : Cond} (hW : s.WarmedH U.vm) (hvm : s.vm = U.vm) (hg : vx_ot w = true) (h : w.before args s = true) : w.before a' U = true := by
  simp only [vx_ot, Bool.or_eq_true] at hg
  rcases hg with hg | hg
  · exact va_tabs hg hvm h
  · exact word_at hW (good_of_word hg) h
/-- a list's words: the good ones out of the method's own list, the others by premises of their own -/
theorem vx_hat {args : Array Value} {s : State} {L B : List Cond} (h1 : ∀ w ∈ L.filter goodWord, w.before args s = true) (h2 : ∀ w ∈ L.filter (fun w => !goodWord w), w ∈ B) (h3 : ∀ w ∈ B, w.before args s = true) : ∀ w ∈ L, w.before args s = true := by
  intro w hw
  by_cases g : goodWord w = true
  · exact h1 w (List.mem_filter.mpr ⟨hw, g⟩)
  · refine h3 w (h2 w (List.mem_filter.mpr ⟨hw, ?_⟩))
    show (!goodWord w) = true
    cases hgw : goodWord w
    · rfl
    · exact absurd hgw g
theorem vx_c {args : Array Value} {s : State} {w : Cond} {B : List Cond} (h : w.before args s = true) (t : ∀ w ∈ B, w.before args s = true) : ∀ w' ∈ w :: B, w'.before args s = true := fun w' h' => (List.mem_cons.mp h').elim (fun e => by rw [e]; exact h) (t w')
theorem vx_n {args : Array Value} {s : State} : ∀ w ∈ ([] : List Cond), w.before args s = true := fun _ h => nomatch h
theorem vx_own {args : Array Value} {s : State} {L : List Cond} (h1 : ∀ w ∈ L.filter vx_no, w.before args s = true)
    (hU : (Cond.isRef (.static Bundle.tN "UNASSIGNED_STACK" Bundle.steD)).before args s = true) (hN : (Cond.isRef (.static Bundle.tN "SUPPRESSED_SENTINEL" Bundle.listD)).before args s = true)
    (lU : (Cond.laysStatic Bundle.tN "UNASSIGNED_STACK" Bundle.steD).before args s = true) (lN : (Cond.laysStatic Bundle.tN "SUPPRESSED_SENTINEL" Bundle.listD).before args s = true) : ∀ w ∈ L, w.before args s = true := by
  intro w hw
  by_cases e1 : w = .isRef (.static Bundle.tN "UNASSIGNED_STACK" Bundle.steD)
  · rw [e1]; exact hU
  · by_cases e2 : w = .isRef (.static Bundle.tN "SUPPRESSED_SENTINEL" Bundle.listD)
    · rw [e2]; exact hN
    · by_cases e3 : w = .laysStatic Bundle.tN "UNASSIGNED_STACK" Bundle.steD
      · rw [e3]; exact lU
      · by_cases e4 : w = .laysStatic Bundle.tN "SUPPRESSED_SENTINEL" Bundle.listD
        · rw [e4]; exact lN
        · exact h1 w (List.mem_filter.mpr ⟨hw, by unfold vx_no; rw [decide_eq_true e1, decide_eq_true e2, decide_eq_true e3, decide_eq_true e4]; rfl⟩)
/-- where a static field lies, its class's statics cell in H -/
def vx_L (C n d : String) (A : Nat → Prop) (U : State) (H : Heap) : Prop := ∃ (c : ClassId) (k : Class) (i : Nat) (f : Field) (a : Nat) (cell : Cell), U.vm.findClass C = some c ∧ U.fieldFound? C n d = some (c, k, i, f) ∧ f.isStatic = true ∧ k.statics = some a ∧ H[a]? = some cell ∧ cell.vm.isStatics = true ∧ cell.cls = c ∧ f.slot < cell.slots.size ∧ k.staticTypes[f.slot]? = some f.type ∧ ¬ A a
theorem vx_L.moved {C n d : String} {A : Nat → Prop} {u U : State} {H : Heap} (hvm : u.vm.Alike U.vm) (h : vx_L C n d A u H) : vx_L C n d A U H := by
  obtain ⟨c, k, i, f, a, cell, h1, h2, h3, h4, h5, h6, h7, h8, h9, h10⟩ := h
  obtain ⟨k', hi', he⟩ := State.fieldFound?_setVm hvm h2
  exact ⟨c, k', i, f, a, cell, by rw [hvm.findClass]; exact h1, hi', h3, by rw [he]; exact h4, h5, h6, h7, h8, by rw [he]; exact h9, h10⟩
theorem vx_L.kept {C n d : String} {A : Nat → Prop} {U : State} {H H1 : Heap} (h : vx_L C n d A U H) (hq : ∀ a : Nat, a < H.size → ¬ A a → H1[a]? = H[a]?) : vx_L C n d A U H1 := by
  obtain ⟨c, k, i, f, a, cell, h1, h2, h3, h4, h5, h6, h7, h8, h9, h10⟩ := h
  exact ⟨c, k, i, f, a, cell, h1, h2, h3, h4, by rw [hq a (Array.getElem?_eq_some_iff.mp h5).1 h10]; exact h5, h6, h7, h8, h9, h10⟩
theorem vx_L.narrow {C n d : String} {A B : Nat → Prop} {U : State} {H : Heap} (h : vx_L C n d A U H) (hAB : ∀ q, B q → A q) : vx_L C n d B U H := by
  obtain ⟨c, k, i, f, a, cell, h1, h2, h3, h4, h5, h6, h7, h8, h9, h10⟩ := h
  exact ⟨c, k, i, f, a, cell, h1, h2, h3, h4, h5, h6, h7, h8, h9, fun z => h10 (hAB _ z)⟩
theorem vx_L.word {C n d : String} {A : Nat → Prop} {s : State} {args : Array Value} (h : vx_L C n d A s s.heap) : (Cond.laysStatic C n d).before args s = true := by
  obtain ⟨c, k, i, f, a, cell, h1, h2, h3, h4, h5, h6, h7, h8, h9, -⟩ := h
  show (Cond.laysStatic C n d).holds args s none s [] = true
  exact Cond.laysStatic_of h1 h2 h3 h4 h5 h6 h7 h8 h9
/-- .. and what it holds: null or some reference -/
def vx_Zq (C n d : String) (A : Nat → Prop) (U : State) (H : Heap) : Prop := va_Zq C n d A U H ∧ vx_L C n d A U H
theorem vx_Zq.moved {C n d : String} {A : Nat → Prop} {u U : State} {H : Heap} (hvm : u.vm.Alike U.vm) (h : vx_Zq C n d A u H) : vx_Zq C n d A U H := ⟨va_Zq.moved hvm h.1, vx_L.moved hvm h.2⟩
theorem vx_Zq.kept {C n d : String} {A : Nat → Prop} {U : State} {H H1 : Heap} (h : vx_Zq C n d A U H) (hq : ∀ a : Nat, a < H.size → ¬ A a → H1[a]? = H[a]?) : vx_Zq C n d A U H1 := ⟨va_Zq.kept h.1 hq, vx_L.kept h.2 hq⟩
theorem vx_Zq.narrow {C n d : String} {A B : Nat → Prop} {U : State} {H : Heap} (h : vx_Zq C n d A U H) (hAB : ∀ q, B q → A q) : vx_Zq C n d B U H := ⟨va_Zq.narrow h.1 hAB, vx_L.narrow h.2 hAB⟩
theorem vx_Zqof {args : Array Value} {s : State} {C n d : String} {A : Nat → Prop} (hl : (Cond.laysStatic C n d).before args s = true) (hini : (Cond.initialized C).before args s = true) (h : (Cond.isRef (.static C n d)).before args s = true) (hA : ∀ a : Nat, a < s.heap.size → ¬ A a) : vx_Zq C n d A s s.heap := by
  refine ⟨va_Zqof hl hini h hA, ?_⟩
  obtain ⟨c, k, i, f, a, cell, h1, h2, h3, h4, h5, h6, h7, h8, h9⟩ := Cond.laysStatic_spec hl
  exact ⟨c, k, i, f, a, cell, h1, h2, h3, h4, h5, h6, h7, h8, h9, hA a (Array.getElem?_eq_some_iff.mp h5).1⟩
theorem vx_isRef {C n d : String} {v : Value} {A : Nat → Prop} {s : State} {args : Array Value} (h : va_Z C n d v A s s.heap) (hv : v.isRef = true) : (Cond.isRef (.static C n d)).before args s = true := by
  obtain ⟨cf, kf, fi, f, a, cell, h1, h2, h3, h4, h5, h6, h7, -⟩ := h
  have he : (Term.static C n d).eval args s none [] s = some v := by
    simp [Term.eval, State.fieldNamed?, h1, h2, h4, h5, h6, h7]
  simp only [Cond.before, Cond.holds, Cond.value, he]
  cases v <;> simp_all [Value.isRef]
theorem vx_isRefq {C n d : String} {A : Nat → Prop} {s : State} {args : Array Value} (h : va_Zq C n d A s s.heap) : (Cond.isRef (.static C n d)).before args s = true := by
  rcases h with h | ⟨t, h⟩
  · exact vx_isRef h rfl
  · exact vx_isRef h rfl
/-- the same frame, seen from here: as if the method were called anew in this heap -/
theorem vx_rebase {T : State} (X : Stand p l e R s m args below meth c T locs cells slots) {R' : Room} (hf : R'.frames ≤ R.frames) (hl : R'.locals ≤ R.locals) (hc : cells + R'.cells ≤ R.cells) (hs : slots + R'.slots ≤ R.slots) :
    Stand p l e R' ((T.setVm s.vm).setFrames (.invoking m args :: below)) m args below meth c T [] 0 0 := by
  have htop : (T.setVm s.vm).topJava?.isSome := X.here.top
  have hF : ((T.setVm s.vm).setFrames (.invoking m args :: below)).frames = .invoking m args :: below := State.frames_setFrames _ (State.cur_lt_of_top htop)
  obtain ⟨g₀, hg0⟩ := Option.isSome_iff_exists.mp htop
  obtain ⟨r, hr⟩ := State.topJava?_eq_some.mp hg0
  have hl9 : e.platform.stackLimits (T.setVm s.vm).me = e.platform.stackLimits s.me := X.limits
  have hb9 : (T.setVm s.vm).me.stackBytes = s.me.stackBytes := X.bytes
  refine ⟨X.admits, X.cas, X.clock, hF, ?_, X.hears, X.method, X.code, X.here, X.tail, X.warmed, ?_, ?_, ?_⟩
  · have h := X.room
    have hU : ((T.setVm s.vm).setFrames (.invoking m args :: below)).localsInUse = s.localsInUse := by
      rw [State.localsInUse_invoking hF (meth := meth) (c := c) X.method X.code, State.localsInUse_invoking X.frames X.method X.code]
    simp only [State.hasRoom, Bool.and_eq_true, decide_eq_true_eq] at h ⊢
    obtain ⟨⟨⟨⟨h1, h2, h3, h4, h5, h6⟩, h7⟩, h8⟩, h9⟩ := h
    rw [X.frames, List.length_cons] at h2 h3
    have q1 := X.heapSize
    have q2 := X.used
    simp only [hF, hU, List.length_cons, State.stackLimits_setFrames, State.stackBytes_setFrames, hl9, hb9]
    refine ⟨⟨⟨⟨by omega, by omega, by omega, by omega, by omega, h6⟩, ?_⟩, ?_⟩, X.book⟩
    · show T.heap.size + R'.cells ≤ e.platform.maxCells
      omega
    · show T.slotsUsed + R'.slots ≤ e.platform.maxSlots
      omega
  · rw [State.stackLimits_setFrames]; rfl
  · rw [State.stackBytes_setFrames]; rfl
  · refine ⟨?_, Nat.le_refl _, Nat.le_refl _, ?_, ?_, fun a c9 h9 => ⟨c9, h9, rfl, rfl, fun _ _ => rfl⟩⟩
    · obtain ⟨t, ht, -⟩ := State.frames_cons hr
      show T.setVm s.vm = { ((T.setVm s.vm).setFrames (.invoking m args :: below)).setFrames (T.setVm s.vm).frames with heap := T.heap, slotsUsed := T.slotsUsed }
      rw [State.setFrames_setFrames, State.setFrames_self ht]
      rfl
    · show T.slotsUsed = T.slotsUsed + ((T.heap.toList.drop T.heap.size).map (·.slots.size)).sum
      rw [List.drop_eq_nil_of_le (Nat.le_of_eq Array.length_toList)]
      rfl
    · show ((T.heap.toList.drop T.heap.size).map (·.slots.size)).sum ≤ 0
      rw [List.drop_eq_nil_of_le (Nat.le_of_eq Array.length_toList)]
      exact Nat.le_refl _
/-- 'throw new E()': new; dup; invokespecial; athrow -/
theorem vx_throw0 {cc : ByteArray} {pc : Nat} (hexec : p.tables.exec = Jvm.exec) (hb : c.code = cc) (hl : l.stackTraces = false) {own cls : String} {names : List String} {ik ic mc ms : Nat} {A : Nat → Prop}
    (hown : s.vm.findClass own = some m.cls) (hcls : Bundle.fit cls = true) (hnames : ∀ n ∈ names, Bundle.fit n = true)
    (hk : (Cond.classLink own ik cls).before args s = true) (hini : (Cond.initialized cls).before args s = true) (hat : ∀ w ∈ vx_at0 own ic cls names, w.before args s = true)
    (hgood : ∀ w ∈ Cond.classLink own ik cls :: Cond.initialized cls :: vx_at0 own ic cls names, vx_ot w = true)
    (hU : vx_Zq Bundle.tN "UNASSIGNED_STACK" Bundle.steD A s s.heap) (hN : vx_Zq Bundle.tN "SUPPRESSED_SENTINEL" Bundle.listD A s s.heap) (hS : va_S A s.heap H locs) (hsize : ls.size = c.maxLocals)
    (d0 : decode cc pc = .ok (.new ik, 3)) (d3 : decode cc (pc + 3) = .ok (.dup, 1)) (d4 : decode cc (pc + 4) = .ok (.invokespecial ic, 3)) (d7 : decode cc (pc + 7) = .ok (.athrow, 1))
    (hout : ∀ x ∈ c.exceptionTable.toList, covers x (pc + 7) = false)
    (hRframes : names.length + 3 < R.frames) (hRlocals : (rest.map fun v => v.category).sum + (13 * (names.length + 1) + 42) ≤ R.locals) (hRcells : cells + 1 ≤ R.cells) (hRslots : slots + 6 ≤ R.slots) (hlocks : meth.locks = false)
    (hx : ∀ t : State, s.vm.Alike t.vm → H.size ≤ t.heap.size → (∀ q : Nat, q < H.size → t.heap[q]? = H[q]?) → XC cls s t)
    (hf : ∀ z ∈ locs, free z.base) (hc : cells + 1 ≤ mc) (hs : slots + 6 ≤ ms) :
    W p l e R s m args below meth c H locs cells slots (vx_MQ below Qc XC args s mc ms free) (F0 m pc ls rest) := by
  intro T hT X
  have htr : e.platform.stackTraces = false := (show e.platform.stackTraces = l.stackTraces by rw [X.admits.platform]).trans hl
  have Y := vx_rebase X (R' := { frames := R.frames, locals := R.locals, cells := 1, slots := 6 }) (Nat.le_refl _) (Nat.le_refl _) hRcells hRslots
  obtain ⟨s', hA⟩ : ∃ z, z = (T.setVm s.vm).setFrames (.invoking m args :: below) := ⟨_, rfl⟩
  rw [← hA] at Y
  have hvm : s'.vm = s.vm := by rw [hA]; rfl
  have hhp : s'.heap = H := by rw [hA]; exact hT
  have hW0 : s.WarmedH s'.vm := by rw [hvm]; exact State.WarmedH.refl s
  have hat' : ∀ w ∈ vx_at0 own ic cls names, w.before args s' = true := fun w hw => vx_ot_at hW0 hvm.symm (hgood w (List.mem_cons_of_mem _ (List.mem_cons_of_mem _ hw))) (hat w hw)
  have hk' : (Cond.classLink own ik cls).before args s' = true := vx_ot_at hW0 hvm.symm (hgood _ List.mem_cons_self) hk
  have hini' : (Cond.initialized cls).before args s' = true := vx_ot_at hW0 hvm.symm (hgood _ (List.mem_cons_of_mem _ List.mem_cons_self)) hini
  have hU' : vx_Zq Bundle.tN "UNASSIGNED_STACK" Bundle.steD A s' s'.heap := by rw [hhp]; exact vx_Zq.moved hW0.alike (hU.kept hS.2.1)
  have hN' : vx_Zq Bundle.tN "SUPPRESSED_SENTINEL" Bundle.listD A s' s'.heap := by rw [hhp]; exact vx_Zq.moved hW0.alike (hN.kept hS.2.1)
  have h : ∀ w ∈ Bundle.ownAtoms0 own ic cls names, w.before args s' = true := vx_own hat' (vx_isRefq hU'.1) (vx_isRefq hN'.1) hU'.2.word hN'.2.word
  have hown' : s'.vm.findClass own = some m.cls := by rw [hvm]; exact hown
  have hins : (Cond.instantiable cls 6).before args s' = true := h _ (by simp [Bundle.ownAtoms0])
  obtain ⟨vm₁, cX, kX, hfX, hkX, -, -, X₁, st1⟩ := Y.newCold hexec (own := own) (C := cls) (index := ik) (n := 6) hown' hk' hins hini'
    (g := F0 m pc ls rest) rfl (by rw [hb]; exact d0) (Nat.le_refl _) (Nat.le_refl _)
  generalize hT1 : (T.setVm vm₁).pushCell { cls := cX, slots := kX.instanceTypes.map defaultValue, vm := .none } = T1 at X₁ st1
  have hcat : (Value.ref T.heap.size).category = 1 := rfl
  have hcellA : T1.heap[T.heap.size]? = some (freshCell cX kX) := by rw [← hT1]; exact State.heap_pushCell_size _ _
  have d3' : decode c.code (pc + 3) = .ok (.dup, 1) := by rw [hb]; exact d3
  obtain ⟨U, hsteps, hrun, hend, hW, hsame, ce, hce, hO⟩ := X₁.ctorThrow0 hexec htr (own := own) (cls := cls) (names := names) (ic := ic) hown' hcls hnames h (fun x hx => nomatch hx) hfX hkX hcellA (by rw [hhp, hT]; exact Nat.le_refl _)
    (g := { method := m, pc := pc + 4, locals := ls, stack := .ref T.heap.size :: .ref T.heap.size :: rest, locked := none }) rfl hsize rfl rfl (rest := rest) rfl
    (by rw [hb]; exact d4) (by rw [hb]; exact d7) hout hRframes (by simp only [List.map_cons, List.sum_cons, hcat]; omega) hlocks
  obtain ⟨f1, f2⟩ := vx_frame hsame
  rw [hhp] at f1 f2
  have hWs : s.WarmedH U.vm := State.WarmedH.trans hW0 hW
  have hcl : s.vm.findClass cls = some ce.cls := by
    have h9 := hO.cls
    rw [hvm] at h9
    exact h9
  have hall : s.sameButNew ({ U with vm := s.vm } : State) locs mc ms := by
    subst hA
    obtain ⟨e1, e2⟩ := hsame
    rw [State.setFrames_setFrames] at e1
    have h2 : (T.setVm s.vm).sameButNew ({ U with vm := s.vm } : State) [] (0 + 1) (0 + 6) := ⟨e1, e2⟩
    have h3 := X.same.trans h2
    rw [List.append_nil] at h3
    exact h3.mono hc hs
  refine ⟨U, ?_, .threw T.heap.size, hrun, hend, Or.inr ⟨T.heap.size, rfl, cls, ce, locs, hx U hWs.alike f1 (fun q hq => f2 q hq (fun z hz => nomatch hz)), hce, hO.vm, hcl, hWs, hall, hf⟩⟩
  refine st1 _ ?_
  show Steps p.tables e below (T1.setTop { method := m, pc := pc + 3, locals := ls, stack := .ref T.heap.size :: rest, locked := none }) _
  jvm_step X₁.here [X₁.here.top, hexec, d3', Value.category]
  exact hsteps
/-- 'throw new E("text")': new; dup; ldc; invokespecial; athrow -/
theorem vx_throwS {cc : ByteArray} {pc : Nat} (hexec : p.tables.exec = Jvm.exec) (hb : c.code = cc) (hl : l.stackTraces = false) {own cls text : String} {names : List String} {ik is ic mc ms sa : Nat} {A : Nat → Prop}
    (hown : s.vm.findClass own = some m.cls) (hcls : Bundle.fit cls = true) (hnames : ∀ n ∈ names, Bundle.fit n = true)
    (hk : (Cond.classLink own ik cls).before args s = true) (hini : (Cond.initialized cls).before args s = true) (hstr : vk_R own is text sa s) (hat : ∀ w ∈ vx_atS own ic cls names, w.before args s = true)
    (hgood : ∀ w ∈ Cond.classLink own ik cls :: Cond.initialized cls :: vx_atS own ic cls names, vx_ot w = true)
    (hU : vx_Zq Bundle.tN "UNASSIGNED_STACK" Bundle.steD A s s.heap) (hN : vx_Zq Bundle.tN "SUPPRESSED_SENTINEL" Bundle.listD A s s.heap) (hS : va_S A s.heap H locs) (hsize : ls.size = c.maxLocals)
    (d0 : decode cc pc = .ok (.new ik, 3)) (d3 : decode cc (pc + 3) = .ok (.dup, 1)) (d4 : decode cc (pc + 4) = .ok (.ldc is, 2)) (d6 : decode cc (pc + 6) = .ok (.invokespecial ic, 3)) (d9 : decode cc (pc + 9) = .ok (.athrow, 1))
    (hout : ∀ x ∈ c.exceptionTable.toList, covers x (pc + 9) = false)
    (hRframes : names.length + 3 < R.frames) (hRlocals : (rest.map fun v => v.category).sum + (13 * (names.length + 1) + 43) ≤ R.locals) (hRcells : cells + 1 ≤ R.cells) (hRslots : slots + 6 ≤ R.slots) (hlocks : meth.locks = false)
    (hx : ∀ t : State, s.vm.Alike t.vm → H.size ≤ t.heap.size → (∀ q : Nat, q < H.size → t.heap[q]? = H[q]?) → XC cls s t)
    (hf : ∀ z ∈ locs, free z.base) (hc : cells + 1 ≤ mc) (hs : slots + 6 ≤ ms) :
    W p l e R s m args below meth c H locs cells slots (vx_MQ below Qc XC args s mc ms free) (F0 m pc ls rest) := by
  intro T hT X
  have htr : e.platform.stackTraces = false := (show e.platform.stackTraces = l.stackTraces by rw [X.admits.platform]).trans hl
  have Y := vx_rebase X (R' := { frames := R.frames, locals := R.locals, cells := 1, slots := 6 }) (Nat.le_refl _) (Nat.le_refl _) hRcells hRslots
  obtain ⟨s', hA⟩ : ∃ z, z = (T.setVm s.vm).setFrames (.invoking m args :: below) := ⟨_, rfl⟩
  rw [← hA] at Y
  have hvm : s'.vm = s.vm := by rw [hA]; rfl
  have hhp : s'.heap = H := by rw [hA]; exact hT
  have hW0 : s.WarmedH s'.vm := by rw [hvm]; exact State.WarmedH.refl s
  have hat' : ∀ w ∈ vx_atS own ic cls names, w.before args s' = true := fun w hw => vx_ot_at hW0 hvm.symm (hgood w (List.mem_cons_of_mem _ (List.mem_cons_of_mem _ hw))) (hat w hw)
  have hk' : (Cond.classLink own ik cls).before args s' = true := vx_ot_at hW0 hvm.symm (hgood _ List.mem_cons_self) hk
  have hini' : (Cond.initialized cls).before args s' = true := vx_ot_at hW0 hvm.symm (hgood _ (List.mem_cons_of_mem _ List.mem_cons_self)) hini
  have hU' : vx_Zq Bundle.tN "UNASSIGNED_STACK" Bundle.steD A s' s'.heap := by rw [hhp]; exact vx_Zq.moved hW0.alike (hU.kept hS.2.1)
  have hN' : vx_Zq Bundle.tN "SUPPRESSED_SENTINEL" Bundle.listD A s' s'.heap := by rw [hhp]; exact vx_Zq.moved hW0.alike (hN.kept hS.2.1)
  have h : ∀ w ∈ Bundle.ownAtoms own ic cls names, w.before args s' = true := vx_own hat' (vx_isRefq hU'.1) (vx_isRefq hN'.1) hU'.2.word hN'.2.word
  have hown' : s'.vm.findClass own = some m.cls := by rw [hvm]; exact hown
  have hins : (Cond.instantiable cls 6).before args s' = true := h _ (by simp [Bundle.ownAtoms])
  obtain ⟨vm₁, cX, kX, hfX, hkX, -, -, X₁, st1⟩ := Y.newCold hexec (own := own) (C := cls) (index := ik) (n := 6) hown' hk' hins hini'
    (g := F0 m pc ls rest) rfl (by rw [hb]; exact d0) (Nat.le_refl _) (Nat.le_refl _)
  generalize hT1 : (T.setVm vm₁).pushCell { cls := cX, slots := kX.instanceTypes.map defaultValue, vm := .none } = T1 at X₁ st1
  have hcat : (Value.ref T.heap.size).category = 1 := rfl
  have hcellA : T1.heap[T.heap.size]? = some (freshCell cX kX) := by rw [← hT1]; exact State.heap_pushCell_size _ _
  have d3' : decode c.code (pc + 3) = .ok (.dup, 1) := by rw [hb]; exact d3
  have d4' : decode c.code (pc + 4) = .ok (.ldc is, 2) := by rw [hb]; exact d4
  have hstr' : vk_R own is text sa s' := vk_R.warm hW0 hstr
  obtain ⟨U, hsteps, hrun, hend, hW, hsame, ce, hce, hO⟩ := X₁.ctorThrowS hexec htr (own := own) (cls := cls) (names := names) (ic := ic) hown' hcls hnames h (fun x hx => nomatch hx) hfX hkX hcellA (by rw [hhp, hT]; exact Nat.le_refl _) (msg := .ref sa) rfl
    (g := { method := m, pc := pc + 6, locals := ls, stack := .ref sa :: .ref T.heap.size :: .ref T.heap.size :: rest, locked := none }) rfl hsize rfl rfl (rest := rest) rfl
    (by rw [hb]; exact d6) (by rw [hb]; exact d9) hout hRframes (by simp only [List.map_cons, List.sum_cons, hcat]; omega) hlocks
  obtain ⟨f1, f2⟩ := vx_frame hsame
  rw [hhp] at f1 f2
  have hWs : s.WarmedH U.vm := State.WarmedH.trans hW0 hW
  have hcl : s.vm.findClass cls = some ce.cls := by
    have h9 := hO.cls
    rw [hvm] at h9
    exact h9
  have hall : s.sameButNew ({ U with vm := s.vm } : State) locs mc ms := by
    subst hA
    obtain ⟨e1, e2⟩ := hsame
    rw [State.setFrames_setFrames] at e1
    have h2 : (T.setVm s.vm).sameButNew ({ U with vm := s.vm } : State) [] (0 + 1) (0 + 6) := ⟨e1, e2⟩
    have h3 := X.same.trans h2
    rw [List.append_nil] at h3
    exact h3.mono hc hs
  refine ⟨U, ?_, .threw T.heap.size, hrun, hend, Or.inr ⟨T.heap.size, rfl, cls, ce, locs, hx U hWs.alike f1 (fun q hq => f2 q hq (fun z hz => nomatch hz)), hce, hO.vm, hcl, hWs, hall, hf⟩⟩
  refine st1 _ ?_
  show Steps p.tables e below (T1.setTop { method := m, pc := pc + 3, locals := ls, stack := .ref T.heap.size :: rest, locked := none }) _
  jvm_step X₁.here [X₁.here.top, hexec, d3', Value.category]
  exact X₁.ldcString hexec (own := own) (text := text) (index := is) (a := sa) hown' hstr'.1 hstr'.2
    (g := { method := m, pc := pc + 4, locals := ls, stack := .ref T.heap.size :: .ref T.heap.size :: rest, locked := none }) rfl d4' _ hsteps
/-- 'throw new E("text")', the text by a wide index -/
theorem vx_throwSW {cc : ByteArray} {pc : Nat} (hexec : p.tables.exec = Jvm.exec) (hb : c.code = cc) (hl : l.stackTraces = false) {own cls text : String} {names : List String} {ik is ic mc ms sa : Nat} {A : Nat → Prop}
    (hown : s.vm.findClass own = some m.cls) (hcls : Bundle.fit cls = true) (hnames : ∀ n ∈ names, Bundle.fit n = true)
    (hk : (Cond.classLink own ik cls).before args s = true) (hini : (Cond.initialized cls).before args s = true) (hstr : vk_R own is text sa s) (hat : ∀ w ∈ vx_atS own ic cls names, w.before args s = true)
    (hgood : ∀ w ∈ Cond.classLink own ik cls :: Cond.initialized cls :: vx_atS own ic cls names, vx_ot w = true)
    (hU : vx_Zq Bundle.tN "UNASSIGNED_STACK" Bundle.steD A s s.heap) (hN : vx_Zq Bundle.tN "SUPPRESSED_SENTINEL" Bundle.listD A s s.heap) (hS : va_S A s.heap H locs) (hsize : ls.size = c.maxLocals)
    (d0 : decode cc pc = .ok (.new ik, 3)) (d3 : decode cc (pc + 3) = .ok (.dup, 1)) (d4 : decode cc (pc + 4) = .ok (.ldc_w is, 3)) (d7 : decode cc (pc + 7) = .ok (.invokespecial ic, 3)) (d10 : decode cc (pc + 10) = .ok (.athrow, 1))
    (hout : ∀ x ∈ c.exceptionTable.toList, covers x (pc + 10) = false)
    (hRframes : names.length + 3 < R.frames) (hRlocals : (rest.map fun v => v.category).sum + (13 * (names.length + 1) + 43) ≤ R.locals) (hRcells : cells + 1 ≤ R.cells) (hRslots : slots + 6 ≤ R.slots) (hlocks : meth.locks = false)
    (hx : ∀ t : State, s.vm.Alike t.vm → H.size ≤ t.heap.size → (∀ q : Nat, q < H.size → t.heap[q]? = H[q]?) → XC cls s t)
    (hf : ∀ z ∈ locs, free z.base) (hc : cells + 1 ≤ mc) (hs : slots + 6 ≤ ms) :
    W p l e R s m args below meth c H locs cells slots (vx_MQ below Qc XC args s mc ms free) (F0 m pc ls rest) := by
  intro T hT X
  have htr : e.platform.stackTraces = false := (show e.platform.stackTraces = l.stackTraces by rw [X.admits.platform]).trans hl
  have Y := vx_rebase X (R' := { frames := R.frames, locals := R.locals, cells := 1, slots := 6 }) (Nat.le_refl _) (Nat.le_refl _) hRcells hRslots
  obtain ⟨s', hA⟩ : ∃ z, z = (T.setVm s.vm).setFrames (.invoking m args :: below) := ⟨_, rfl⟩
  rw [← hA] at Y
  have hvm : s'.vm = s.vm := by rw [hA]; rfl
  have hhp : s'.heap = H := by rw [hA]; exact hT
  have hW0 : s.WarmedH s'.vm := by rw [hvm]; exact State.WarmedH.refl s
  have hat' : ∀ w ∈ vx_atS own ic cls names, w.before args s' = true := fun w hw => vx_ot_at hW0 hvm.symm (hgood w (List.mem_cons_of_mem _ (List.mem_cons_of_mem _ hw))) (hat w hw)
  have hk' : (Cond.classLink own ik cls).before args s' = true := vx_ot_at hW0 hvm.symm (hgood _ List.mem_cons_self) hk
  have hini' : (Cond.initialized cls).before args s' = true := vx_ot_at hW0 hvm.symm (hgood _ (List.mem_cons_of_mem _ List.mem_cons_self)) hini
  have hU' : vx_Zq Bundle.tN "UNASSIGNED_STACK" Bundle.steD A s' s'.heap := by rw [hhp]; exact vx_Zq.moved hW0.alike (hU.kept hS.2.1)
  have hN' : vx_Zq Bundle.tN "SUPPRESSED_SENTINEL" Bundle.listD A s' s'.heap := by rw [hhp]; exact vx_Zq.moved hW0.alike (hN.kept hS.2.1)
  have h : ∀ w ∈ Bundle.ownAtoms own ic cls names, w.before args s' = true := vx_own hat' (vx_isRefq hU'.1) (vx_isRefq hN'.1) hU'.2.word hN'.2.word
  have hown' : s'.vm.findClass own = some m.cls := by rw [hvm]; exact hown
  have hins : (Cond.instantiable cls 6).before args s' = true := h _ (by simp [Bundle.ownAtoms])
  obtain ⟨vm₁, cX, kX, hfX, hkX, -, -, X₁, st1⟩ := Y.newCold hexec (own := own) (C := cls) (index := ik) (n := 6) hown' hk' hins hini'
    (g := F0 m pc ls rest) rfl (by rw [hb]; exact d0) (Nat.le_refl _) (Nat.le_refl _)
  generalize hT1 : (T.setVm vm₁).pushCell { cls := cX, slots := kX.instanceTypes.map defaultValue, vm := .none } = T1 at X₁ st1
  have hcat : (Value.ref T.heap.size).category = 1 := rfl
  have hcellA : T1.heap[T.heap.size]? = some (freshCell cX kX) := by rw [← hT1]; exact State.heap_pushCell_size _ _
  have d3' : decode c.code (pc + 3) = .ok (.dup, 1) := by rw [hb]; exact d3
  have d4' : decode c.code (pc + 4) = .ok (.ldc_w is, 3) := by rw [hb]; exact d4
  have hstr' : vk_R own is text sa s' := vk_R.warm hW0 hstr
  obtain ⟨U, hsteps, hrun, hend, hW, hsame, ce, hce, hO⟩ := X₁.ctorThrowS hexec htr (own := own) (cls := cls) (names := names) (ic := ic) hown' hcls hnames h (fun x hx => nomatch hx) hfX hkX hcellA (by rw [hhp, hT]; exact Nat.le_refl _) (msg := .ref sa) rfl
    (g := { method := m, pc := pc + 7, locals := ls, stack := .ref sa :: .ref T.heap.size :: .ref T.heap.size :: rest, locked := none }) rfl hsize rfl rfl (rest := rest) rfl
    (by rw [hb]; exact d7) (by rw [hb]; exact d10) hout hRframes (by simp only [List.map_cons, List.sum_cons, hcat]; omega) hlocks
  obtain ⟨f1, f2⟩ := vx_frame hsame
  rw [hhp] at f1 f2
  have hWs : s.WarmedH U.vm := State.WarmedH.trans hW0 hW
  have hcl : s.vm.findClass cls = some ce.cls := by
    have h9 := hO.cls
    rw [hvm] at h9
    exact h9
  have hall : s.sameButNew ({ U with vm := s.vm } : State) locs mc ms := by
    subst hA
    obtain ⟨e1, e2⟩ := hsame
    rw [State.setFrames_setFrames] at e1
    have h2 : (T.setVm s.vm).sameButNew ({ U with vm := s.vm } : State) [] (0 + 1) (0 + 6) := ⟨e1, e2⟩
    have h3 := X.same.trans h2
    rw [List.append_nil] at h3
    exact h3.mono hc hs
  refine ⟨U, ?_, .threw T.heap.size, hrun, hend, Or.inr ⟨T.heap.size, rfl, cls, ce, locs, hx U hWs.alike f1 (fun q hq => f2 q hq (fun z hz => nomatch hz)), hce, hO.vm, hcl, hWs, hall, hf⟩⟩
  refine st1 _ ?_
  show Steps p.tables e below (T1.setTop { method := m, pc := pc + 3, locals := ls, stack := .ref T.heap.size :: rest, locked := none }) _
  jvm_step X₁.here [X₁.here.top, hexec, d3', Value.category]
  exact X₁.ldcStringW hexec (own := own) (text := text) (index := is) (a := sa) hown' hstr'.1 hstr'.2
    (g := { method := m, pc := pc + 4, locals := ls, stack := .ref T.heap.size :: .ref T.heap.size :: rest, locked := none }) rfl d4' _ hsteps
end Ends
section Bodies
variable {l : Launch}
theorem vx_ofW {y : MethodName} {ws ws' : List Cond} {rm : Room} {Pc : Array Value → State → Prop} {Qc : Array Value → State → Outcome → State → Prop} {XC : String → State → State → Prop} {mc ms : Nat} {free : Addr → Prop} {cc : ByteArray} {maxL : Nat} {ret : Option FieldType}
    (hy : plainName y.cls = true) (hw : ws = Cond.code y cc maxL ret :: ws')
    (body : ∀ p e s m args below meth c s₁, BodyLoose p l y (headSpec ws rm) cc maxL ret e s m args below meth c s₁ → c.maxLocals = maxL → (∀ x ∈ c.exceptionTable.toList, False) → Pc args s →
      W p l e (headSpec ws rm).room s m args below meth c s.heap [] 0 0 (vx_MQ below Qc XC args s mc ms free) (entryFrame m args maxL)) : vx_Met l y ws rm Pc Qc XC mc ms free := by
  refine MetFree.of_bodyS (code := cc) (maxLocals := maxL) (ret := ret) hy ?_ ?_
  · intro args s m h hn
    obtain ⟨meth, c, h1, h2, h3, h4, h5, h6, -, -⟩ := Cond.code_spec hn (atoms_spec (ws := ws) h _ (by rw [hw]; exact List.mem_cons_self))
    exact ⟨meth, c, h1, h2, h3, h4, h5, h6⟩
  · intro p e s m args below meth c s₁ B hml hP _
    have hh0 : s₁.heap = s.heap := by rw [B.state]; rfl
    have ht : ∀ x ∈ c.exceptionTable.toList, False := by
      obtain ⟨meth9, c9, h1, h2, -, -, -, -, h7, -⟩ := Cond.code_spec B.named (atoms_spec (ws := ws) B.pre _ (by rw [hw]; exact List.mem_cons_self))
      cases Option.some.inj (h1.symm.trans B.method)
      cases Option.some.inj (h2.symm.trans (Stand.of_body B).code)
      intro x hx
      rw [Array.isEmpty_iff.mp h7] at hx
      cases hx
    obtain ⟨t, a1, o, b1, b2, b3⟩ := body p e s m args below meth c s₁ B hml ht hP s₁ hh0 (Stand.of_body B)
    exact ⟨t, o, a1, b1, b2, b3⟩
/-- the table of a body with handlers -/
theorem vx_table {p : Program} {x y : MethodName} {S : Spec} {cc bytes : ByteArray} {maxL maxL' : Nat} {ret ret' : Option FieldType} {e : Env} {s s₁ : State} {m : MethodId} {args : Array Value} {below : List Frame} {meth : Method} {c : Code} {hh : List (Nat × Nat × Nat × Nat)}
    (B : BodyLoose p l y S cc maxL ret e s m args below meth c s₁) (h : (Cond.codeWith y bytes maxL' ret' hh).before args s = true) : c.exceptionTable.toList = tableOf hh := by
  obtain ⟨m9, meth9, c9, hn9, h1, h2, -, -, h6, -⟩ := Cond.codeWith_spec h
  cases Option.some.inj (hn9.symm.trans B.named)
  cases Option.some.inj (h1.symm.trans B.method)
  cases Option.some.inj (h2.symm.trans (Stand.of_body B).code)
  rw [← h6, table_eq]
end Bodies
end VXA
/-! ===== END ===== -/
/-! ===== BEGIN a static call of a method with an exception table ===== -/
section VXS
variable {p : Program} {l : Launch} {e : Env} {R : Room} {s : State} {m : MethodId} {args : Array Value} {below : List Frame} {meth : Method} {c : Code} {T : State} {H : Heap} {locs : List Loc} {cells slots : Nat}
abbrev vx_CSW (R : Room) (s : State) (args : Array Value) (own : String) (index : Nat) (y : MethodName) (bytes : ByteArray) (maxL : Nat) (ret : Option FieldType) (hh : List (Nat × Nat × Nat × Nat)) (ws : List Cond) (rm : Room) (mc ms n : Nat) : Prop :=
  (rm.cells = mc ∧ rm.slots = ms ∧ rm.frames + 1 ≤ R.frames ∧ 8 + (maxL + 11) + rm.locals ≤ R.locals ∧ (∀ w ∈ ws, ∀ (a' : Array Value) (U : State), s.WarmedH U.vm → w.before a' U = true) ∧ Cond.codeWith y bytes maxL ret hh ∈ ws) ∧
  (Cond.codeWith y bytes maxL ret hh).before args s = true ∧ (Cond.initialized y.cls).before args s = true ∧ (y.cls ≠ "java/lang/invoke/MethodHandle" ∧ y.cls ≠ "java/lang/invoke/VarHandle") ∧
  (∀ sig, parseMethodDescriptor y.desc = some sig → n = sig.parameters.length) ∧ (Cond.methodLink own index y).before args s = true ∧ (Cond.static y).before args s = true
theorem vx_cwSW {own : String} {index maxL mc ms : Nat} {y : MethodName} {bytes : ByteArray} {ret : Option FieldType} {hh : List (Nat × Nat × Nat × Nat)} {Ts ws ws' : List Cond} {rm : Room} (n : Nat) (ht : ∀ w ∈ Ts, w.before args s = true) (hT : GoodIn Ts (va_wsS own index y ws)) (hw : ws = Cond.codeWith y bytes maxL ret hh :: ws') (hrc : rm.cells = mc) (hrs : rm.slots = ms)
    (hd : y.cls ≠ "java/lang/invoke/MethodHandle" ∧ y.cls ≠ "java/lang/invoke/VarHandle" ∧ (parseMethodDescriptor y.desc).map (fun d => d.parameters.length) = some n) (hR : rm.frames + 1 ≤ R.frames ∧ 8 + (maxL + 11) + rm.locals ≤ R.locals) :
    vx_CSW R s args own index y bytes maxL ret hh ws rm mc ms n := by
  have ok : ∀ w ∈ va_wsS own index y ws, w.before args s = true := fun w h => ht w (hT w h).1
  have hG : GoodIn Ts ws := fun w h => hT w (by unfold va_wsS; exact List.mem_append_right _ h)
  have hc : Cond.codeWith y bytes maxL ret hh ∈ ws := by rw [hw]; exact List.mem_cons_self
  refine ⟨⟨hrc, hrs, hR.1, hR.2, pay_in ht hG, hc⟩, ht _ (hG _ hc).1, ok _ (by simp [va_wsS]), ⟨hd.1, hd.2.1⟩, fun sig h => ?_, ok _ (by simp [va_wsS]), ok _ (by simp [va_wsS])⟩
  have h2 := hd.2.2
  rw [h] at h2
  exact (Option.some.inj h2).symm
theorem vx_callSW (X : Stand p l e R s m args below meth c T locs cells slots) (hexec : p.tables.exec = Jvm.exec) {own : String} {index : Nat} {y : MethodName} {bytes : ByteArray} {maxL : Nat} {ret : Option FieldType} {hh : List (Nat × Nat × Nat × Nat)}
    (hown : s.vm.findClass own = some m.cls) (hlink : (Cond.methodLink own index y).before args s = true) (hstat : (Cond.static y).before args s = true) (hinit : (Cond.initialized y.cls).before args s = true)
    (hcode : (Cond.codeWith y bytes maxL ret hh).before args s = true) (hy : y.cls ≠ "java/lang/invoke/MethodHandle" ∧ y.cls ≠ "java/lang/invoke/VarHandle")
    {W9 : Nat} {Pre : Pt → Array Value → Prop} {Post : Pt → Array Value → Option Value → Pt → Prop} (hK : Back l R p e below s args y 3 W9 Pre Post)
    {g : JFrame} (hg : g.method = m) (hsize : g.locals.size = c.maxLocals) {argsL rest : List Value} (hlen : ∀ sig, parseMethodDescriptor y.desc = some sig → argsL.length = sig.parameters.length)
    (hstack : g.stack = argsL.reverse ++ rest) (hW : 2 * g.monitorRoom + (rest.map fun v => v.category).sum ≤ W9) (hdg : decode c.code g.pc = .ok (.invokestatic index, 3))
    (hpre : ∀ vm₁, s.WarmedH vm₁ → Pre ⟨T.setVm vm₁, locs, cells, slots⟩ argsL.toArray) :
    ∃ (v : Option Value) (vm₁ : Vm) (B : Pt), s.WarmedH vm₁ ∧ Stand p l e R s m args below meth c B.U B.locs B.cells B.slots ∧ Post ⟨T.setVm vm₁, locs, cells, slots⟩ argsL.toArray v B ∧
      ∀ target, Steps p.tables e below (B.U.setTop { g with pc := g.pc + 3, stack := v.toList ++ rest }) target → Steps p.tables e below (T.setTop g) target := by
  obtain ⟨mk, methM, cM, hnamed, hmethM, -, -, -, -, -, -, hsigM⟩ := Cond.codeWith_spec hcode
  have hstatic : methM.isStatic = true := Cond.static_spec hnamed hmethM hstat
  obtain ⟨kP, hkP, -⟩ := className_of_methodNamed hnamed
  have hinitP : kP.init = .initialized := Cond.initialized_spec (findClass_of_methodNamed hnamed) hkP hinit
  obtain ⟨vm₁, X₁, hstep₁⟩ := X.invokestatic hexec hown hlink hnamed hmethM hstatic hkP hinitP hy (g := g) hg (argsL := argsL) (rest := rest) (hlen _ hsigM) hstack hdg
  obtain ⟨v, B, X', hpost, hsteps⟩ := hK m meth c ⟨T.setVm vm₁, locs, cells, slots⟩ { g with stack := rest } (.invokestatic index) mk argsL.toArray X₁ hg hsize hdg hW (X₁.named hnamed) (hpre vm₁ X₁.warmed)
  exact ⟨v, vm₁, B, X₁.warmed, X', hpost, fun target h => hstep₁ _ fun acts => by rw [doInvoke_state]; exact hsteps.trans h⟩
theorem vx_runSW {y : MethodName} {bytes cc : ByteArray} {maxL nL mc ms n index : Nat} {ret : Option FieldType} {hh : List (Nat × Nat × Nat × Nat)} {ws : List Cond} {rm : Room} {Pc : Array Value → State → Prop} {Qc : Array Value → State → Outcome → State → Prop} {free : Addr → Prop} {Ts : List Cond} {own : String} {As rest : List Value} {g : JFrame}
    (S : CallFix p m c cc nL s args Ts own) (hM : Met l y ws rm Pc Qc mc ms free) (cw : vx_CSW R s args own index y bytes maxL ret hh ws rm mc ms n) (hp : PreS s H Pc As)
    (hg : g.method = m) (hn : As.length = n) (hsize : g.locals.size = nL) (hstack : g.stack = As.reverse ++ rest) (hW : 2 * g.monitorRoom + (rest.map fun v => v.category).sum ≤ 8) (hdg : decode cc g.pc = .ok (.invokestatic index, 3)) (hf : cells + mc ≤ R.cells ∧ slots + ms ≤ R.slots) :
    va_Run p l e R s m args below meth c H locs cells slots mc ms g rest (Qc As.toArray) (free) := by
  obtain ⟨⟨hrc, hrs, hfr, hlo, hws, hcw⟩, hcode, hini, hy, hlen, hl, hstt⟩ := cw
  have hK : Back l R p e below s args y 3 8 (PreOf R mc ms Pc) (PostOf Qc mc ms free) := va_backW (hh := hh) (bytes := bytes) (maxL := maxL) (ret := ret) hM hp.1 hrc hrs hfr hlo hws hcw (fun a' U hW => word_at hW (Or.inl (by first | rfl | simp [Cond.onTables, Cond.keeps, Cond.steady])) hini)
  obtain ⟨hx, hb, hml, ho, -⟩ := S
  intro T hT X
  obtain ⟨v, vm₁, ⟨U', l2, c2, s2⟩, hW₁, X', ⟨g', mk, t, L, e1, e2, hq, h1, hL, h2, h3⟩, st⟩ := vx_callSW X hx (hh := hh) (bytes := bytes) (maxL := maxL) (ret := ret) ho hl hstt hini hcode hy hK hg (hsize.trans hml.symm) (argsL := As) (rest := rest) (fun sig h => hn.trans (hlen sig h)) hstack hW (by rw [hb]; exact hdg)
    (fun vm₁ hW₁ => ⟨hf.1, hf.2, hp.2 (T.setVm vm₁) hT hW₁⟩)
  dsimp only [Pt.U, Pt.locs, Pt.cells, Pt.slots] at X' e1 e2 h1 h2 h3 st
  subst h1; subst h2; subst h3
  exact ⟨v, (T.setVm vm₁).calling g' mk As.toArray, t, U', L, hT, X', hL, e1, e2, hq, st⟩
/-- not caught here, past rows that name other classes: it goes on to the caller -/
theorem vx_outP {p : Program} {l : Launch} {e : Env} {R : Room} {s : State} {m : MethodId} {args : Array Value} {below : List Frame} {meth : Method} {c : Code} {H : Heap} {locs : List Loc} {cells slots : Nat} {free : Addr → Prop} {ls : Array Slot} {rest : List Value} {Qc : Array Value → State → Outcome → State → Prop} {XC : String → State → State → Prop}
    {pc : Nat} {own E : String} {ce : Cell} {q : Addr} {mc ms : Nat} (hown : s.vm.findClass own = some m.cls) (hlocks : meth.locks = false)
    (hpass : ∀ z ∈ c.exceptionTable.toList, covers z pc = false ∨ (z.catchType ≠ 0 ∧ ∃ nm : String, (Cond.classLink own z.catchType nm).before args s = true ∧ va_Nc E nm s)) (hcell : H[q]? = some ce) (hv : ce.vm = .none) (hcl : s.vm.findClass E = some ce.cls)
    (hx : ∀ t : State, t.heap = H → s.vm.Alike t.vm → XC E s t) (hf : ∀ z ∈ locs, free z.base) (hc : cells ≤ mc) (hs : slots ≤ ms) :
    vx_W p l e R s m args below meth c H locs cells slots (vx_MQ below Qc XC args s mc ms free) (F0 m pc ls rest) q := by
  intro T hT X
  have hpl : e.platform.magicAccessors = ({} : Platform).magicAccessors := by rw [X.admits.platform]
  obtain ⟨vm', hW', X', st⟩ := X.outThrough hlocks q (g := F0 m pc ls rest) rfl rfl rfl (cell := ce) (by rw [hT]; exact hcell) (by rw [hv]; rfl)
    (by obtain ⟨k9, h9, -⟩ := Vm.findClass_spec hcl; exact ⟨k9, h9⟩) (fun z hz => by
      rcases hpass z hz with h | ⟨hz0, nm, hl1, hn1⟩
      · exact Or.inl h
      · obtain ⟨c6, hc6, hcl6⟩ := Cond.classLink_spec hown hl1 e.platform hpl
        obtain ⟨a8, b8, h1, h2, h3⟩ := hn1
        cases Option.some.inj (h1.symm.trans hcl)
        cases Option.some.inj (h2.symm.trans hc6)
        exact Or.inr ⟨hz0, _, hcl6, h3⟩)
  obtain ⟨g₀, hfr⟩ := X'.frames_eq
  have hcell9 : ((T.setVm vm').setFrames (.throwing q :: below)).heap[q]? = some ce := by
    show T.heap[q]? = some ce
    rw [hT]; exact hcell
  have hend : Ended ((T.setVm vm').setFrames (.throwing q :: below)) below (.threw q) := State.frames_setFrames _ (State.cur_lt_of_frames hfr)
  refine ⟨(T.setVm vm').setFrames (.throwing q :: below), ?_, .threw q, X'.here.running, hend, Or.inr ⟨q, rfl, E, ce, locs, hx _ hT (X'.ends _).1.alike, hcell9, hv, hcl, (X'.ends _).1, (X'.ends _).2.mono hc hs, hf⟩⟩
  rw [X.pushThrowing_eq]
  exact st
/-- a thing of a world lies in the heap -/
theorem vx_lt {D : va_G} {cl : List vw_C} {ws : va_W} {H1 : Heap} (h : va_P D cl ws H1) {k : Nat} {q : Nat × va_E} (hk : ws[k]? = some q) : q.1 < H1.size := (h k q hk).lt
end VXS
/-! ===== END ===== -/
/-! ===== BEGIN methods with a table of their own: called by a name, returning or throwing ===== -/
section VXH
/-! vx_backW, vx_callVX, vx_callSX, vx_callVW, vx_runVW, vx_runVX, vx_runSX, vx_ofWH follow the same proofs as their sisters above (Free/Laws.lean, Shelf42/LK1.lean); vx_outP calls Shelf42/NT130.lean (outThrough). -/
section
variable {l : Launch} {R : Room} {p : Program} {e : Env} {below : List Frame} {s : State} {sargs : Array Value} {y : MethodName} {len W9 : Nat}
theorem vx_backW {ws : List Cond} {rm : Room} {Pc : Array Value → State → Prop} {Qc : Array Value → State → Outcome → State → Prop} {XC : String → State → State → Prop} {mc ms : Nat} {free : Addr → Prop} {bytes : ByteArray} {maxL : Nat} {ret : Option FieldType} {hh : List (Nat × Nat × Nat × Nat)}
    (hM : vx_Met l y ws rm Pc Qc XC mc ms free) (hblind : FrameBlind Pc) (hrc : rm.cells = mc) (hrs : rm.slots = ms)
    (hframes : rm.frames + 1 ≤ R.frames) (hlocals : W9 + (maxL + 11) + rm.locals ≤ R.locals)
    (hws : ∀ w ∈ ws, ∀ a' U, s.WarmedH U.vm → w.before a' U = true) (hcode : Cond.codeWith y bytes maxL ret hh ∈ ws) (hinit : ∀ a' U, s.WarmedH U.vm → (Cond.initialized y.cls).before a' U = true) :
    vx_Back l R p e below s sargs y len W9 (PreOf R mc ms Pc) (PostOf Qc mc ms free) (vx_Post XC mc ms free) := by
  intro m meth c A g ig mk a X hg hsize hdg hW hn hp
  have h1 : (headSpec ws rm).pre.before a A.U = true := atoms_intro fun w hw => hws w hw _ _ X.warmed
  have h2 : (Cond.codeWith y bytes maxL ret hh).before a A.U = true := hws _ hcode _ _ X.warmed
  have h3 : (Cond.initialized y.cls).before a A.U = true := hinit _ _ X.warmed
  have h4 : A.cells + (headSpec ws rm).room.cells ≤ R.cells := by rw [show (headSpec ws rm).room.cells = mc from hrc]; exact hp.1
  have h5 : A.slots + (headSpec ws rm).room.slots ≤ R.slots := by rw [show (headSpec ws rm).room.slots = ms from hrs]; exact hp.2.1
  have hPc : Pc a (A.U.calling g mk a) := hblind _ _ _ _ hp.2.2
  obtain ⟨U, Ls, c0, s0⟩ := A
  dsimp only [Pt.U, Pt.locs, Pt.cells, Pt.slots] at h1 h2 h3 h4 h5 X hn hPc ⊢
  obtain ⟨m9, methY, cY, hn9, hmY, hcY, -, hlY, -⟩ := Cond.codeWith_spec h2
  cases Option.some.inj (hn9.symm.trans hn)
  obtain ⟨kY, hkY, -⟩ := className_of_methodNamed hn
  have hinitY : kY.init = .initialized := Cond.initialized_spec (findClass_of_methodNamed hn) hkY h3
  have h : At U g.method c below := by rw [hg]; exact X.here
  have hlocals9 : W9 + (maxL + 11) + (headSpec ws rm).room.locals ≤ R.locals := hlocals
  have happ : (headSpec ws rm).appliesLoose y e.platform (U.calling g mk a) = true :=
    Spec.appliesLoose_calling (g := g) h hdg hn hkY hinitY
      (X.room_calling (g := g) (R' := (headSpec ws rm).room) hsize hmY hcY hframes (by rw [hlY]; omega) h4 h5) h1
  obtain ⟨mid, hmid⟩ := h.above
  have hfr : (U.setTop g).frames = (.java g :: mid) ++ below := by rw [State.frames_setTop' g h.top, hmid]; rfl
  obtain ⟨o, s₂, hsteps, -, hend, hq⟩ := Steps.callFree hM p X.admits X.cas X.clock (acts := []) hfr happ hPc trivial
  have hq' : vx_Q Qc XC mc ms free a (U.calling g mk a) o s₂ := hq
  rw [State.frames_setTop' g h.top] at hend
  obtain ⟨g₀, hg0⟩ := Option.isSome_iff_exists.mp h.top
  obtain ⟨r, hr⟩ := State.topJava?_eq_some.mp hg0
  have hr' : (({ U with heap := s₂.heap, slotsUsed := s₂.slotsUsed } : State).setVm s₂.vm).frames = .java g₀ :: r := hr
  rcases hq' with ⟨hqc, L, hfe, hL⟩ | ⟨q, rfl, E, ce, L, hx, hce, hcv, hcl, hW₂, hsm, hL⟩
  · obtain ⟨⟨v, rfl⟩, hW₂, e2, q2, q3, q4, q5, q6⟩ := id hfe
    have e3 : s₂ = ({ (U.calling g mk a).setFrames s₂.frames with heap := s₂.heap, slotsUsed := s₂.slotsUsed } : State).setVm s₂.vm := by
      have : s₂ = ({ s₂ with vm := (U.calling g mk a).vm } : State).setVm s₂.vm := rfl
      rw [e2] at this
      exact this
    obtain ⟨c₂, i₂, len₂, hc₂, hd₂, hf₂⟩ := hend
    have hW' : U.WarmedH s₂.vm := hW₂
    have hcc : c₂ = c := by
      have h1 : s₂.code? g.method = U.code? g.method := by
        rw [State.code?_eq, State.code?_eq, hW'.alike.method?]
      exact Option.some.inj (hc₂.symm.trans (h1.trans h.code))
    subst hcc
    have hlen : len₂ = len := by rw [hdg] at hd₂; cases hd₂; rfl
    subst hlen
    have hs₂ : s₂ = (({ U with heap := s₂.heap, slotsUsed := s₂.slotsUsed } : State).setVm s₂.vm).setTop { g with pc := g.pc + len₂, stack := v.toList ++ g.stack } := by
      refine e3.trans ?_
      rw [hf₂, State.calling_eq h.top, State.setFrames_setFrames, State.setTop_of_frames _ hr', hr]
      rfl
    have hsame : U.sameButNew ({ U with heap := s₂.heap, slotsUsed := s₂.slotsUsed } : State) L mc ms := by
      refine ⟨?_, q2, q3, q4, q5, q6⟩
      obtain ⟨t, ht, -⟩ := State.frames_cons hr
      show ({ U with heap := s₂.heap, slotsUsed := s₂.slotsUsed } : State) = { U.setFrames U.frames with heap := s₂.heap, slotsUsed := s₂.slotsUsed }
      rw [State.setFrames_self ht]
    subst hg
    refine Or.inl ⟨v, ⟨(({ U with heap := s₂.heap, slotsUsed := s₂.slotsUsed } : State).setVm s₂.vm), Ls ++ L, c0 + mc, s0 + ms⟩,
      ⟨X.admits, X.cas, X.clock, X.frames, X.room, X.hears, X.method, X.code, (X.here.setHeapUsed s₂.heap s₂.slotsUsed).setVm hW'.alike, X.tail, State.WarmedH.trans X.warmed hW', X.limits, X.bytes, X.same.trans (hsame.setVm s.vm)⟩,
      ⟨g, mk, s₂, L, rfl, rfl, hqc, rfl, hL, rfl, rfl⟩, ?_⟩
    show Steps p.tables e below _ ((({ U with heap := s₂.heap, slotsUsed := s₂.slotsUsed } : State).setVm s₂.vm).setTop { g with pc := g.pc + len₂, stack := v.toList ++ g.stack })
    rw [← hs₂]
    exact hsteps
  · obtain ⟨e2, q2, q3, q4, q5, q6⟩ := id hsm
    have e3 : s₂ = ({ (U.calling g mk a).setFrames s₂.frames with heap := s₂.heap, slotsUsed := s₂.slotsUsed } : State).setVm s₂.vm := by
      have : s₂ = ({ s₂ with vm := (U.calling g mk a).vm } : State).setVm s₂.vm := rfl
      rw [e2] at this
      exact this
    have hf₂ : s₂.frames = .throwing q :: .java g :: U.frames.tail := hend
    have hW' : U.WarmedH s₂.vm := hW₂
    have hs₂ : s₂ = ((({ U with heap := s₂.heap, slotsUsed := s₂.slotsUsed } : State).setVm s₂.vm).setTop g).pushFrame (.throwing q) := by
      refine e3.trans ?_
      rw [hf₂, State.calling_eq h.top, State.setFrames_setFrames, State.pushFrame, State.frames_setTop _ hr', State.setTop_of_frames _ hr', State.setFrames_setFrames, hr]
      rfl
    have hsame : U.sameButNew ({ U with heap := s₂.heap, slotsUsed := s₂.slotsUsed } : State) L mc ms := by
      refine ⟨?_, q2, q3, q4, q5, q6⟩
      obtain ⟨t, ht, -⟩ := State.frames_cons hr
      show ({ U with heap := s₂.heap, slotsUsed := s₂.slotsUsed } : State) = { U.setFrames U.frames with heap := s₂.heap, slotsUsed := s₂.slotsUsed }
      rw [State.setFrames_self ht]
    subst hg
    refine Or.inr ⟨q, ⟨(({ U with heap := s₂.heap, slotsUsed := s₂.slotsUsed } : State).setVm s₂.vm), Ls ++ L, c0 + mc, s0 + ms⟩,
      ⟨X.admits, X.cas, X.clock, X.frames, X.room, X.hears, X.method, X.code, (X.here.setHeapUsed s₂.heap s₂.slotsUsed).setVm hW'.alike, X.tail, State.WarmedH.trans X.warmed hW', X.limits, X.bytes, X.same.trans (hsame.setVm s.vm)⟩,
      ⟨g, mk, s₂, L, E, ce, rfl, rfl, hx, hce, hcv, hcl, rfl, hL, rfl, rfl⟩, ?_⟩
    show Steps p.tables e below _ (((({ U with heap := s₂.heap, slotsUsed := s₂.slotsUsed } : State).setVm s₂.vm).setTop g).pushFrame (.throwing q))
    rw [← hs₂]
    exact hsteps
end
variable {p : Program} {l : Launch} {e : Env} {R : Room} {s : State} {m : MethodId} {args : Array Value} {below : List Frame} {meth : Method} {c : Code} {T : State} {H : Heap} {locs : List Loc} {cells slots : Nat}
theorem vx_callVX (X : Stand p l e R s m args below meth c T locs cells slots) (hexec : p.tables.exec = Jvm.exec) {own C : String} {index : Nat} {y : MethodName} {bytes : ByteArray} {maxL : Nat} {ret : Option FieldType} {hh : List (Nat × Nat × Nat × Nat)}
    (hown : s.vm.findClass own = some m.cls) (hlink : (Cond.methodLink own index y).before args s = true) (hinst : (Cond.instanceMethod y).before args s = true) (hsel : (Cond.selects C y y).before args s = true)
    (hcode : (Cond.codeWith y bytes maxL ret hh).before args s = true) (hy : y.cls ≠ "java/lang/invoke/MethodHandle" ∧ y.cls ≠ "java/lang/invoke/VarHandle")
    {W9 : Nat} {Pre : Pt → Array Value → Prop} {Post : Pt → Array Value → Option Value → Pt → Prop} {PostX : Pt → Array Value → Addr → Pt → Prop} (hK : vx_Back l R p e below s args y 3 W9 Pre Post PostX)
    {b : Addr} {cellB : Cell} (hcell : T.heap[b]? = some cellB) (hobj : cellB.vm.isStatics = false) (hcls : s.vm.findClass C = some cellB.cls)
    {g : JFrame} (hg : g.method = m) (hsize : g.locals.size = c.maxLocals) {argsL rest : List Value} (hlen : ∀ sig, parseMethodDescriptor y.desc = some sig → argsL.length = sig.parameters.length)
    (hstack : g.stack = argsL.reverse ++ .ref b :: rest) (hW : 2 * g.monitorRoom + (rest.map fun v => v.category).sum ≤ W9) (hdg : decode c.code g.pc = .ok (.invokevirtual index, 3))
    (hpre : ∀ vm₁, s.WarmedH vm₁ → Pre ⟨T.setVm vm₁, locs, cells, slots⟩ (Value.ref b :: argsL).toArray) :
    (∃ (v : Option Value) (vm₁ : Vm) (B : Pt), s.WarmedH vm₁ ∧ Stand p l e R s m args below meth c B.U B.locs B.cells B.slots ∧ Post ⟨T.setVm vm₁, locs, cells, slots⟩ (Value.ref b :: argsL).toArray v B ∧
      ∀ target, Steps p.tables e below (B.U.setTop { g with pc := g.pc + 3, stack := v.toList ++ rest }) target → Steps p.tables e below (T.setTop g) target) ∨
    (∃ (q : Addr) (vm₁ : Vm) (B : Pt), s.WarmedH vm₁ ∧ Stand p l e R s m args below meth c B.U B.locs B.cells B.slots ∧ PostX ⟨T.setVm vm₁, locs, cells, slots⟩ (Value.ref b :: argsL).toArray q B ∧
      Steps p.tables e below (T.setTop g) ((B.U.setTop { g with stack := rest }).pushFrame (.throwing q))) := by
  obtain ⟨mk, methM, hnamed, hmethM, hstM, habM⟩ := Cond.instanceMethod_spec hinst
  obtain ⟨m8, methM', cM, hn8, hmethM', -, -, -, -, -, -, hsigM⟩ := Cond.codeWith_spec hcode
  cases Option.some.inj (hn8.symm.trans hnamed)
  cases hmethM.symm.trans hmethM'
  obtain ⟨c2, r2, m2, q1, q2, q3, q4, kP, hkP, hkPi⟩ := Cond.selects_spec hsel
  cases hcls.symm.trans q1
  cases (State.methodFound?_of_named hnamed hy).symm.trans q2
  cases hnamed.symm.trans q3
  have hselP : selectMethod e.platform s.vm cellB.cls mk = .method mk := by rw [Launch.admits_selectMethod X.admits]; exact q4
  obtain ⟨vm₁, X₁, hstep₁⟩ := X.invokevirtual hexec hown hlink hnamed hmethM hstM hkP hkPi hy (a := b) (cell := cellB) hcell
    (fun z h => by rw [h] at hobj; cases hobj) hselP hmethM habM hkP hkPi (g := g) hg (argsL := argsL) (rest := rest) (hlen _ hsigM) hstack hdg
  rcases hK m meth c ⟨T.setVm vm₁, locs, cells, slots⟩ { g with stack := rest } (.invokevirtual index) mk (Value.ref b :: argsL).toArray X₁ hg hsize hdg hW (X₁.named hnamed) (hpre vm₁ X₁.warmed) with ⟨v, B, X', hpost, hsteps⟩ | ⟨q, B, X', hpost, hsteps⟩
  · exact Or.inl ⟨v, vm₁, B, X₁.warmed, X', hpost, fun target h => hstep₁ _ fun acts => by rw [doInvoke_state]; exact hsteps.trans h⟩
  · exact Or.inr ⟨q, vm₁, B, X₁.warmed, X', hpost, hstep₁ _ fun acts => by rw [doInvoke_state]; exact hsteps⟩
theorem vx_callSX (X : Stand p l e R s m args below meth c T locs cells slots) (hexec : p.tables.exec = Jvm.exec) {own : String} {index : Nat} {y : MethodName} {bytes : ByteArray} {maxL : Nat} {ret : Option FieldType} {hh : List (Nat × Nat × Nat × Nat)}
    (hown : s.vm.findClass own = some m.cls) (hlink : (Cond.methodLink own index y).before args s = true) (hstat : (Cond.static y).before args s = true) (hinit : (Cond.initialized y.cls).before args s = true)
    (hcode : (Cond.codeWith y bytes maxL ret hh).before args s = true) (hy : y.cls ≠ "java/lang/invoke/MethodHandle" ∧ y.cls ≠ "java/lang/invoke/VarHandle")
    {W9 : Nat} {Pre : Pt → Array Value → Prop} {Post : Pt → Array Value → Option Value → Pt → Prop} {PostX : Pt → Array Value → Addr → Pt → Prop} (hK : vx_Back l R p e below s args y 3 W9 Pre Post PostX)
    {g : JFrame} (hg : g.method = m) (hsize : g.locals.size = c.maxLocals) {argsL rest : List Value} (hlen : ∀ sig, parseMethodDescriptor y.desc = some sig → argsL.length = sig.parameters.length)
    (hstack : g.stack = argsL.reverse ++ rest) (hW : 2 * g.monitorRoom + (rest.map fun v => v.category).sum ≤ W9) (hdg : decode c.code g.pc = .ok (.invokestatic index, 3))
    (hpre : ∀ vm₁, s.WarmedH vm₁ → Pre ⟨T.setVm vm₁, locs, cells, slots⟩ argsL.toArray) :
    (∃ (v : Option Value) (vm₁ : Vm) (B : Pt), s.WarmedH vm₁ ∧ Stand p l e R s m args below meth c B.U B.locs B.cells B.slots ∧ Post ⟨T.setVm vm₁, locs, cells, slots⟩ argsL.toArray v B ∧
      ∀ target, Steps p.tables e below (B.U.setTop { g with pc := g.pc + 3, stack := v.toList ++ rest }) target → Steps p.tables e below (T.setTop g) target) ∨
    (∃ (q : Addr) (vm₁ : Vm) (B : Pt), s.WarmedH vm₁ ∧ Stand p l e R s m args below meth c B.U B.locs B.cells B.slots ∧ PostX ⟨T.setVm vm₁, locs, cells, slots⟩ argsL.toArray q B ∧
      Steps p.tables e below (T.setTop g) ((B.U.setTop { g with stack := rest }).pushFrame (.throwing q))) := by
  obtain ⟨mk, methM, cM, hnamed, hmethM, -, -, -, -, -, -, hsigM⟩ := Cond.codeWith_spec hcode
  have hstatic : methM.isStatic = true := Cond.static_spec hnamed hmethM hstat
  obtain ⟨kP, hkP, -⟩ := className_of_methodNamed hnamed
  have hinitP : kP.init = .initialized := Cond.initialized_spec (findClass_of_methodNamed hnamed) hkP hinit
  obtain ⟨vm₁, X₁, hstep₁⟩ := X.invokestatic hexec hown hlink hnamed hmethM hstatic hkP hinitP hy (g := g) hg (argsL := argsL) (rest := rest) (hlen _ hsigM) hstack hdg
  rcases hK m meth c ⟨T.setVm vm₁, locs, cells, slots⟩ { g with stack := rest } (.invokestatic index) mk argsL.toArray X₁ hg hsize hdg hW (X₁.named hnamed) (hpre vm₁ X₁.warmed) with ⟨v, B, X', hpost, hsteps⟩ | ⟨q, B, X', hpost, hsteps⟩
  · exact Or.inl ⟨v, vm₁, B, X₁.warmed, X', hpost, fun target h => hstep₁ _ fun acts => by rw [doInvoke_state]; exact hsteps.trans h⟩
  · exact Or.inr ⟨q, vm₁, B, X₁.warmed, X', hpost, hstep₁ _ fun acts => by rw [doInvoke_state]; exact hsteps⟩
theorem vx_callVW (X : Stand p l e R s m args below meth c T locs cells slots) (hexec : p.tables.exec = Jvm.exec) {own C : String} {index : Nat} {y : MethodName} {bytes : ByteArray} {maxL : Nat} {ret : Option FieldType} {hh : List (Nat × Nat × Nat × Nat)}
    (hown : s.vm.findClass own = some m.cls) (hlink : (Cond.methodLink own index y).before args s = true) (hinst : (Cond.instanceMethod y).before args s = true) (hsel : (Cond.selects C y y).before args s = true)
    (hcode : (Cond.codeWith y bytes maxL ret hh).before args s = true) (hy : y.cls ≠ "java/lang/invoke/MethodHandle" ∧ y.cls ≠ "java/lang/invoke/VarHandle")
    {W9 : Nat} {Pre : Pt → Array Value → Prop} {Post : Pt → Array Value → Option Value → Pt → Prop} (hK : Back l R p e below s args y 3 W9 Pre Post)
    {b : Addr} {cellB : Cell} (hcell : T.heap[b]? = some cellB) (hobj : cellB.vm.isStatics = false) (hcls : s.vm.findClass C = some cellB.cls)
    {g : JFrame} (hg : g.method = m) (hsize : g.locals.size = c.maxLocals) {argsL rest : List Value} (hlen : ∀ sig, parseMethodDescriptor y.desc = some sig → argsL.length = sig.parameters.length)
    (hstack : g.stack = argsL.reverse ++ .ref b :: rest) (hW : 2 * g.monitorRoom + (rest.map fun v => v.category).sum ≤ W9) (hdg : decode c.code g.pc = .ok (.invokevirtual index, 3))
    (hpre : ∀ vm₁, s.WarmedH vm₁ → Pre ⟨T.setVm vm₁, locs, cells, slots⟩ (Value.ref b :: argsL).toArray) :
    ∃ (v : Option Value) (vm₁ : Vm) (B : Pt), s.WarmedH vm₁ ∧ Stand p l e R s m args below meth c B.U B.locs B.cells B.slots ∧ Post ⟨T.setVm vm₁, locs, cells, slots⟩ (Value.ref b :: argsL).toArray v B ∧
      ∀ target, Steps p.tables e below (B.U.setTop { g with pc := g.pc + 3, stack := v.toList ++ rest }) target → Steps p.tables e below (T.setTop g) target := by
  obtain ⟨mk, methM, hnamed, hmethM, hstM, habM⟩ := Cond.instanceMethod_spec hinst
  obtain ⟨m8, methM', cM, hn8, hmethM', -, -, -, -, -, -, hsigM⟩ := Cond.codeWith_spec hcode
  cases Option.some.inj (hn8.symm.trans hnamed)
  cases hmethM.symm.trans hmethM'
  obtain ⟨c2, r2, m2, q1, q2, q3, q4, kP, hkP, hkPi⟩ := Cond.selects_spec hsel
  cases hcls.symm.trans q1
  cases (State.methodFound?_of_named hnamed hy).symm.trans q2
  cases hnamed.symm.trans q3
  have hselP : selectMethod e.platform s.vm cellB.cls mk = .method mk := by rw [Launch.admits_selectMethod X.admits]; exact q4
  obtain ⟨vm₁, X₁, hstep₁⟩ := X.invokevirtual hexec hown hlink hnamed hmethM hstM hkP hkPi hy (a := b) (cell := cellB) hcell
    (fun z h => by rw [h] at hobj; cases hobj) hselP hmethM habM hkP hkPi (g := g) hg (argsL := argsL) (rest := rest) (hlen _ hsigM) hstack hdg
  obtain ⟨v, B, X', hpost, hsteps⟩ := hK m meth c ⟨T.setVm vm₁, locs, cells, slots⟩ { g with stack := rest } (.invokevirtual index) mk (Value.ref b :: argsL).toArray X₁ hg hsize hdg hW (X₁.named hnamed) (hpre vm₁ X₁.warmed)
  exact ⟨v, vm₁, B, X₁.warmed, X', hpost, fun target h => hstep₁ _ fun acts => by rw [doInvoke_state]; exact hsteps.trans h⟩
abbrev vx_CVW (R : Room) (s : State) (args : Array Value) (own C : String) (index : Nat) (y : MethodName) (bytes : ByteArray) (maxL : Nat) (ret : Option FieldType) (hh : List (Nat × Nat × Nat × Nat)) (ws : List Cond) (rm : Room) (mc ms n : Nat) : Prop :=
  (rm.cells = mc ∧ rm.slots = ms ∧ rm.frames + 1 ≤ R.frames ∧ 8 + (maxL + 11) + rm.locals ≤ R.locals ∧ (∀ w ∈ ws, ∀ (a' : Array Value) (U : State), s.WarmedH U.vm → w.before a' U = true) ∧ Cond.codeWith y bytes maxL ret hh ∈ ws) ∧
  (Cond.codeWith y bytes maxL ret hh).before args s = true ∧ (Cond.initialized y.cls).before args s = true ∧ (y.cls ≠ "java/lang/invoke/MethodHandle" ∧ y.cls ≠ "java/lang/invoke/VarHandle") ∧
  (∀ sig, parseMethodDescriptor y.desc = some sig → n = sig.parameters.length) ∧ (Cond.methodLink own index y).before args s = true ∧ (Cond.instanceMethod y).before args s = true ∧ (Cond.selects C y y).before args s = true
theorem vx_cwVW {own C : String} {index maxL mc ms : Nat} {y : MethodName} {bytes : ByteArray} {ret : Option FieldType} {hh : List (Nat × Nat × Nat × Nat)} {Ts ws ws' : List Cond} {rm : Room} (n : Nat) (ht : ∀ w ∈ Ts, w.before args s = true) (hT : GoodIn Ts (wsV own index C y ws)) (hw : ws = Cond.codeWith y bytes maxL ret hh :: ws') (hrc : rm.cells = mc) (hrs : rm.slots = ms)
    (hd : y.cls = C ∧ y.cls ≠ "java/lang/invoke/MethodHandle" ∧ y.cls ≠ "java/lang/invoke/VarHandle" ∧ (parseMethodDescriptor y.desc).map (fun d => d.parameters.length) = some n) (hR : rm.frames + 1 ≤ R.frames ∧ 8 + (maxL + 11) + rm.locals ≤ R.locals) :
    vx_CVW R s args own C index y bytes maxL ret hh ws rm mc ms n := by
  obtain ⟨hC, hd⟩ := hd
  subst hC
  have ok : ∀ w ∈ wsV own index y.cls y ws, w.before args s = true := fun w h => ht w (hT w h).1
  have hG : GoodIn Ts ws := fun w h => hT w (by unfold wsV; exact List.mem_append_right _ h)
  have hc : Cond.codeWith y bytes maxL ret hh ∈ ws := by rw [hw]; exact List.mem_cons_self
  refine ⟨⟨hrc, hrs, hR.1, hR.2, pay_in ht hG, hc⟩, ht _ (hG _ hc).1, ok _ (by simp [wsV]), ⟨hd.1, hd.2.1⟩, fun sig h => ?_, ok _ (by simp [wsV]), ok _ (by simp [wsV]), ok _ (by simp [wsV])⟩
  have h2 := hd.2.2
  rw [h] at h2
  exact (Option.some.inj h2).symm
theorem vx_runVW {y : MethodName} {bytes cc : ByteArray} {maxL nL mc ms n index : Nat} {ret : Option FieldType} {hh : List (Nat × Nat × Nat × Nat)} {ws : List Cond} {rm : Room} {Pc : Array Value → State → Prop} {Qc : Array Value → State → Outcome → State → Prop} {free : Addr → Prop} {Ts : List Cond} {own C : String} {b : Addr} {As rest : List Value} {g : JFrame}
    (S : CallFix p m c cc nL s args Ts own) (hM : Met l y ws rm Pc Qc mc ms free) (cw : vx_CVW R s args own C index y bytes maxL ret hh ws rm mc ms n) (hp : PreV s H C b Pc As)
    (hg : g.method = m) (hn : As.length = n) (hsize : g.locals.size = nL) (hstack : g.stack = As.reverse ++ .ref b :: rest) (hW : 2 * g.monitorRoom + (rest.map fun v => v.category).sum ≤ 8) (hdg : decode cc g.pc = .ok (.invokevirtual index, 3)) (hf : cells + mc ≤ R.cells ∧ slots + ms ≤ R.slots) :
    va_Run p l e R s m args below meth c H locs cells slots mc ms g rest (Qc (Value.ref b :: As).toArray) free := by
  obtain ⟨⟨hrc, hrs, hfr, hlo, hws, hcw⟩, hcode, hini, hy, hlen, hl, hin, hse⟩ := cw
  have hK : Back l R p e below s args y 3 8 (PreOf R mc ms Pc) (PostOf Qc mc ms free) := va_backW (hh := hh) (bytes := bytes) (maxL := maxL) (ret := ret) hM hp.1 hrc hrs hfr hlo hws hcw (fun a' U hW => word_at hW (Or.inl (by first | rfl | simp [Cond.onTables, Cond.keeps, Cond.steady])) hini)
  obtain ⟨hx, hb, hml, ho, -⟩ := S
  obtain ⟨-, ⟨cellB, hcB, hoB, hclB⟩, hPc⟩ := hp
  intro T hT X
  obtain ⟨v, vm₁, ⟨U', l2, c2, s2⟩, hW₁, X', ⟨g', mk, t, L, e1, e2, hq, h1, hL, h2, h3⟩, st⟩ := vx_callVW X hx (C := C) (hh := hh) (bytes := bytes) (maxL := maxL) (ret := ret) ho hl hin hse hcode hy hK (by rw [hT]; exact hcB) hoB hclB hg (hsize.trans hml.symm) (argsL := As) (rest := rest) (fun sig h => hn.trans (hlen sig h)) hstack hW (by rw [hb]; exact hdg)
    (fun vm₁ hW₁ => ⟨hf.1, hf.2, hPc (T.setVm vm₁) hT hW₁⟩)
  dsimp only [Pt.U, Pt.locs, Pt.cells, Pt.slots] at X' e1 e2 h1 h2 h3 st
  subst h1; subst h2; subst h3
  exact ⟨v, (T.setVm vm₁).calling g' mk (Value.ref b :: As).toArray, t, U', L, hT, X', hL, e1, e2, hq, st⟩
section
variable {y : MethodName} {bytes cc : ByteArray} {maxL nL mc ms n index : Nat} {ret : Option FieldType} {ws : List Cond} {rm : Room} {Pc : Array Value → State → Prop} {Qc : Array Value → State → Outcome → State → Prop} {XC : String → State → State → Prop} {free : Addr → Prop} {Ts : List Cond} {own C : String} {b : Addr} {As rest : List Value} {g : JFrame}
theorem vx_runVX {hh : List (Nat × Nat × Nat × Nat)} (S : CallFix p m c cc nL s args Ts own) (hM : vx_Met l y ws rm Pc Qc XC mc ms free) (cw : vx_CVW R s args own C index y bytes maxL ret hh ws rm mc ms n) (hp : PreV s H C b Pc As)
    (hg : g.method = m) (hn : As.length = n) (hsize : g.locals.size = nL) (hstack : g.stack = As.reverse ++ .ref b :: rest) (hW : 2 * g.monitorRoom + (rest.map fun v => v.category).sum ≤ 8) (hdg : decode cc g.pc = .ok (.invokevirtual index, 3)) (hf : cells + mc ≤ R.cells ∧ slots + ms ≤ R.slots) :
    vx_Run p l e R s m args below meth c H locs cells slots mc ms g rest (Qc (Value.ref b :: As).toArray) XC free := by
  obtain ⟨⟨hrc, hrs, hfr, hlo, hws, hcw⟩, hcode, hini, hy, hlen, hl, hin, hse⟩ := cw
  have hK : vx_Back l R p e below s args y 3 8 (PreOf R mc ms Pc) (PostOf Qc mc ms free) (vx_Post XC mc ms free) := vx_backW (hh := hh) (bytes := bytes) (maxL := maxL) (ret := ret) hM hp.1 hrc hrs hfr hlo hws hcw (fun a' U hW => word_at hW (Or.inl (by first | rfl | simp [Cond.onTables, Cond.keeps, Cond.steady])) hini)
  obtain ⟨hx, hb, hml, ho, -⟩ := S
  obtain ⟨-, ⟨cellB, hcB, hoB, hclB⟩, hPc⟩ := hp
  intro T hT X
  rcases vx_callVX X hx (C := C) (hh := hh) (bytes := bytes) (maxL := maxL) (ret := ret) ho hl hin hse hcode hy hK (by rw [hT]; exact hcB) hoB hclB hg (hsize.trans hml.symm) (argsL := As) (rest := rest) (fun sig h => hn.trans (hlen sig h)) hstack hW (by rw [hb]; exact hdg)
    (fun vm₁ hW₁ => ⟨hf.1, hf.2, hPc (T.setVm vm₁) hT hW₁⟩) with ⟨v, vm₁, ⟨U', l2, c2, s2⟩, hW₁, X', ⟨g', mk, t, L, e1, e2, hq, h1, hL, h2, h3⟩, st⟩ | ⟨q, vm₁, ⟨U', l2, c2, s2⟩, hW₁, X', ⟨g', mk, t, L, E, ce, e1, e2, hq, hce, hcv, hcl, h1, hL, h2, h3⟩, st⟩
  · dsimp only [Pt.U, Pt.locs, Pt.cells, Pt.slots] at X' e1 e2 h1 h2 h3 st
    subst h1; subst h2; subst h3
    exact Or.inl ⟨v, (T.setVm vm₁).calling g' mk (Value.ref b :: As).toArray, t, U', L, hT, X', hL, e1, e2, hq, st⟩
  · dsimp only [Pt.U, Pt.locs, Pt.cells, Pt.slots] at X' e1 e2 h1 h2 h3 st hcl
    subst h1; subst h2; subst h3
    exact Or.inr ⟨q, (T.setVm vm₁).calling g' mk (Value.ref b :: As).toArray, t, U', L, E, ce, hT, X', hL, e1, e2, hq, hce, hcv, vx_cls hW₁ hcl, st⟩
theorem vx_runSX {hh : List (Nat × Nat × Nat × Nat)} (S : CallFix p m c cc nL s args Ts own) (hM : vx_Met l y ws rm Pc Qc XC mc ms free) (cw : vx_CSW R s args own index y bytes maxL ret hh ws rm mc ms n) (hp : PreS s H Pc As)
    (hg : g.method = m) (hn : As.length = n) (hsize : g.locals.size = nL) (hstack : g.stack = As.reverse ++ rest) (hW : 2 * g.monitorRoom + (rest.map fun v => v.category).sum ≤ 8) (hdg : decode cc g.pc = .ok (.invokestatic index, 3)) (hf : cells + mc ≤ R.cells ∧ slots + ms ≤ R.slots) :
    vx_Run p l e R s m args below meth c H locs cells slots mc ms g rest (Qc As.toArray) XC free := by
  obtain ⟨⟨hrc, hrs, hfr, hlo, hws, hcw⟩, hcode, hini, hy, hlen, hl, hstt⟩ := cw
  have hK : vx_Back l R p e below s args y 3 8 (PreOf R mc ms Pc) (PostOf Qc mc ms free) (vx_Post XC mc ms free) := vx_backW (hh := hh) (bytes := bytes) (maxL := maxL) (ret := ret) hM hp.1 hrc hrs hfr hlo hws hcw (fun a' U hW => word_at hW (Or.inl (by first | rfl | simp [Cond.onTables, Cond.keeps, Cond.steady])) hini)
  obtain ⟨hx, hb, hml, ho, -⟩ := S
  intro T hT X
  rcases vx_callSX X hx (hh := hh) (bytes := bytes) (maxL := maxL) (ret := ret) ho hl hstt hini hcode hy hK hg (hsize.trans hml.symm) (argsL := As) (rest := rest) (fun sig h => hn.trans (hlen sig h)) hstack hW (by rw [hb]; exact hdg)
    (fun vm₁ hW₁ => ⟨hf.1, hf.2, hp.2 (T.setVm vm₁) hT hW₁⟩) with ⟨v, vm₁, ⟨U', l2, c2, s2⟩, hW₁, X', ⟨g', mk, t, L, e1, e2, hq, h1, hL, h2, h3⟩, st⟩ | ⟨q, vm₁, ⟨U', l2, c2, s2⟩, hW₁, X', ⟨g', mk, t, L, E, ce, e1, e2, hq, hce, hcv, hcl, h1, hL, h2, h3⟩, st⟩
  · dsimp only [Pt.U, Pt.locs, Pt.cells, Pt.slots] at X' e1 e2 h1 h2 h3 st
    subst h1; subst h2; subst h3
    exact Or.inl ⟨v, (T.setVm vm₁).calling g' mk As.toArray, t, U', L, hT, X', hL, e1, e2, hq, st⟩
  · dsimp only [Pt.U, Pt.locs, Pt.cells, Pt.slots] at X' e1 e2 h1 h2 h3 st hcl
    subst h1; subst h2; subst h3
    exact Or.inr ⟨q, (T.setVm vm₁).calling g' mk As.toArray, t, U', L, E, ce, hT, X', hL, e1, e2, hq, hce, hcv, vx_cls hW₁ hcl, st⟩
end
end VXH
theorem vx_ofWH {l : Launch} {y : MethodName} {ws ws' : List Cond} {rm : Room} {Pc : Array Value → State → Prop} {Qc : Array Value → State → Outcome → State → Prop} {XC : String → State → State → Prop} {mc ms : Nat} {free : Addr → Prop} {cc : ByteArray} {maxL : Nat} {ret : Option FieldType} {hh : List (Nat × Nat × Nat × Nat)}
    (hy : plainName y.cls = true) (hw : ws = Cond.codeWith y cc maxL ret hh :: ws')
    (body : ∀ p e s m args below meth c s₁, BodyLoose p l y (headSpec ws rm) cc maxL ret e s m args below meth c s₁ → c.maxLocals = maxL → Pc args s →
      W p l e (headSpec ws rm).room s m args below meth c s.heap [] 0 0 (vx_MQ below Qc XC args s mc ms free) (entryFrame m args maxL)) : vx_Met l y ws rm Pc Qc XC mc ms free := by
  refine MetFree.of_bodyS (code := cc) (maxLocals := maxL) (ret := ret) hy ?_ ?_
  · intro args s m h hn
    obtain ⟨m9, meth, c, hn9, h1, h2, h3, h4, -, h5, h6, -⟩ := Cond.codeWith_spec (atoms_spec (ws := ws) h _ (by rw [hw]; exact List.mem_cons_self))
    cases hn.symm.trans hn9
    exact ⟨meth, c, h1, h2, h3, h4, h5, h6⟩
  · intro p e s m args below meth c s₁ B hml hP _
    have hh0 : s₁.heap = s.heap := by rw [B.state]; rfl
    obtain ⟨t, a1, o, b1, b2, b3⟩ := body p e s m args below meth c s₁ B hml hP s₁ hh0 (Stand.of_body B)
    exact ⟨t, o, a1, b1, b2, b3⟩
/-! ===== END ===== -/
end
section
def RX0 : String := "CompostKeys$Accounts"
def TX0 : u_T := fun k => match k with
  | 0 => ("CompostKeys$Accounts", "given", "[I", true)
  | 1 => ("CompostKeys$Accounts", "deleted", "[I", true)
  | 2 => ("CompostKeys$Accounts", "broughtBack", "[I", true)
  | 3 => ("CompostKeys$Accounts", "without", "[I", true)
  | 4 => ("CompostKeys$Accounts", "tooSoon", "[I", true)
  | 5 => ("CompostKeys$Accounts", "followed", "I", false)
  | 6 => ("CompostKeys$Accounts", "mistakes", "I", false)
  | _ => ("CompostKeys$Accounts", "dead", "I", false)
def tyX0 : Nat → FieldType := fun k => match k with
  | 0 => .array .int
  | 1 => .array .int
  | 2 => .array .int
  | 3 => .array .int
  | 4 => .array .int
  | 5 => .int
  | 6 => .int
  | _ => .int
theorem nmX0 : ∀ a, a < 8 → ∀ b, b < 8 → a ≠ b → (TX0 a).2.1 ≠ (TX0 b).2.1 := by decide +kernel
theorem tyX0_ok : ∀ k, k < 8 → parseFieldDescriptor (TX0 k).2.2.1 = some (tyX0 k) := by decide +kernel
abbrev cX0_init : ByteArray := prog_2_method_1_code
def yX0_init : MethodName := ⟨RX0, "<init>", "()V"⟩
abbrev cX0_copyFrom : ByteArray := prog_2_method_2_code
def yX0_copyFrom : MethodName := ⟨RX0, "copyFrom", "(LCompostKeys$Accounts;)V"⟩
abbrev cX0_noteWithout : ByteArray := prog_2_method_3_code
def yX0_noteWithout : MethodName := ⟨RX0, "noteWithout", "(II)V"⟩
abbrev cX0_noteFollowed : ByteArray := prog_2_method_4_code
def yX0_noteFollowed : MethodName := ⟨RX0, "noteFollowed", "(I)V"⟩
abbrev cX0_aliveByAccount : ByteArray := prog_2_method_5_code
def yX0_aliveByAccount : MethodName := ⟨RX0, "aliveByAccount", "()I"⟩
def RX1 : String := "CompostKeys$Compost"
def TX1 : u_T := fun k => match k with
  | 0 => ("CompostKeys$Compost", "keys", "LCompostKeys$Keys;", true)
  | 1 => ("CompostKeys$Compost", "accounts", "LCompostKeys$Accounts;", true)
  | _ => ("CompostKeys$Compost", "settings", "[I", true)
def tyX1 : Nat → FieldType := fun k => match k with
  | 0 => .object "CompostKeys$Keys"
  | 1 => .object "CompostKeys$Accounts"
  | _ => .array .int
theorem nmX1 : ∀ a, a < 3 → ∀ b, b < 3 → a ≠ b → (TX1 a).2.1 ≠ (TX1 b).2.1 := by decide +kernel
theorem tyX1_ok : ∀ k, k < 3 → parseFieldDescriptor (TX1 k).2.2.1 = some (tyX1 k) := by decide +kernel
abbrev cX1_init : ByteArray := prog_3_method_1_code
def yX1_init : MethodName := ⟨RX1, "<init>", "()V"⟩
abbrev cX1_copyState : ByteArray := prog_3_method_2_code
def yX1_copyState : MethodName := ⟨RX1, "copyState", "(LCompostKeys$Compost;LCompostKeys$Compost;)V"⟩
abbrev cX1_answerToRow : ByteArray := prog_3_method_3_code
def yX1_answerToRow : MethodName := ⟨RX1, "answerToRow", "(I)I"⟩
abbrev cX1_serveRow : ByteArray := prog_3_method_4_code
def yX1_serveRow : MethodName := ⟨RX1, "serveRow", "(I)I"⟩
abbrev cX1_serveWish : ByteArray := prog_3_method_5_code
def yX1_serveWish : MethodName := ⟨RX1, "serveWish", "(II)I"⟩
abbrev cX1_reasonAgainst : ByteArray := prog_3_method_6_code
def yX1_reasonAgainst : MethodName := ⟨RX1, "reasonAgainst", "(II)I"⟩
abbrev cX1_giveKey : ByteArray := prog_3_method_7_code
def yX1_giveKey : MethodName := ⟨RX1, "giveKey", "(II)V"⟩
abbrev cX1_canDelete : ByteArray := prog_3_method_8_code
def yX1_canDelete : MethodName := ⟨RX1, "canDelete", "(II)Z"⟩
abbrev cX1_deleteRow : ByteArray := prog_3_method_9_code
def yX1_deleteRow : MethodName := ⟨RX1, "deleteRow", "(II)I"⟩
abbrev cX1_canBringBack : ByteArray := prog_3_method_10_code
def yX1_canBringBack : MethodName := ⟨RX1, "canBringBack", "(II)Z"⟩
abbrev cX1_bringRowBack : ByteArray := prog_3_method_11_code
def yX1_bringRowBack : MethodName := ⟨RX1, "bringRowBack", "(II)I"⟩
abbrev cX1_followReference : ByteArray := prog_3_method_12_code
def yX1_followReference : MethodName := ⟨RX1, "followReference", "(III)I"⟩
abbrev cX1_keyOfRow : ByteArray := prog_3_method_13_code
def yX1_keyOfRow : MethodName := ⟨RX1, "keyOfRow", "(II)I"⟩
abbrev cX1_propertyOfKind : ByteArray := prog_3_method_14_code
def yX1_propertyOfKind : MethodName := ⟨RX1, "propertyOfKind", "(II)I"⟩
def RX2 : String := "CompostKeys$DaysText"
def TX2 : u_T := fun k => match k with
  | 0 => ("CompostKeys$DaysText", "codes", "[I", true)
  | _ => ("CompostKeys$DaysText", "length", "I", false)
def tyX2 : Nat → FieldType := fun k => match k with
  | 0 => .array .int
  | _ => .int
theorem nmX2 : ∀ a, a < 2 → ∀ b, b < 2 → a ≠ b → (TX2 a).2.1 ≠ (TX2 b).2.1 := by decide +kernel
theorem tyX2_ok : ∀ k, k < 2 → parseFieldDescriptor (TX2 k).2.2.1 = some (tyX2 k) := by decide +kernel
abbrev cX2_init : ByteArray := prog_4_method_1_code
def yX2_init : MethodName := ⟨RX2, "<init>", "()V"⟩
abbrev cX2_isFull : ByteArray := prog_4_method_2_code
def yX2_isFull : MethodName := ⟨RX2, "isFull", "()Z"⟩
abbrev cX2_add : ByteArray := prog_4_method_3_code
def yX2_add : MethodName := ⟨RX2, "add", "(I)V"⟩
abbrev cX2_codeAt : ByteArray := prog_4_method_4_code
def yX2_codeAt : MethodName := ⟨RX2, "codeAt", "(I)I"⟩
abbrev cX2_errorAt : ByteArray := prog_4_method_5_code
def yX2_errorAt : MethodName := ⟨RX2, "errorAt", "()I"⟩
abbrev cX2_tellsDays : ByteArray := prog_4_method_6_code
def yX2_tellsDays : MethodName := ⟨RX2, "tellsDays", "()Z"⟩
abbrev cX2_mayEnd : ByteArray := prog_4_method_7_code
def yX2_mayEnd : MethodName := ⟨RX2, "mayEnd", "(I)Z"⟩
abbrev cX2_stateBehind : ByteArray := prog_4_method_8_code
def yX2_stateBehind : MethodName := ⟨RX2, "stateBehind", "(II)I"⟩
abbrev cX2_stateBehindVerb : ByteArray := prog_4_method_9_code
def yX2_stateBehindVerb : MethodName := ⟨RX2, "stateBehindVerb", "(I)I"⟩
abbrev cX2_isDigit : ByteArray := prog_4_method_10_code
def yX2_isDigit : MethodName := ⟨RX2, "isDigit", "(I)Z"⟩
abbrev cX2_beginsOrder : ByteArray := prog_4_method_11_code
def yX2_beginsOrder : MethodName := ⟨RX2, "beginsOrder", "(I)Z"⟩
abbrev cX2_numberAt : ByteArray := prog_4_method_12_code
def yX2_numberAt : MethodName := ⟨RX2, "numberAt", "(I)I"⟩
def RX3 : String := "CompostKeys$Keys"
def TX3 : u_T := fun k => match k with
  | 0 => ("CompostKeys$Keys", "day", "I", false)
  | 1 => ("CompostKeys$Keys", "seasons", "[I", true)
  | 2 => ("CompostKeys$Keys", "status", "[I", true)
  | 3 => ("CompostKeys$Keys", "rounds", "[I", true)
  | 4 => ("CompostKeys$Keys", "places", "[I", true)
  | _ => ("CompostKeys$Keys", "since", "[I", true)
def tyX3 : Nat → FieldType := fun k => match k with
  | 0 => .int
  | 1 => .array .int
  | 2 => .array .int
  | 3 => .array .int
  | 4 => .array .int
  | _ => .array .int
theorem nmX3 : ∀ a, a < 6 → ∀ b, b < 6 → a ≠ b → (TX3 a).2.1 ≠ (TX3 b).2.1 := by decide +kernel
theorem tyX3_ok : ∀ k, k < 6 → parseFieldDescriptor (TX3 k).2.2.1 = some (tyX3 k) := by decide +kernel
abbrev cX3_init : ByteArray := prog_5_method_1_code
def yX3_init : MethodName := ⟨RX3, "<init>", "()V"⟩
abbrev cX3_copyFrom : ByteArray := prog_5_method_2_code
def yX3_copyFrom : MethodName := ⟨RX3, "copyFrom", "(LCompostKeys$Keys;)V"⟩
abbrev cX3_statusOf : ByteArray := prog_5_method_3_code
def yX3_statusOf : MethodName := ⟨RX3, "statusOf", "(II)I"⟩
abbrev cX3_roundOf : ByteArray := prog_5_method_4_code
def yX3_roundOf : MethodName := ⟨RX3, "roundOf", "(II)I"⟩
abbrev cX3_daysLain : ByteArray := prog_5_method_5_code
def yX3_daysLain : MethodName := ⟨RX3, "daysLain", "(II)I"⟩
abbrev cX3_daysToRipe : ByteArray := prog_5_method_6_code
def yX3_daysToRipe : MethodName := ⟨RX3, "daysToRipe", "(II)I"⟩
abbrev cX3_isRipe : ByteArray := prog_5_method_7_code
def yX3_isRipe : MethodName := ⟨RX3, "isRipe", "(II)Z"⟩
abbrev cX3_canBeGiven : ByteArray := prog_5_method_8_code
def yX3_canBeGiven : MethodName := ⟨RX3, "canBeGiven", "(II)Z"⟩
abbrev cX3_give : ByteArray := prog_5_method_9_code
def yX3_give : MethodName := ⟨RX3, "give", "(II)V"⟩
abbrev cX3_revive : ByteArray := prog_5_method_10_code
def yX3_revive : MethodName := ⟨RX3, "revive", "(II)V"⟩
abbrev cX3_wearOut : ByteArray := prog_5_method_11_code
def yX3_wearOut : MethodName := ⟨RX3, "wearOut", "(II)V"⟩
abbrev cX3_layOnTop : ByteArray := prog_5_method_12_code
def yX3_layOnTop : MethodName := ⟨RX3, "layOnTop", "(II)V"⟩
abbrev cX3_takeOut : ByteArray := prog_5_method_13_code
def yX3_takeOut : MethodName := ⟨RX3, "takeOut", "(II)V"⟩
abbrev cX3_turnPile : ByteArray := prog_5_method_14_code
def yX3_turnPile : MethodName := ⟨RX3, "turnPile", "(I)V"⟩
abbrev cX3_keyAt : ByteArray := prog_5_method_15_code
def yX3_keyAt : MethodName := ⟨RX3, "keyAt", "(II)I"⟩
abbrev cX3_draw : ByteArray := prog_5_method_16_code
def yX3_draw : MethodName := ⟨RX3, "draw", "(III)I"⟩
abbrev cX3_rankByRule : ByteArray := prog_5_method_17_code
def yX3_rankByRule : MethodName := ⟨RX3, "rankByRule", "(III)I"⟩
abbrev cX3_judge : ByteArray := prog_5_method_18_code
def yX3_judge : MethodName := ⟨RX3, "judge", "(III)I"⟩
abbrev cX3_canPass : ByteArray := prog_5_method_19_code
def yX3_canPass : MethodName := ⟨RX3, "canPass", "(I)Z"⟩
abbrev cX3_letPass : ByteArray := prog_5_method_20_code
def yX3_letPass : MethodName := ⟨RX3, "letPass", "(I)V"⟩
abbrev cX3_howMany : ByteArray := prog_5_method_21_code
def yX3_howMany : MethodName := ⟨RX3, "howMany", "(II)I"⟩
abbrev cX3_howManyOfAll : ByteArray := prog_5_method_22_code
def yX3_howManyOfAll : MethodName := ⟨RX3, "howManyOfAll", "(I)I"⟩
abbrev cX3_howManyRipe : ByteArray := prog_5_method_23_code
def yX3_howManyRipe : MethodName := ⟨RX3, "howManyRipe", "(I)I"⟩
abbrev cX3_howManyRipeOfAll : ByteArray := prog_5_method_24_code
def yX3_howManyRipeOfAll : MethodName := ⟨RX3, "howManyRipeOfAll", "()I"⟩
abbrev cX3_greatestRound : ByteArray := prog_5_method_25_code
def yX3_greatestRound : MethodName := ⟨RX3, "greatestRound", "()I"⟩
abbrev cX3_propertyOfKey : ByteArray := prog_5_method_26_code
def yX3_propertyOfKey : MethodName := ⟨RX3, "propertyOfKey", "(III)I"⟩
abbrev cX3_daysToKey : ByteArray := prog_5_method_27_code
def yX3_daysToKey : MethodName := ⟨RX3, "daysToKey", "(I)I"⟩
abbrev cX3_longestSeason : ByteArray := prog_5_method_28_code
def yX3_longestSeason : MethodName := ⟨RX3, "longestSeason", "(I)I"⟩
abbrev cX3_scarcestKind : ByteArray := prog_5_method_29_code
def yX3_scarcestKind : MethodName := ⟨RX3, "scarcestKind", "()I"⟩
abbrev cX3_shareOfRipe : ByteArray := prog_5_method_30_code
def yX3_shareOfRipe : MethodName := ⟨RX3, "shareOfRipe", "()D"⟩
abbrev cX3_meanDays : ByteArray := prog_5_method_31_code
def yX3_meanDays : MethodName := ⟨RX3, "meanDays", "(I)F"⟩
def RX4 : String := "CompostKeys$SavedStates"
def TX4 : u_T := fun k => match k with
  | 0 => ("CompostKeys$SavedStates", "states", "[LCompostKeys$Compost;", true)
  | _ => ("CompostKeys$SavedStates", "size", "I", false)
def tyX4 : Nat → FieldType := fun k => match k with
  | 0 => .array (.object "CompostKeys$Compost")
  | _ => .int
theorem nmX4 : ∀ a, a < 2 → ∀ b, b < 2 → a ≠ b → (TX4 a).2.1 ≠ (TX4 b).2.1 := by decide +kernel
theorem tyX4_ok : ∀ k, k < 2 → parseFieldDescriptor (TX4 k).2.2.1 = some (tyX4 k) := by decide +kernel
abbrev cX4_init : ByteArray := prog_6_method_1_code
def yX4_init : MethodName := ⟨RX4, "<init>", "()V"⟩
abbrev cX4_push : ByteArray := prog_6_method_2_code
def yX4_push : MethodName := ⟨RX4, "push", "(LCompostKeys$Compost;)V"⟩
abbrev cX4_dropOldest : ByteArray := prog_6_method_3_code
def yX4_dropOldest : MethodName := ⟨RX4, "dropOldest", "()V"⟩
abbrev cX4_popInto : ByteArray := prog_6_method_4_code
def yX4_popInto : MethodName := ⟨RX4, "popInto", "(LCompostKeys$Compost;)V"⟩
def RX5 : String := "CompostKeys"
def TX5 : u_T := fun k => match k with
  | 0 => ("CompostKeys", "now", "LCompostKeys$Compost;", true)
  | 1 => ("CompostKeys", "saved", "LCompostKeys$SavedStates;", true)
  | 2 => ("CompostKeys", "slots", "[LCompostKeys$Compost;", true)
  | 3 => ("CompostKeys", "kept", "[Z", true)
  | _ => ("CompostKeys", "text", "LCompostKeys$DaysText;", true)
def tyX5 : Nat → FieldType := fun k => match k with
  | 0 => .object "CompostKeys$Compost"
  | 1 => .object "CompostKeys$SavedStates"
  | 2 => .array (.object "CompostKeys$Compost")
  | 3 => .array .boolean
  | _ => .object "CompostKeys$DaysText"
theorem nmX5 : ∀ a, a < 5 → ∀ b, b < 5 → a ≠ b → (TX5 a).2.1 ≠ (TX5 b).2.1 := by decide +kernel
theorem tyX5_ok : ∀ k, k < 5 → parseFieldDescriptor (TX5 k).2.2.1 = some (tyX5 k) := by decide +kernel
abbrev cX5_init : ByteArray := prog_1_method_1_code
def yX5_init : MethodName := ⟨RX5, "<init>", "()V"⟩
abbrev cX5_ask : ByteArray := prog_1_method_2_code
def yX5_ask : MethodName := ⟨RX5, "ask", "(I)I"⟩
abbrev cX5_want : ByteArray := prog_1_method_3_code
def yX5_want : MethodName := ⟨RX5, "want", "(II)I"⟩
abbrev cX5_delete : ByteArray := prog_1_method_4_code
def yX5_delete : MethodName := ⟨RX5, "delete", "(II)I"⟩
abbrev cX5_bringBack : ByteArray := prog_1_method_5_code
def yX5_bringBack : MethodName := ⟨RX5, "bringBack", "(II)I"⟩
abbrev cX5_turn : ByteArray := prog_1_method_6_code
def yX5_turn : MethodName := ⟨RX5, "turn", "(I)I"⟩
abbrev cX5_follow : ByteArray := prog_1_method_7_code
def yX5_follow : MethodName := ⟨RX5, "follow", "(III)I"⟩
abbrev cX5_pass : ByteArray := prog_1_method_8_code
def yX5_pass : MethodName := ⟨RX5, "pass", "(I)I"⟩
abbrev cX5_season : ByteArray := prog_1_method_9_code
def yX5_season : MethodName := ⟨RX5, "season", "(II)I"⟩
abbrev cX5_set : ByteArray := prog_1_method_10_code
def yX5_set : MethodName := ⟨RX5, "set", "(II)I"⟩
abbrev cX5_append : ByteArray := prog_1_method_11_code
def yX5_append : MethodName := ⟨RX5, "append", "(I)I"⟩
abbrev cX5_clearBuffer : ByteArray := prog_1_method_12_code
def yX5_clearBuffer : MethodName := ⟨RX5, "clearBuffer", "()I"⟩
abbrev cX5_firstError : ByteArray := prog_1_method_13_code
def yX5_firstError : MethodName := ⟨RX5, "firstError", "()I"⟩
abbrev cX5_run : ByteArray := prog_1_method_14_code
def yX5_run : MethodName := ⟨RX5, "run", "()I"⟩
abbrev cX5_keep : ByteArray := prog_1_method_15_code
def yX5_keep : MethodName := ⟨RX5, "keep", "(I)I"⟩
abbrev cX5_goBack : ByteArray := prog_1_method_16_code
def yX5_goBack : MethodName := ⟨RX5, "goBack", "(I)I"⟩
abbrev cX5_undo : ByteArray := prog_1_method_17_code
def yX5_undo : MethodName := ⟨RX5, "undo", "()I"⟩
abbrev cX5_keyOf : ByteArray := prog_1_method_18_code
def yX5_keyOf : MethodName := ⟨RX5, "keyOf", "(III)I"⟩
abbrev cX5_kindOf : ByteArray := prog_1_method_19_code
def yX5_kindOf : MethodName := ⟨RX5, "kindOf", "(II)I"⟩
abbrev cX5_pile : ByteArray := prog_1_method_20_code
def yX5_pile : MethodName := ⟨RX5, "pile", "(II)I"⟩
abbrev cX5_count : ByteArray := prog_1_method_21_code
def yX5_count : MethodName := ⟨RX5, "count", "(I)I"⟩
abbrev cX5_setting : ByteArray := prog_1_method_22_code
def yX5_setting : MethodName := ⟨RX5, "setting", "(I)I"⟩
abbrev cX5_ifAsked : ByteArray := prog_1_method_23_code
def yX5_ifAsked : MethodName := ⟨RX5, "ifAsked", "(I)I"⟩
abbrev cX5_keyIn : ByteArray := prog_1_method_24_code
def yX5_keyIn : MethodName := ⟨RX5, "keyIn", "(I)I"⟩
abbrev cX5_coming : ByteArray := prog_1_method_25_code
def yX5_coming : MethodName := ⟨RX5, "coming", "(II)I"⟩
abbrev cX5_longest : ByteArray := prog_1_method_26_code
def yX5_longest : MethodName := ⟨RX5, "longest", "(I)I"⟩
abbrev cX5_ifFollowed : ByteArray := prog_1_method_27_code
def yX5_ifFollowed : MethodName := ⟨RX5, "ifFollowed", "(III)I"⟩
abbrev cX5_scarcest : ByteArray := prog_1_method_28_code
def yX5_scarcest : MethodName := ⟨RX5, "scarcest", "()I"⟩
abbrev cX5_ripeShare : ByteArray := prog_1_method_29_code
def yX5_ripeShare : MethodName := ⟨RX5, "ripeShare", "()D"⟩
abbrev cX5_meanAge : ByteArray := prog_1_method_30_code
def yX5_meanAge : MethodName := ⟨RX5, "meanAge", "(I)F"⟩
abbrev cX5_digest : ByteArray := prog_1_method_31_code
def yX5_digest : MethodName := ⟨RX5, "digest", "()J"⟩
abbrev cX5_isKind : ByteArray := prog_1_method_32_code
def yX5_isKind : MethodName := ⟨RX5, "isKind", "(I)Z"⟩
abbrev cX5_isKey : ByteArray := prog_1_method_33_code
def yX5_isKey : MethodName := ⟨RX5, "isKey", "(I)Z"⟩
abbrev cX5_needKind : ByteArray := prog_1_method_34_code
def yX5_needKind : MethodName := ⟨RX5, "needKind", "(I)V"⟩
abbrev cX5_needKey : ByteArray := prog_1_method_35_code
def yX5_needKey : MethodName := ⟨RX5, "needKey", "(II)V"⟩
abbrev cX5_needSetting : ByteArray := prog_1_method_36_code
def yX5_needSetting : MethodName := ⟨RX5, "needSetting", "(I)V"⟩
abbrev cX5_needAtLeast : ByteArray := prog_1_method_37_code
def yX5_needAtLeast : MethodName := ⟨RX5, "needAtLeast", "(II)V"⟩
abbrev cX5_needRange : ByteArray := prog_1_method_38_code
def yX5_needRange : MethodName := ⟨RX5, "needRange", "(III)V"⟩
abbrev cX5_doOrder : ByteArray := prog_1_method_39_code
def yX5_doOrder : MethodName := ⟨RX5, "doOrder", "(I)Z"⟩
abbrev cX5_turnIfKind : ByteArray := prog_1_method_40_code
def yX5_turnIfKind : MethodName := ⟨RX5, "turnIfKind", "(I)Z"⟩
abbrev cX5_passIfCan : ByteArray := prog_1_method_41_code
def yX5_passIfCan : MethodName := ⟨RX5, "passIfCan", "(I)Z"⟩
abbrev cX5_doRowOrder : ByteArray := prog_1_method_42_code
def yX5_doRowOrder : MethodName := ⟨RX5, "doRowOrder", "(III)Z"⟩
abbrev cX5_numberOf : ByteArray := prog_1_method_43_code
def yX5_numberOf : MethodName := ⟨RX5, "numberOf", "(I)I"⟩
abbrev cX5_mix : ByteArray := prog_1_method_44_code
def yX5_mix : MethodName := ⟨RX5, "mix", "(JJ)J"⟩
abbrev cX5_mixKind : ByteArray := prog_1_method_45_code
def yX5_mixKind : MethodName := ⟨RX5, "mixKind", "(JI)J"⟩
abbrev cX5_bitsOf : ByteArray := prog_1_method_46_code
def yX5_bitsOf : MethodName := ⟨RX5, "bitsOf", "(DII)J"⟩
def RX6 : String := "CompostKeysModel"
def TX6 : u_T := fun k => match k with
  | 0 => ("CompostKeysModel", "s", "[I", true)
  | 1 => ("CompostKeysModel", "states", "I", false)
  | 2 => ("CompostKeysModel", "isKept", "[Z", true)
  | 3 => ("CompostKeysModel", "thrown", "I", false)
  | 4 => ("CompostKeysModel", "text", "[C", true)
  | 5 => ("CompostKeysModel", "typed", "I", false)
  | 6 => ("CompostKeysModel", "at", "I", false)
  | 7 => ("CompostKeysModel", "one", "I", false)
  | _ => ("CompostKeysModel", "two", "I", false)
def tyX6 : Nat → FieldType := fun k => match k with
  | 0 => .array .int
  | 1 => .int
  | 2 => .array .boolean
  | 3 => .int
  | 4 => .array .char
  | 5 => .int
  | 6 => .int
  | 7 => .int
  | _ => .int
theorem nmX6 : ∀ a, a < 9 → ∀ b, b < 9 → a ≠ b → (TX6 a).2.1 ≠ (TX6 b).2.1 := by decide +kernel
theorem tyX6_ok : ∀ k, k < 9 → parseFieldDescriptor (TX6 k).2.2.1 = some (tyX6 k) := by decide +kernel
abbrev cX6_init : ByteArray := prog_8_method_1_code
def yX6_init : MethodName := ⟨RX6, "<init>", "()V"⟩
abbrev cX6_thrown : ByteArray := prog_8_method_2_code
def yX6_thrown : MethodName := ⟨RX6, "thrown", "()I"⟩
abbrev cX6_in : ByteArray := prog_8_method_3_code
def yX6_in : MethodName := ⟨RX6, "in", "(III)Z"⟩
abbrev cX6_goes : ByteArray := prog_8_method_4_code
def yX6_goes : MethodName := ⟨RX6, "goes", "(ZZ)Z"⟩
abbrev cX6_copies : ByteArray := prog_8_method_5_code
def yX6_copies : MethodName := ⟨RX6, "copies", "(II)V"⟩
abbrev cX6_saves : ByteArray := prog_8_method_6_code
def yX6_saves : MethodName := ⟨RX6, "saves", "()V"⟩
abbrev cX6_isKind : ByteArray := prog_8_method_7_code
def yX6_isKind : MethodName := ⟨RX6, "isKind", "(I)Z"⟩
abbrev cX6_isKey : ByteArray := prog_8_method_8_code
def yX6_isKey : MethodName := ⟨RX6, "isKey", "(II)Z"⟩
abbrev cX6_keyAt : ByteArray := prog_8_method_9_code
def yX6_keyAt : MethodName := ⟨RX6, "keyAt", "(III)I"⟩
abbrev cX6_pileAt : ByteArray := prog_8_method_10_code
def yX6_pileAt : MethodName := ⟨RX6, "pileAt", "(III)I"⟩
abbrev cX6_age : ByteArray := prog_8_method_11_code
def yX6_age : MethodName := ⟨RX6, "age", "(III)I"⟩
abbrev cX6_isRipe : ByteArray := prog_8_method_12_code
def yX6_isRipe : MethodName := ⟨RX6, "isRipe", "(III)Z"⟩
abbrev cX6_canGive : ByteArray := prog_8_method_13_code
def yX6_canGive : MethodName := ⟨RX6, "canGive", "(III)Z"⟩
abbrev cX6_placeOf : ByteArray := prog_8_method_14_code
def yX6_placeOf : MethodName := ⟨RX6, "placeOf", "(III)I"⟩
abbrev cX6_takes : ByteArray := prog_8_method_15_code
def yX6_takes : MethodName := ⟨RX6, "takes", "(III)V"⟩
abbrev cX6_lowestFresh : ByteArray := prog_8_method_16_code
def yX6_lowestFresh : MethodName := ⟨RX6, "lowestFresh", "(II)I"⟩
abbrev cX6_topRipe : ByteArray := prog_8_method_17_code
def yX6_topRipe : MethodName := ⟨RX6, "topRipe", "(II)I"⟩
abbrev cX6_draws : ByteArray := prog_8_method_18_code
def yX6_draws : MethodName := ⟨RX6, "draws", "(II)I"⟩
abbrev cX6_gives : ByteArray := prog_8_method_19_code
def yX6_gives : MethodName := ⟨RX6, "gives", "(III)V"⟩
abbrev cX6_without : ByteArray := prog_8_method_20_code
def yX6_without : MethodName := ⟨RX6, "without", "(II)I"⟩
abbrev cX6_reason : ByteArray := prog_8_method_21_code
def yX6_reason : MethodName := ⟨RX6, "reason", "(I)I"⟩
abbrev cX6_asks : ByteArray := prog_8_method_22_code
def yX6_asks : MethodName := ⟨RX6, "asks", "(I)I"⟩
abbrev cX6_ask : ByteArray := prog_8_method_23_code
def yX6_ask : MethodName := ⟨RX6, "ask", "(I)I"⟩
abbrev cX6_wants : ByteArray := prog_8_method_24_code
def yX6_wants : MethodName := ⟨RX6, "wants", "(II)I"⟩
abbrev cX6_want : ByteArray := prog_8_method_25_code
def yX6_want : MethodName := ⟨RX6, "want", "(II)I"⟩
abbrev cX6_isAlive : ByteArray := prog_8_method_26_code
def yX6_isAlive : MethodName := ⟨RX6, "isAlive", "(II)Z"⟩
abbrev cX6_deletes : ByteArray := prog_8_method_27_code
def yX6_deletes : MethodName := ⟨RX6, "deletes", "(II)I"⟩
abbrev cX6_delete : ByteArray := prog_8_method_28_code
def yX6_delete : MethodName := ⟨RX6, "delete", "(II)I"⟩
abbrev cX6_canComeBack : ByteArray := prog_8_method_29_code
def yX6_canComeBack : MethodName := ⟨RX6, "canComeBack", "(II)Z"⟩
abbrev cX6_comesBack : ByteArray := prog_8_method_30_code
def yX6_comesBack : MethodName := ⟨RX6, "comesBack", "(II)I"⟩
abbrev cX6_bringBack : ByteArray := prog_8_method_31_code
def yX6_bringBack : MethodName := ⟨RX6, "bringBack", "(II)I"⟩
abbrev cX6_turns : ByteArray := prog_8_method_32_code
def yX6_turns : MethodName := ⟨RX6, "turns", "(I)I"⟩
abbrev cX6_turn : ByteArray := prog_8_method_33_code
def yX6_turn : MethodName := ⟨RX6, "turn", "(I)I"⟩
abbrev cX6_refers : ByteArray := prog_8_method_34_code
def yX6_refers : MethodName := ⟨RX6, "refers", "(III)I"⟩
abbrev cX6_follow : ByteArray := prog_8_method_35_code
def yX6_follow : MethodName := ⟨RX6, "follow", "(III)I"⟩
abbrev cX6_keysIn : ByteArray := prog_8_method_36_code
def yX6_keysIn : MethodName := ⟨RX6, "keysIn", "(II)I"⟩
abbrev cX6_passes : ByteArray := prog_8_method_37_code
def yX6_passes : MethodName := ⟨RX6, "passes", "(I)I"⟩
abbrev cX6_pass : ByteArray := prog_8_method_38_code
def yX6_pass : MethodName := ⟨RX6, "pass", "(I)I"⟩
abbrev cX6_changes : ByteArray := prog_8_method_39_code
def yX6_changes : MethodName := ⟨RX6, "changes", "(II)I"⟩
abbrev cX6_season : ByteArray := prog_8_method_40_code
def yX6_season : MethodName := ⟨RX6, "season", "(II)I"⟩
abbrev cX6_set : ByteArray := prog_8_method_41_code
def yX6_set : MethodName := ⟨RX6, "set", "(II)I"⟩
abbrev cX6_append : ByteArray := prog_8_method_42_code
def yX6_append : MethodName := ⟨RX6, "append", "(I)I"⟩
abbrev cX6_clearBuffer : ByteArray := prog_8_method_43_code
def yX6_clearBuffer : MethodName := ⟨RX6, "clearBuffer", "()I"⟩
abbrev cX6_isSign : ByteArray := prog_8_method_44_code
def yX6_isSign : MethodName := ⟨RX6, "isSign", "(CC)Z"⟩
abbrev cX6_takesKind : ByteArray := prog_8_method_45_code
def yX6_takesKind : MethodName := ⟨RX6, "takesKind", "()Z"⟩
abbrev cX6_takesKey : ByteArray := prog_8_method_46_code
def yX6_takesKey : MethodName := ⟨RX6, "takesKey", "()Z"⟩
abbrev cX6_takesDays : ByteArray := prog_8_method_47_code
def yX6_takesDays : MethodName := ⟨RX6, "takesDays", "()Z"⟩
abbrev cX6_order : ByteArray := prog_8_method_48_code
def yX6_order : MethodName := ⟨RX6, "order", "()C"⟩
abbrev cX6_error : ByteArray := prog_8_method_49_code
def yX6_error : MethodName := ⟨RX6, "error", "()I"⟩
abbrev cX6_firstError : ByteArray := prog_8_method_50_code
def yX6_firstError : MethodName := ⟨RX6, "firstError", "()I"⟩
abbrev cX6_does : ByteArray := prog_8_method_51_code
def yX6_does : MethodName := ⟨RX6, "does", "(C)Z"⟩
abbrev cX6_run : ByteArray := prog_8_method_52_code
def yX6_run : MethodName := ⟨RX6, "run", "()I"⟩
abbrev cX6_keep : ByteArray := prog_8_method_53_code
def yX6_keep : MethodName := ⟨RX6, "keep", "(I)I"⟩
abbrev cX6_goBack : ByteArray := prog_8_method_54_code
def yX6_goBack : MethodName := ⟨RX6, "goBack", "(I)I"⟩
abbrev cX6_undo : ByteArray := prog_8_method_55_code
def yX6_undo : MethodName := ⟨RX6, "undo", "()I"⟩
abbrev cX6_keys : ByteArray := prog_8_method_56_code
def yX6_keys : MethodName := ⟨RX6, "keys", "(III)I"⟩
abbrev cX6_keyOf : ByteArray := prog_8_method_57_code
def yX6_keyOf : MethodName := ⟨RX6, "keyOf", "(III)I"⟩
abbrev cX6_kinds : ByteArray := prog_8_method_58_code
def yX6_kinds : MethodName := ⟨RX6, "kinds", "(II)I"⟩
abbrev cX6_kindOf : ByteArray := prog_8_method_59_code
def yX6_kindOf : MethodName := ⟨RX6, "kindOf", "(II)I"⟩
abbrev cX6_piled : ByteArray := prog_8_method_60_code
def yX6_piled : MethodName := ⟨RX6, "piled", "(II)I"⟩
abbrev cX6_pile : ByteArray := prog_8_method_61_code
def yX6_pile : MethodName := ⟨RX6, "pile", "(II)I"⟩
abbrev cX6_sum : ByteArray := prog_8_method_62_code
def yX6_sum : MethodName := ⟨RX6, "sum", "(I)I"⟩
abbrev cX6_greatestRound : ByteArray := prog_8_method_63_code
def yX6_greatestRound : MethodName := ⟨RX6, "greatestRound", "()I"⟩
abbrev cX6_counted : ByteArray := prog_8_method_64_code
def yX6_counted : MethodName := ⟨RX6, "counted", "(I)I"⟩
abbrev cX6_count : ByteArray := prog_8_method_65_code
def yX6_count : MethodName := ⟨RX6, "count", "(I)I"⟩
abbrev cX6_setting : ByteArray := prog_8_method_66_code
def yX6_setting : MethodName := ⟨RX6, "setting", "(I)I"⟩
abbrev cX6_wouldAsk : ByteArray := prog_8_method_67_code
def yX6_wouldAsk : MethodName := ⟨RX6, "wouldAsk", "(I)I"⟩
abbrev cX6_ifAsked : ByteArray := prog_8_method_68_code
def yX6_ifAsked : MethodName := ⟨RX6, "ifAsked", "(I)I"⟩
abbrev cX6_soonest : ByteArray := prog_8_method_69_code
def yX6_soonest : MethodName := ⟨RX6, "soonest", "(I)I"⟩
abbrev cX6_keyIn : ByteArray := prog_8_method_70_code
def yX6_keyIn : MethodName := ⟨RX6, "keyIn", "(I)I"⟩
abbrev cX6_comes : ByteArray := prog_8_method_71_code
def yX6_comes : MethodName := ⟨RX6, "comes", "(II)I"⟩
abbrev cX6_coming : ByteArray := prog_8_method_72_code
def yX6_coming : MethodName := ⟨RX6, "coming", "(II)I"⟩
abbrev cX6_longestSeason : ByteArray := prog_8_method_73_code
def yX6_longestSeason : MethodName := ⟨RX6, "longestSeason", "(I)I"⟩
abbrev cX6_longest : ByteArray := prog_8_method_74_code
def yX6_longest : MethodName := ⟨RX6, "longest", "(I)I"⟩
abbrev cX6_ifFollowed : ByteArray := prog_8_method_75_code
def yX6_ifFollowed : MethodName := ⟨RX6, "ifFollowed", "(III)I"⟩
abbrev cX6_fewest : ByteArray := prog_8_method_76_code
def yX6_fewest : MethodName := ⟨RX6, "fewest", "()I"⟩
abbrev cX6_scarcest : ByteArray := prog_8_method_77_code
def yX6_scarcest : MethodName := ⟨RX6, "scarcest", "()I"⟩
abbrev cX6_share : ByteArray := prog_8_method_78_code
def yX6_share : MethodName := ⟨RX6, "share", "()D"⟩
abbrev cX6_ripeShare : ByteArray := prog_8_method_79_code
def yX6_ripeShare : MethodName := ⟨RX6, "ripeShare", "()D"⟩
abbrev cX6_mean : ByteArray := prog_8_method_80_code
def yX6_mean : MethodName := ⟨RX6, "mean", "(I)F"⟩
abbrev cX6_meanAge : ByteArray := prog_8_method_81_code
def yX6_meanAge : MethodName := ⟨RX6, "meanAge", "(I)F"⟩
abbrev cX6_digest : ByteArray := prog_8_method_82_code
def yX6_digest : MethodName := ⟨RX6, "digest", "()J"⟩
def RJxe99ae : String := "java/lang/Double"
def TJxe99ae : u_T := fun k => match k with
  | _ => ("", "", "", false)
def tyJxe99ae : Nat → FieldType := fun k => match k with
  | _ => .int
theorem nmJxe99ae : ∀ a, a < 0 → ∀ b, b < 0 → a ≠ b → (TJxe99ae a).2.1 ≠ (TJxe99ae b).2.1 := by decide +kernel
theorem tyJxe99ae_ok : ∀ k, k < 0 → parseFieldDescriptor (TJxe99ae k).2.2.1 = some (tyJxe99ae k) := by decide +kernel
abbrev cJxe99ae_isNaN_b9ae7 : ByteArray := prog_9_method_6_code
def yJxe99ae_isNaN_b9ae7 : MethodName := ⟨RJxe99ae, "isNaN", "(D)Z"⟩
abbrev cJxe99ae_doubleToLongBits_ccdee : ByteArray := prog_9_method_23_code
def yJxe99ae_doubleToLongBits_ccdee : MethodName := ⟨RJxe99ae, "doubleToLongBits", "(D)J"⟩
def RJxf58ca : String := "java/lang/Float"
def TJxf58ca : u_T := fun k => match k with
  | _ => ("", "", "", false)
def tyJxf58ca : Nat → FieldType := fun k => match k with
  | _ => .int
theorem nmJxf58ca : ∀ a, a < 0 → ∀ b, b < 0 → a ≠ b → (TJxf58ca a).2.1 ≠ (TJxf58ca b).2.1 := by decide +kernel
theorem tyJxf58ca_ok : ∀ k, k < 0 → parseFieldDescriptor (TJxf58ca k).2.2.1 = some (tyJxf58ca k) := by decide +kernel
abbrev cJxf58ca_isNaN_12338 : ByteArray := prog_11_method_6_code
def yJxf58ca_isNaN_12338 : MethodName := ⟨RJxf58ca, "isNaN", "(F)Z"⟩
abbrev cJxf58ca_floatToIntBits_5c35a : ByteArray := prog_11_method_24_code
def yJxf58ca_floatToIntBits_5c35a : MethodName := ⟨RJxf58ca, "floatToIntBits", "(F)I"⟩
def RJ9 : String := "java/lang/Math"
def TJ9 : u_T := fun k => match k with
  | _ => ("", "", "", false)
def tyJ9 : Nat → FieldType := fun k => match k with
  | _ => .int
theorem nmJ9 : ∀ a, a < 0 → ∀ b, b < 0 → a ≠ b → (TJ9 a).2.1 ≠ (TJ9 b).2.1 := by decide +kernel
theorem tyJ9_ok : ∀ k, k < 0 → parseFieldDescriptor (TJ9 k).2.2.1 = some (tyJ9 k) := by decide +kernel
abbrev cJ9_max_7cf53 : ByteArray := prog_15_method_65_code
def yJ9_max_7cf53 : MethodName := ⟨RJ9, "max", "(II)I"⟩
abbrev cJ9_min_7cf53 : ByteArray := prog_15_method_69_code
def yJ9_min_7cf53 : MethodName := ⟨RJ9, "min", "(II)I"⟩
def RJ0 : String := "java/lang/String"
def TJ0 : u_T := fun k => match k with
  | _ => ("", "", "", false)
def tyJ0 : Nat → FieldType := fun k => match k with
  | _ => .int
theorem nmJ0 : ∀ a, a < 0 → ∀ b, b < 0 → a ≠ b → (TJ0 a).2.1 ≠ (TJ0 b).2.1 := by decide +kernel
theorem tyJ0_ok : ∀ k, k < 0 → parseFieldDescriptor (TJ0 k).2.2.1 = some (tyJ0 k) := by decide +kernel
def RJ10 : String := "java/lang/System"
def TJ10 : u_T := fun k => match k with
  | _ => ("", "", "", false)
def tyJ10 : Nat → FieldType := fun k => match k with
  | _ => .int
theorem nmJ10 : ∀ a, a < 0 → ∀ b, b < 0 → a ≠ b → (TJ10 a).2.1 ≠ (TJ10 b).2.1 := by decide +kernel
theorem tyJ10_ok : ∀ k, k < 0 → parseFieldDescriptor (TJ10 k).2.2.1 = some (tyJ10 k) := by decide +kernel
def RL : String := "CompostKeysLaw"
abbrev cL_ask : ByteArray := method_3_code
def yL_ask : MethodName := ⟨RL, "ask", "(LCompostKeys;I[J)I"⟩
abbrev cL_want : ByteArray := method_4_code
def yL_want : MethodName := ⟨RL, "want", "(LCompostKeys;II[J)I"⟩
abbrev cL_delete : ByteArray := method_5_code
def yL_delete : MethodName := ⟨RL, "delete", "(LCompostKeys;II[J)I"⟩
abbrev cL_bringBack : ByteArray := method_6_code
def yL_bringBack : MethodName := ⟨RL, "bringBack", "(LCompostKeys;II[J)I"⟩
abbrev cL_turn : ByteArray := method_7_code
def yL_turn : MethodName := ⟨RL, "turn", "(LCompostKeys;I[J)I"⟩
abbrev cL_follow : ByteArray := method_8_code
def yL_follow : MethodName := ⟨RL, "follow", "(LCompostKeys;III[J)I"⟩
abbrev cL_pass : ByteArray := method_9_code
def yL_pass : MethodName := ⟨RL, "pass", "(LCompostKeys;I[J)I"⟩
abbrev cL_season : ByteArray := method_10_code
def yL_season : MethodName := ⟨RL, "season", "(LCompostKeys;II[J)I"⟩
abbrev cL_set : ByteArray := method_11_code
def yL_set : MethodName := ⟨RL, "set", "(LCompostKeys;II[J)I"⟩
abbrev cL_append : ByteArray := method_12_code
def yL_append : MethodName := ⟨RL, "append", "(LCompostKeys;I[J)I"⟩
abbrev cL_run : ByteArray := method_13_code
def yL_run : MethodName := ⟨RL, "run", "(LCompostKeys;[J)I"⟩
abbrev cL_keep : ByteArray := method_14_code
def yL_keep : MethodName := ⟨RL, "keep", "(LCompostKeys;I[J)I"⟩
abbrev cL_goBack : ByteArray := method_15_code
def yL_goBack : MethodName := ⟨RL, "goBack", "(LCompostKeys;I[J)I"⟩
abbrev cL_undo : ByteArray := method_16_code
def yL_undo : MethodName := ⟨RL, "undo", "(LCompostKeys;[J)I"⟩
abbrev cL_keyOf : ByteArray := method_17_code
def yL_keyOf : MethodName := ⟨RL, "keyOf", "(LCompostKeys;III[J)I"⟩
abbrev cL_kindOf : ByteArray := method_18_code
def yL_kindOf : MethodName := ⟨RL, "kindOf", "(LCompostKeys;II[J)I"⟩
abbrev cL_pile : ByteArray := method_19_code
def yL_pile : MethodName := ⟨RL, "pile", "(LCompostKeys;II[J)I"⟩
abbrev cL_count : ByteArray := method_20_code
def yL_count : MethodName := ⟨RL, "count", "(LCompostKeys;I[J)I"⟩
abbrev cL_setting : ByteArray := method_21_code
def yL_setting : MethodName := ⟨RL, "setting", "(LCompostKeys;I[J)I"⟩
abbrev cL_ifAsked : ByteArray := method_22_code
def yL_ifAsked : MethodName := ⟨RL, "ifAsked", "(LCompostKeys;I[J)I"⟩
abbrev cL_keyIn : ByteArray := method_23_code
def yL_keyIn : MethodName := ⟨RL, "keyIn", "(LCompostKeys;I[J)I"⟩
abbrev cL_coming : ByteArray := method_24_code
def yL_coming : MethodName := ⟨RL, "coming", "(LCompostKeys;II[J)I"⟩
abbrev cL_longest : ByteArray := method_25_code
def yL_longest : MethodName := ⟨RL, "longest", "(LCompostKeys;I[J)I"⟩
abbrev cL_ifFollowed : ByteArray := method_26_code
def yL_ifFollowed : MethodName := ⟨RL, "ifFollowed", "(LCompostKeys;III[J)I"⟩
abbrev cL_meanAge : ByteArray := method_27_code
def yL_meanAge : MethodName := ⟨RL, "meanAge", "(LCompostKeys;I[D)I"⟩
abbrev cL_law : ByteArray := code
def yL_law : MethodName := ⟨RL, "law", "([I)Z"⟩
abbrev vwCl : List vw_C := [(RX0, TX0, 8), (RX1, TX1, 3), (RX2, TX2, 2), (RX3, TX3, 6), (RX4, TX4, 2), (RX5, TX5, 5), (RX6, TX6, 9)]
def Gw : List Cond := lw_tbl.filter goodWord
theorem Gw_of {w : Cond} (h : w ∈ lw_tbl) (g : goodWord w = true) : w ∈ Gw := List.mem_filter.mpr ⟨h, g⟩
theorem Gw_tbl {w : Cond} (h : w ∈ Gw) : w ∈ lw_tbl := (List.mem_filter.mp h).1
theorem Gw_good {w : Cond} (h : w ∈ Gw) : goodWord w = true := (List.mem_filter.mp h).2
theorem Gw_GoodIn (c : Cond) : GoodIn (c :: Gw) Gw := fun w h => ⟨List.mem_cons_of_mem _ h, good_of_word (Gw_good h)⟩
theorem Gm0 {w : Cond} (i : Nat) (h : (k2_sels lw_privs)[i]? = some w) (g : goodWord w = true) : w ∈ Gw := Gw_of (List.mem_append_left _ (List.mem_of_getElem? h)) g
theorem Gm1 {w : Cond} (i : Nat) (h : tables_1_1[i]? = some w) (g : goodWord w = true) : w ∈ Gw := Gw_of (List.mem_append_right _ (List.mem_append_left _ (List.mem_of_getElem? h))) g
theorem Gm2 {w : Cond} (i : Nat) (h : tables_1_2[i]? = some w) (g : goodWord w = true) : w ∈ Gw := Gw_of (List.mem_append_right _ (List.mem_append_right _ (List.mem_append_left _ (List.mem_of_getElem? h)))) g
theorem Gm3 {w : Cond} (i : Nat) (h : tables_1_3[i]? = some w) (g : goodWord w = true) : w ∈ Gw := Gw_of (List.mem_append_right _ (List.mem_append_right _ (List.mem_append_right _ (List.mem_append_left _ (List.mem_of_getElem? h))))) g
theorem Gm4 {w : Cond} (i : Nat) (h : tables_1_4[i]? = some w) (g : goodWord w = true) : w ∈ Gw := Gw_of (List.mem_append_right _ (List.mem_append_right _ (List.mem_append_right _ (List.mem_append_right _ (List.mem_append_left _ (List.mem_of_getElem? h)))))) g
theorem Gm5 {w : Cond} (i : Nat) (h : tables_1_5[i]? = some w) (g : goodWord w = true) : w ∈ Gw := Gw_of (List.mem_append_right _ (List.mem_append_right _ (List.mem_append_right _ (List.mem_append_right _ (List.mem_append_right _ (List.mem_of_getElem? h)))))) g
end
section
theorem qV_X5_numberOf : Cond.selects RX5 yX5_numberOf yX5_numberOf ∈ Gw := Gm0 0 (by decide +kernel) (by decide +kernel)
theorem qV_X5_mixKind : Cond.selects RX5 yX5_mixKind yX5_mixKind ∈ Gw := Gm0 1 (by decide +kernel) (by decide +kernel)
theorem qV_X3_rankByRule : Cond.selects RX3 yX3_rankByRule yX3_rankByRule ∈ Gw := Gm0 2 (by decide +kernel) (by decide +kernel)
theorem qV_Throwable_fillInStackTrace_ILjavalangThrowable : Cond.selects "java/lang/Throwable" (⟨"java/lang/Throwable", "fillInStackTrace", "(I)Ljava/lang/Throwable;"⟩ : MethodName) (⟨"java/lang/Throwable", "fillInStackTrace", "(I)Ljava/lang/Throwable;"⟩ : MethodName) ∈ Gw := Gm0 3 (by decide +kernel) (by decide +kernel)
theorem qV_X4_dropOldest : Cond.selects RX4 yX4_dropOldest yX4_dropOldest ∈ Gw := Gm0 4 (by decide +kernel) (by decide +kernel)
theorem qV_X1_giveKey : Cond.selects RX1 yX1_giveKey yX1_giveKey ∈ Gw := Gm0 5 (by decide +kernel) (by decide +kernel)
theorem qV_X3_takeOut : Cond.selects RX3 yX3_takeOut yX3_takeOut ∈ Gw := Gm0 6 (by decide +kernel) (by decide +kernel)
theorem qV_X1_reasonAgainst : Cond.selects RX1 yX1_reasonAgainst yX1_reasonAgainst ∈ Gw := Gm0 7 (by decide +kernel) (by decide +kernel)
theorem qV_X5_doOrder : Cond.selects RX5 yX5_doOrder yX5_doOrder ∈ Gw := Gm0 8 (by decide +kernel) (by decide +kernel)
theorem qV_X5_turnIfKind : Cond.selects RX5 yX5_turnIfKind yX5_turnIfKind ∈ Gw := Gm0 9 (by decide +kernel) (by decide +kernel)
theorem qV_X5_passIfCan : Cond.selects RX5 yX5_passIfCan yX5_passIfCan ∈ Gw := Gm0 10 (by decide +kernel) (by decide +kernel)
theorem qV_X5_doRowOrder : Cond.selects RX5 yX5_doRowOrder yX5_doRowOrder ∈ Gw := Gm0 11 (by decide +kernel) (by decide +kernel)
theorem qV_X6_goes : Cond.selects RX6 yX6_goes yX6_goes ∈ Gw := Gm0 12 (by decide +kernel) (by decide +kernel)
theorem qV_X6_saves : Cond.selects RX6 yX6_saves yX6_saves ∈ Gw := Gm0 13 (by decide +kernel) (by decide +kernel)
theorem qV_X6_copies : Cond.selects RX6 yX6_copies yX6_copies ∈ Gw := Gm0 14 (by decide +kernel) (by decide +kernel)
theorem qV_X6_asks : Cond.selects RX6 yX6_asks yX6_asks ∈ Gw := Gm0 15 (by decide +kernel) (by decide +kernel)
theorem qV_X6_draws : Cond.selects RX6 yX6_draws yX6_draws ∈ Gw := Gm0 16 (by decide +kernel) (by decide +kernel)
theorem qV_X6_lowestFresh : Cond.selects RX6 yX6_lowestFresh yX6_lowestFresh ∈ Gw := Gm0 17 (by decide +kernel) (by decide +kernel)
theorem qV_X6_topRipe : Cond.selects RX6 yX6_topRipe yX6_topRipe ∈ Gw := Gm0 18 (by decide +kernel) (by decide +kernel)
theorem qV_X6_pileAt : Cond.selects RX6 yX6_pileAt yX6_pileAt ∈ Gw := Gm0 19 (by decide +kernel) (by decide +kernel)
theorem qV_X6_isRipe : Cond.selects RX6 yX6_isRipe yX6_isRipe ∈ Gw := Gm0 20 (by decide +kernel) (by decide +kernel)
theorem qV_X6_age : Cond.selects RX6 yX6_age yX6_age ∈ Gw := Gm0 21 (by decide +kernel) (by decide +kernel)
theorem qV_X6_canGive : Cond.selects RX6 yX6_canGive yX6_canGive ∈ Gw := Gm0 22 (by decide +kernel) (by decide +kernel)
theorem qV_X6_reason : Cond.selects RX6 yX6_reason yX6_reason ∈ Gw := Gm0 23 (by decide +kernel) (by decide +kernel)
theorem qV_X6_without : Cond.selects RX6 yX6_without yX6_without ∈ Gw := Gm0 24 (by decide +kernel) (by decide +kernel)
theorem qV_X6_gives : Cond.selects RX6 yX6_gives yX6_gives ∈ Gw := Gm0 25 (by decide +kernel) (by decide +kernel)
theorem qV_X6_takes : Cond.selects RX6 yX6_takes yX6_takes ∈ Gw := Gm0 26 (by decide +kernel) (by decide +kernel)
theorem qV_X6_placeOf : Cond.selects RX6 yX6_placeOf yX6_placeOf ∈ Gw := Gm0 27 (by decide +kernel) (by decide +kernel)
theorem qV_X6_wants : Cond.selects RX6 yX6_wants yX6_wants ∈ Gw := Gm0 28 (by decide +kernel) (by decide +kernel)
theorem qV_X6_isAlive : Cond.selects RX6 yX6_isAlive yX6_isAlive ∈ Gw := Gm0 29 (by decide +kernel) (by decide +kernel)
theorem qV_X6_deletes : Cond.selects RX6 yX6_deletes yX6_deletes ∈ Gw := Gm0 30 (by decide +kernel) (by decide +kernel)
theorem qV_X6_canComeBack : Cond.selects RX6 yX6_canComeBack yX6_canComeBack ∈ Gw := Gm0 31 (by decide +kernel) (by decide +kernel)
theorem qV_X6_comesBack : Cond.selects RX6 yX6_comesBack yX6_comesBack ∈ Gw := Gm0 32 (by decide +kernel) (by decide +kernel)
theorem qV_X6_turns : Cond.selects RX6 yX6_turns yX6_turns ∈ Gw := Gm0 33 (by decide +kernel) (by decide +kernel)
theorem qV_X6_refers : Cond.selects RX6 yX6_refers yX6_refers ∈ Gw := Gm0 34 (by decide +kernel) (by decide +kernel)
theorem qV_X6_passes : Cond.selects RX6 yX6_passes yX6_passes ∈ Gw := Gm0 35 (by decide +kernel) (by decide +kernel)
theorem qV_X6_keysIn : Cond.selects RX6 yX6_keysIn yX6_keysIn ∈ Gw := Gm0 36 (by decide +kernel) (by decide +kernel)
theorem qV_X6_changes : Cond.selects RX6 yX6_changes yX6_changes ∈ Gw := Gm0 37 (by decide +kernel) (by decide +kernel)
theorem qV_X6_error : Cond.selects RX6 yX6_error yX6_error ∈ Gw := Gm0 38 (by decide +kernel) (by decide +kernel)
theorem qV_X6_order : Cond.selects RX6 yX6_order yX6_order ∈ Gw := Gm0 39 (by decide +kernel) (by decide +kernel)
theorem qV_X6_takesDays : Cond.selects RX6 yX6_takesDays yX6_takesDays ∈ Gw := Gm0 40 (by decide +kernel) (by decide +kernel)
theorem qV_X6_isSign : Cond.selects RX6 yX6_isSign yX6_isSign ∈ Gw := Gm0 41 (by decide +kernel) (by decide +kernel)
theorem qV_X6_takesKind : Cond.selects RX6 yX6_takesKind yX6_takesKind ∈ Gw := Gm0 42 (by decide +kernel) (by decide +kernel)
theorem qV_X6_takesKey : Cond.selects RX6 yX6_takesKey yX6_takesKey ∈ Gw := Gm0 43 (by decide +kernel) (by decide +kernel)
theorem qV_X6_does : Cond.selects RX6 yX6_does yX6_does ∈ Gw := Gm0 44 (by decide +kernel) (by decide +kernel)
theorem qV_X6_keys : Cond.selects RX6 yX6_keys yX6_keys ∈ Gw := Gm0 45 (by decide +kernel) (by decide +kernel)
theorem qV_X6_kinds : Cond.selects RX6 yX6_kinds yX6_kinds ∈ Gw := Gm0 46 (by decide +kernel) (by decide +kernel)
theorem qV_X6_piled : Cond.selects RX6 yX6_piled yX6_piled ∈ Gw := Gm0 47 (by decide +kernel) (by decide +kernel)
theorem qV_X6_counted : Cond.selects RX6 yX6_counted yX6_counted ∈ Gw := Gm0 48 (by decide +kernel) (by decide +kernel)
theorem qV_X6_sum : Cond.selects RX6 yX6_sum yX6_sum ∈ Gw := Gm0 49 (by decide +kernel) (by decide +kernel)
theorem qV_X6_greatestRound : Cond.selects RX6 yX6_greatestRound yX6_greatestRound ∈ Gw := Gm0 50 (by decide +kernel) (by decide +kernel)
theorem qV_X6_wouldAsk : Cond.selects RX6 yX6_wouldAsk yX6_wouldAsk ∈ Gw := Gm0 51 (by decide +kernel) (by decide +kernel)
theorem qV_X6_soonest : Cond.selects RX6 yX6_soonest yX6_soonest ∈ Gw := Gm0 52 (by decide +kernel) (by decide +kernel)
theorem qV_X6_comes : Cond.selects RX6 yX6_comes yX6_comes ∈ Gw := Gm0 53 (by decide +kernel) (by decide +kernel)
theorem qV_X6_longestSeason : Cond.selects RX6 yX6_longestSeason yX6_longestSeason ∈ Gw := Gm0 54 (by decide +kernel) (by decide +kernel)
theorem qV_X6_fewest : Cond.selects RX6 yX6_fewest yX6_fewest ∈ Gw := Gm0 55 (by decide +kernel) (by decide +kernel)
theorem qV_X6_share : Cond.selects RX6 yX6_share yX6_share ∈ Gw := Gm0 56 (by decide +kernel) (by decide +kernel)
theorem qV_X6_mean : Cond.selects RX6 yX6_mean yX6_mean ∈ Gw := Gm0 57 (by decide +kernel) (by decide +kernel)
theorem qN_L : Cond.initialized RL ∈ Gw := Gm1 0 (by decide +kernel) (by decide +kernel)
theorem qN_X5 : Cond.initialized RX5 ∈ Gw := Gm1 1 (by decide +kernel) (by decide +kernel)
theorem qN_X1 : Cond.initialized RX1 ∈ Gw := Gm1 2 (by decide +kernel) (by decide +kernel)
theorem qN_X3 : Cond.initialized RX3 ∈ Gw := Gm1 3 (by decide +kernel) (by decide +kernel)
theorem qN_X0 : Cond.initialized RX0 ∈ Gw := Gm1 4 (by decide +kernel) (by decide +kernel)
theorem qN_J10 : Cond.initialized RJ10 ∈ Gw := Gm1 5 (by decide +kernel) (by decide +kernel)
theorem qN_X4 : Cond.initialized RX4 ∈ Gw := Gm1 6 (by decide +kernel) (by decide +kernel)
theorem qN_X2 : Cond.initialized RX2 ∈ Gw := Gm1 7 (by decide +kernel) (by decide +kernel)
theorem qN_X6 : Cond.initialized RX6 ∈ Gw := Gm1 8 (by decide +kernel) (by decide +kernel)
theorem qN_Throwable : Cond.initialized "java/lang/Throwable" ∈ Gw := Gm1 9 (by decide +kernel) (by decide +kernel)
theorem qN_Exception : Cond.initialized "java/lang/Exception" ∈ Gw := Gm1 10 (by decide +kernel) (by decide +kernel)
theorem qN_RuntimeException : Cond.initialized "java/lang/RuntimeException" ∈ Gw := Gm1 11 (by decide +kernel) (by decide +kernel)
theorem qN_IndexOutOfBoundsException : Cond.initialized "java/lang/IndexOutOfBoundsException" ∈ Gw := Gm1 12 (by decide +kernel) (by decide +kernel)
theorem qN_IllegalStateException : Cond.initialized "java/lang/IllegalStateException" ∈ Gw := Gm1 13 (by decide +kernel) (by decide +kernel)
theorem qN_IllegalArgumentException : Cond.initialized "java/lang/IllegalArgumentException" ∈ Gw := Gm1 14 (by decide +kernel) (by decide +kernel)
theorem qN_J9 : Cond.initialized RJ9 ∈ Gw := Gm1 15 (by decide +kernel) (by decide +kernel)
theorem qN_Jxf58ca : Cond.initialized RJxf58ca ∈ Gw := Gm1 16 (by decide +kernel) (by decide +kernel)
theorem qN_Jxe99ae : Cond.initialized RJxe99ae ∈ Gw := Gm1 17 (by decide +kernel) (by decide +kernel)
theorem qK_L_8 : Cond.classLink RL 8 RX5 ∈ Gw := Gm1 18 (by decide +kernel) (by decide +kernel)
theorem qB_X5 : Cond.instantiable RX5 5 ∈ Gw := Gm1 19 (by decide +kernel) (by decide +kernel)
theorem qM_L_95 : Cond.methodLink RL 95 yX5_init ∈ Gw := Gm1 20 (by decide +kernel) (by decide +kernel)
theorem qI_X5_init : Cond.instanceMethod yX5_init ∈ Gw := Gm1 21 (by decide +kernel) (by decide +kernel)
theorem qC_X5_init : Cond.code yX5_init cX5_init 2 none ∈ Gw := Gm1 22 (by decide +kernel) (by decide +kernel)
theorem qM_X5_1 : Cond.methodLink RX5 1 (⟨"java/lang/Object", "<init>", "()V"⟩ : MethodName) ∈ Gw := Gm1 23 (by decide +kernel) (by decide +kernel)
theorem qI_Object_init_V : Cond.instanceMethod (⟨"java/lang/Object", "<init>", "()V"⟩ : MethodName) ∈ Gw := Gm1 24 (by decide +kernel) (by decide +kernel)
theorem qC_Object_init_V : Cond.code (⟨"java/lang/Object", "<init>", "()V"⟩ : MethodName) object_method_1_code 1 none ∈ Gw := Gm1 25 (by decide +kernel) (by decide +kernel)
theorem qK_X5_7 : Cond.classLink RX5 7 RX1 ∈ Gw := Gm1 26 (by decide +kernel) (by decide +kernel)
theorem qB_X1 : Cond.instantiable RX1 3 ∈ Gw := Gm1 27 (by decide +kernel) (by decide +kernel)
theorem qM_X5_9 : Cond.methodLink RX5 9 yX1_init ∈ Gw := Gm1 28 (by decide +kernel) (by decide +kernel)
theorem qI_X1_init : Cond.instanceMethod yX1_init ∈ Gw := Gm1 29 (by decide +kernel) (by decide +kernel)
theorem qC_X1_init : Cond.code yX1_init cX1_init 1 none ∈ Gw := Gm1 30 (by decide +kernel) (by decide +kernel)
theorem qM_X1_3 : Cond.methodLink RX1 3 (⟨"java/lang/Object", "<init>", "()V"⟩ : MethodName) ∈ Gw := Gm1 31 (by decide +kernel) (by decide +kernel)
theorem qK_X1_9 : Cond.classLink RX1 9 RX3 ∈ Gw := Gm1 32 (by decide +kernel) (by decide +kernel)
theorem qB_X3 : Cond.instantiable RX3 6 ∈ Gw := Gm1 33 (by decide +kernel) (by decide +kernel)
theorem qM_X1_11 : Cond.methodLink RX1 11 yX3_init ∈ Gw := Gm1 34 (by decide +kernel) (by decide +kernel)
theorem qI_X3_init : Cond.instanceMethod yX3_init ∈ Gw := Gm1 35 (by decide +kernel) (by decide +kernel)
theorem qC_X3_init : Cond.code yX3_init cX3_init 2 none ∈ Gw := Gm1 36 (by decide +kernel) (by decide +kernel)
theorem qM_X3_3 : Cond.methodLink RX3 3 (⟨"java/lang/Object", "<init>", "()V"⟩ : MethodName) ∈ Gw := Gm1 37 (by decide +kernel) (by decide +kernel)
theorem qF_X3_27 : Cond.fieldLink RX3 27 "CompostKeys$Keys" "day" "I" ∈ Gw := Gm1 38 (by decide +kernel) (by decide +kernel)
theorem qF_X5_166 : Cond.fieldLink RX5 166 "CompostKeys$Keys" "day" "I" ∈ Gw := Gm1 39 (by decide +kernel) (by decide +kernel)
theorem qF_X3_9 : Cond.fieldLink RX3 9 "CompostKeys$Keys" "seasons" "[I" ∈ Gw := Gm1 40 (by decide +kernel) (by decide +kernel)
theorem qF_X5_116 : Cond.fieldLink RX5 116 "CompostKeys$Keys" "seasons" "[I" ∈ Gw := Gm1 41 (by decide +kernel) (by decide +kernel)
theorem qF_X1_108 : Cond.fieldLink RX1 108 "CompostKeys$Keys" "seasons" "[I" ∈ Gw := Gm1 42 (by decide +kernel) (by decide +kernel)
theorem qF_X3_15 : Cond.fieldLink RX3 15 "CompostKeys$Keys" "status" "[I" ∈ Gw := Gm1 43 (by decide +kernel) (by decide +kernel)
theorem qF_X3_18 : Cond.fieldLink RX3 18 "CompostKeys$Keys" "rounds" "[I" ∈ Gw := Gm1 44 (by decide +kernel) (by decide +kernel)
theorem qF_X3_21 : Cond.fieldLink RX3 21 "CompostKeys$Keys" "places" "[I" ∈ Gw := Gm1 45 (by decide +kernel) (by decide +kernel)
theorem qF_X3_24 : Cond.fieldLink RX3 24 "CompostKeys$Keys" "since" "[I" ∈ Gw := Gm1 46 (by decide +kernel) (by decide +kernel)
theorem qA_int : Cond.arrayClass .int ∈ Gw := Gm1 60 (by decide +kernel) (by decide +kernel)
theorem qK_X1_18 : Cond.classLink RX1 18 RX0 ∈ Gw := Gm1 61 (by decide +kernel) (by decide +kernel)
theorem qB_X0 : Cond.instantiable RX0 8 ∈ Gw := Gm1 62 (by decide +kernel) (by decide +kernel)
theorem qM_X1_20 : Cond.methodLink RX1 20 yX0_init ∈ Gw := Gm1 63 (by decide +kernel) (by decide +kernel)
theorem qI_X0_init : Cond.instanceMethod yX0_init ∈ Gw := Gm1 64 (by decide +kernel) (by decide +kernel)
theorem qC_X0_init : Cond.code yX0_init cX0_init 1 none ∈ Gw := Gm1 65 (by decide +kernel) (by decide +kernel)
theorem qM_X0_3 : Cond.methodLink RX0 3 (⟨"java/lang/Object", "<init>", "()V"⟩ : MethodName) ∈ Gw := Gm1 66 (by decide +kernel) (by decide +kernel)
theorem qF_X0_9 : Cond.fieldLink RX0 9 "CompostKeys$Accounts" "given" "[I" ∈ Gw := Gm1 67 (by decide +kernel) (by decide +kernel)
theorem qF_X1_80 : Cond.fieldLink RX1 80 "CompostKeys$Accounts" "given" "[I" ∈ Gw := Gm1 68 (by decide +kernel) (by decide +kernel)
theorem qF_X0_15 : Cond.fieldLink RX0 15 "CompostKeys$Accounts" "deleted" "[I" ∈ Gw := Gm1 69 (by decide +kernel) (by decide +kernel)
theorem qF_X1_83 : Cond.fieldLink RX1 83 "CompostKeys$Accounts" "deleted" "[I" ∈ Gw := Gm1 70 (by decide +kernel) (by decide +kernel)
theorem qF_X0_18 : Cond.fieldLink RX0 18 "CompostKeys$Accounts" "broughtBack" "[I" ∈ Gw := Gm1 71 (by decide +kernel) (by decide +kernel)
theorem qF_X1_98 : Cond.fieldLink RX1 98 "CompostKeys$Accounts" "broughtBack" "[I" ∈ Gw := Gm1 72 (by decide +kernel) (by decide +kernel)
theorem qF_X0_21 : Cond.fieldLink RX0 21 "CompostKeys$Accounts" "without" "[I" ∈ Gw := Gm1 73 (by decide +kernel) (by decide +kernel)
theorem qF_X1_114 : Cond.fieldLink RX1 114 "CompostKeys$Accounts" "without" "[I" ∈ Gw := Gm1 74 (by decide +kernel) (by decide +kernel)
theorem qF_X0_24 : Cond.fieldLink RX0 24 "CompostKeys$Accounts" "tooSoon" "[I" ∈ Gw := Gm1 75 (by decide +kernel) (by decide +kernel)
theorem qF_X1_117 : Cond.fieldLink RX1 117 "CompostKeys$Accounts" "tooSoon" "[I" ∈ Gw := Gm1 76 (by decide +kernel) (by decide +kernel)
theorem qF_X0_33 : Cond.fieldLink RX0 33 "CompostKeys$Accounts" "followed" "I" ∈ Gw := Gm1 77 (by decide +kernel) (by decide +kernel)
theorem qF_X5_275 : Cond.fieldLink RX5 275 "CompostKeys$Accounts" "followed" "I" ∈ Gw := Gm1 78 (by decide +kernel) (by decide +kernel)
theorem qF_X0_37 : Cond.fieldLink RX0 37 "CompostKeys$Accounts" "mistakes" "I" ∈ Gw := Gm1 79 (by decide +kernel) (by decide +kernel)
theorem qF_X5_278 : Cond.fieldLink RX5 278 "CompostKeys$Accounts" "mistakes" "I" ∈ Gw := Gm1 80 (by decide +kernel) (by decide +kernel)
theorem qF_X0_40 : Cond.fieldLink RX0 40 "CompostKeys$Accounts" "dead" "I" ∈ Gw := Gm1 81 (by decide +kernel) (by decide +kernel)
theorem qF_X5_281 : Cond.fieldLink RX5 281 "CompostKeys$Accounts" "dead" "I" ∈ Gw := Gm1 82 (by decide +kernel) (by decide +kernel)
theorem qM_X1_32 : Cond.methodLink RX1 32 (⟨RJ10, "arraycopy", "(Ljava/lang/Object;ILjava/lang/Object;II)V"⟩ : MethodName) ∈ Gw := Gm1 102 (by decide +kernel) (by decide +kernel)
theorem qS_J10_arraycopy_LjavalangObjectILjavalangObjectIIV : Cond.static (⟨RJ10, "arraycopy", "(Ljava/lang/Object;ILjava/lang/Object;II)V"⟩ : MethodName) ∈ Gw := Gm1 103 (by decide +kernel) (by decide +kernel)
theorem qNat_J10_arraycopy_LjavalangObjectILjavalangObjectIIV : Cond.native (⟨RJ10, "arraycopy", "(Ljava/lang/Object;ILjava/lang/Object;II)V"⟩ : MethodName) ∈ Gw := Gm1 104 (by decide +kernel) (by decide +kernel)
theorem qF_X1_12 : Cond.fieldLink RX1 12 "CompostKeys$Compost" "keys" "LCompostKeys$Keys;" ∈ Gw := Gm1 105 (by decide +kernel) (by decide +kernel)
theorem qF_X5_80 : Cond.fieldLink RX5 80 "CompostKeys$Compost" "keys" "LCompostKeys$Keys;" ∈ Gw := Gm1 106 (by decide +kernel) (by decide +kernel)
theorem qF_X1_21 : Cond.fieldLink RX1 21 "CompostKeys$Compost" "accounts" "LCompostKeys$Accounts;" ∈ Gw := Gm1 107 (by decide +kernel) (by decide +kernel)
theorem qF_X5_266 : Cond.fieldLink RX5 266 "CompostKeys$Compost" "accounts" "LCompostKeys$Accounts;" ∈ Gw := Gm1 108 (by decide +kernel) (by decide +kernel)
theorem qF_X1_25 : Cond.fieldLink RX1 25 "CompostKeys$Compost" "settings" "[I" ∈ Gw := Gm1 109 (by decide +kernel) (by decide +kernel)
theorem qF_X5_129 : Cond.fieldLink RX5 129 "CompostKeys$Compost" "settings" "[I" ∈ Gw := Gm1 110 (by decide +kernel) (by decide +kernel)
theorem qK_X5_16 : Cond.classLink RX5 16 RX4 ∈ Gw := Gm1 118 (by decide +kernel) (by decide +kernel)
theorem qB_X4 : Cond.instantiable RX4 2 ∈ Gw := Gm1 119 (by decide +kernel) (by decide +kernel)
theorem qM_X5_18 : Cond.methodLink RX5 18 yX4_init ∈ Gw := Gm1 120 (by decide +kernel) (by decide +kernel)
theorem qI_X4_init : Cond.instanceMethod yX4_init ∈ Gw := Gm1 121 (by decide +kernel) (by decide +kernel)
theorem qC_X4_init : Cond.code yX4_init cX4_init 2 none ∈ Gw := Gm1 122 (by decide +kernel) (by decide +kernel)
theorem qM_X4_3 : Cond.methodLink RX4 3 (⟨"java/lang/Object", "<init>", "()V"⟩ : MethodName) ∈ Gw := Gm1 123 (by decide +kernel) (by decide +kernel)
theorem qK_X4_9 : Cond.classLink RX4 9 RX1 ∈ Gw := Gm1 124 (by decide +kernel) (by decide +kernel)
theorem qM_X4_17 : Cond.methodLink RX4 17 yX1_init ∈ Gw := Gm1 126 (by decide +kernel) (by decide +kernel)
theorem qF_X4_11 : Cond.fieldLink RX4 11 "CompostKeys$SavedStates" "states" "[LCompostKeys$Compost;" ∈ Gw := Gm1 127 (by decide +kernel) (by decide +kernel)
theorem qF_X4_18 : Cond.fieldLink RX4 18 "CompostKeys$SavedStates" "size" "I" ∈ Gw := Gm1 128 (by decide +kernel) (by decide +kernel)
theorem qF_X5_171 : Cond.fieldLink RX5 171 "CompostKeys$SavedStates" "size" "I" ∈ Gw := Gm1 129 (by decide +kernel) (by decide +kernel)
theorem qK_X5_31 : Cond.classLink RX5 31 RX2 ∈ Gw := Gm1 135 (by decide +kernel) (by decide +kernel)
theorem qB_X2 : Cond.instantiable RX2 2 ∈ Gw := Gm1 136 (by decide +kernel) (by decide +kernel)
theorem qM_X5_33 : Cond.methodLink RX5 33 yX2_init ∈ Gw := Gm1 137 (by decide +kernel) (by decide +kernel)
theorem qI_X2_init : Cond.instanceMethod yX2_init ∈ Gw := Gm1 138 (by decide +kernel) (by decide +kernel)
theorem qC_X2_init : Cond.code yX2_init cX2_init 1 none ∈ Gw := Gm1 139 (by decide +kernel) (by decide +kernel)
theorem qM_X2_3 : Cond.methodLink RX2 3 (⟨"java/lang/Object", "<init>", "()V"⟩ : MethodName) ∈ Gw := Gm1 140 (by decide +kernel) (by decide +kernel)
theorem qF_X2_9 : Cond.fieldLink RX2 9 "CompostKeys$DaysText" "codes" "[I" ∈ Gw := Gm1 141 (by decide +kernel) (by decide +kernel)
theorem qF_X2_15 : Cond.fieldLink RX2 15 "CompostKeys$DaysText" "length" "I" ∈ Gw := Gm1 142 (by decide +kernel) (by decide +kernel)
theorem qF_X5_141 : Cond.fieldLink RX5 141 "CompostKeys$DaysText" "length" "I" ∈ Gw := Gm1 143 (by decide +kernel) (by decide +kernel)
theorem qA_boolean : Cond.arrayClass .boolean ∈ Gw := Gm1 149 (by decide +kernel) (by decide +kernel)
theorem qF_X5_10 : Cond.fieldLink RX5 10 "CompostKeys" "now" "LCompostKeys$Compost;" ∈ Gw := Gm1 150 (by decide +kernel) (by decide +kernel)
theorem qF_X5_19 : Cond.fieldLink RX5 19 "CompostKeys" "saved" "LCompostKeys$SavedStates;" ∈ Gw := Gm1 151 (by decide +kernel) (by decide +kernel)
theorem qF_X5_23 : Cond.fieldLink RX5 23 "CompostKeys" "slots" "[LCompostKeys$Compost;" ∈ Gw := Gm1 152 (by decide +kernel) (by decide +kernel)
theorem qF_X5_27 : Cond.fieldLink RX5 27 "CompostKeys" "kept" "[Z" ∈ Gw := Gm1 153 (by decide +kernel) (by decide +kernel)
theorem qF_X5_34 : Cond.fieldLink RX5 34 "CompostKeys" "text" "LCompostKeys$DaysText;" ∈ Gw := Gm1 154 (by decide +kernel) (by decide +kernel)
theorem qM_L_137 : Cond.methodLink RL 137 yX5_clearBuffer ∈ Gw := Gm1 166 (by decide +kernel) (by decide +kernel)
theorem qI_X5_clearBuffer : Cond.instanceMethod yX5_clearBuffer ∈ Gw := Gm1 167 (by decide +kernel) (by decide +kernel)
theorem qV_X5_clearBuffer : Cond.selects RX5 yX5_clearBuffer yX5_clearBuffer ∈ Gw := Gm1 168 (by decide +kernel) (by decide +kernel)
theorem qC_X5_clearBuffer : Cond.code yX5_clearBuffer cX5_clearBuffer 2 (some .int) ∈ Gw := Gm1 169 (by decide +kernel) (by decide +kernel)
theorem qM_L_141 : Cond.methodLink RL 141 yX5_firstError ∈ Gw := Gm1 170 (by decide +kernel) (by decide +kernel)
theorem qI_X5_firstError : Cond.instanceMethod yX5_firstError ∈ Gw := Gm1 171 (by decide +kernel) (by decide +kernel)
theorem qV_X5_firstError : Cond.selects RX5 yX5_firstError yX5_firstError ∈ Gw := Gm1 172 (by decide +kernel) (by decide +kernel)
theorem qC_X5_firstError : Cond.code yX5_firstError cX5_firstError 1 (some .int) ∈ Gw := Gm1 173 (by decide +kernel) (by decide +kernel)
theorem qM_X5_145 : Cond.methodLink RX5 145 yX2_errorAt ∈ Gw := Gm1 174 (by decide +kernel) (by decide +kernel)
theorem qI_X2_errorAt : Cond.instanceMethod yX2_errorAt ∈ Gw := Gm1 175 (by decide +kernel) (by decide +kernel)
theorem qV_X2_errorAt : Cond.selects RX2 yX2_errorAt yX2_errorAt ∈ Gw := Gm1 176 (by decide +kernel) (by decide +kernel)
theorem qC_X2_errorAt : Cond.code yX2_errorAt cX2_errorAt 3 (some .int) ∈ Gw := Gm1 177 (by decide +kernel) (by decide +kernel)
theorem qM_X2_23 : Cond.methodLink RX2 23 yX2_codeAt ∈ Gw := Gm1 178 (by decide +kernel) (by decide +kernel)
theorem qI_X2_codeAt : Cond.instanceMethod yX2_codeAt ∈ Gw := Gm1 179 (by decide +kernel) (by decide +kernel)
theorem qV_X2_codeAt : Cond.selects RX2 yX2_codeAt yX2_codeAt ∈ Gw := Gm1 180 (by decide +kernel) (by decide +kernel)
theorem qC_X2_codeAt : Cond.code yX2_codeAt cX2_codeAt 2 (some .int) ∈ Gw := Gm1 181 (by decide +kernel) (by decide +kernel)
theorem qM_X2_27 : Cond.methodLink RX2 27 yX2_stateBehind ∈ Gw := Gm1 182 (by decide +kernel) (by decide +kernel)
theorem qS_X2_stateBehind : Cond.static yX2_stateBehind ∈ Gw := Gm1 183 (by decide +kernel) (by decide +kernel)
theorem qC_X2_stateBehind : Cond.code yX2_stateBehind cX2_stateBehind 2 (some .int) ∈ Gw := Gm1 184 (by decide +kernel) (by decide +kernel)
theorem qM_X2_31 : Cond.methodLink RX2 31 yX2_mayEnd ∈ Gw := Gm1 185 (by decide +kernel) (by decide +kernel)
theorem qS_X2_mayEnd : Cond.static yX2_mayEnd ∈ Gw := Gm1 186 (by decide +kernel) (by decide +kernel)
theorem qC_X2_mayEnd : Cond.code yX2_mayEnd cX2_mayEnd 1 (some .boolean) ∈ Gw := Gm1 187 (by decide +kernel) (by decide +kernel)
theorem qM_X2_35 : Cond.methodLink RX2 35 yX2_stateBehindVerb ∈ Gw := Gm1 188 (by decide +kernel) (by decide +kernel)
theorem qS_X2_stateBehindVerb : Cond.static yX2_stateBehindVerb ∈ Gw := Gm1 189 (by decide +kernel) (by decide +kernel)
theorem qC_X2_stateBehindVerb : Cond.code yX2_stateBehindVerb cX2_stateBehindVerb 1 (some .int) ∈ Gw := Gm1 190 (by decide +kernel) (by decide +kernel)
theorem qM_X2_38 : Cond.methodLink RX2 38 yX2_isDigit ∈ Gw := Gm1 191 (by decide +kernel) (by decide +kernel)
theorem qS_X2_isDigit : Cond.static yX2_isDigit ∈ Gw := Gm1 192 (by decide +kernel) (by decide +kernel)
theorem qC_X2_isDigit : Cond.code yX2_isDigit cX2_isDigit 1 (some .boolean) ∈ Gw := Gm1 193 (by decide +kernel) (by decide +kernel)
theorem qM_L_188 : Cond.methodLink RL 188 yX5_scarcest ∈ Gw := Gm1 194 (by decide +kernel) (by decide +kernel)
theorem qI_X5_scarcest : Cond.instanceMethod yX5_scarcest ∈ Gw := Gm1 195 (by decide +kernel) (by decide +kernel)
theorem qV_X5_scarcest : Cond.selects RX5 yX5_scarcest yX5_scarcest ∈ Gw := Gm1 196 (by decide +kernel) (by decide +kernel)
theorem qC_X5_scarcest : Cond.code yX5_scarcest cX5_scarcest 1 (some .int) ∈ Gw := Gm1 197 (by decide +kernel) (by decide +kernel)
theorem qM_X5_203 : Cond.methodLink RX5 203 yX3_scarcestKind ∈ Gw := Gm1 198 (by decide +kernel) (by decide +kernel)
theorem qI_X3_scarcestKind : Cond.instanceMethod yX3_scarcestKind ∈ Gw := Gm1 199 (by decide +kernel) (by decide +kernel)
theorem qV_X3_scarcestKind : Cond.selects RX3 yX3_scarcestKind yX3_scarcestKind ∈ Gw := Gm1 200 (by decide +kernel) (by decide +kernel)
theorem qC_X3_scarcestKind : Cond.code yX3_scarcestKind cX3_scarcestKind 5 (some .int) ∈ Gw := Gm1 201 (by decide +kernel) (by decide +kernel)
theorem qM_X3_57 : Cond.methodLink RX3 57 yX3_howMany ∈ Gw := Gm1 202 (by decide +kernel) (by decide +kernel)
theorem qI_X3_howMany : Cond.instanceMethod yX3_howMany ∈ Gw := Gm1 203 (by decide +kernel) (by decide +kernel)
theorem qV_X3_howMany : Cond.selects RX3 yX3_howMany yX3_howMany ∈ Gw := Gm1 204 (by decide +kernel) (by decide +kernel)
theorem qC_X3_howMany : Cond.code yX3_howMany cX3_howMany 5 (some .int) ∈ Gw := Gm1 205 (by decide +kernel) (by decide +kernel)
theorem qM_X3_46 : Cond.methodLink RX3 46 yX3_statusOf ∈ Gw := Gm1 206 (by decide +kernel) (by decide +kernel)
theorem qI_X3_statusOf : Cond.instanceMethod yX3_statusOf ∈ Gw := Gm1 207 (by decide +kernel) (by decide +kernel)
theorem qV_X3_statusOf : Cond.selects RX3 yX3_statusOf yX3_statusOf ∈ Gw := Gm1 208 (by decide +kernel) (by decide +kernel)
theorem qC_X3_statusOf : Cond.code yX3_statusOf cX3_statusOf 3 (some .int) ∈ Gw := Gm1 209 (by decide +kernel) (by decide +kernel)
theorem qM_X3_70 : Cond.methodLink RX3 70 yX3_howManyRipe ∈ Gw := Gm1 210 (by decide +kernel) (by decide +kernel)
theorem qI_X3_howManyRipe : Cond.instanceMethod yX3_howManyRipe ∈ Gw := Gm1 211 (by decide +kernel) (by decide +kernel)
theorem qV_X3_howManyRipe : Cond.selects RX3 yX3_howManyRipe yX3_howManyRipe ∈ Gw := Gm1 212 (by decide +kernel) (by decide +kernel)
theorem qC_X3_howManyRipe : Cond.code yX3_howManyRipe cX3_howManyRipe 4 (some .int) ∈ Gw := Gm1 213 (by decide +kernel) (by decide +kernel)
theorem qM_X3_49 : Cond.methodLink RX3 49 yX3_isRipe ∈ Gw := Gm1 214 (by decide +kernel) (by decide +kernel)
theorem qI_X3_isRipe : Cond.instanceMethod yX3_isRipe ∈ Gw := Gm1 215 (by decide +kernel) (by decide +kernel)
theorem qV_X3_isRipe : Cond.selects RX3 yX3_isRipe yX3_isRipe ∈ Gw := Gm1 216 (by decide +kernel) (by decide +kernel)
theorem qC_X3_isRipe : Cond.code yX3_isRipe cX3_isRipe 4 (some .boolean) ∈ Gw := Gm1 217 (by decide +kernel) (by decide +kernel)
theorem qM_L_192 : Cond.methodLink RL 192 yX5_ripeShare ∈ Gw := Gm1 218 (by decide +kernel) (by decide +kernel)
theorem qI_X5_ripeShare : Cond.instanceMethod yX5_ripeShare ∈ Gw := Gm1 219 (by decide +kernel) (by decide +kernel)
theorem qV_X5_ripeShare : Cond.selects RX5 yX5_ripeShare yX5_ripeShare ∈ Gw := Gm1 220 (by decide +kernel) (by decide +kernel)
theorem qC_X5_ripeShare : Cond.code yX5_ripeShare cX5_ripeShare 1 (some .double) ∈ Gw := Gm1 221 (by decide +kernel) (by decide +kernel)
theorem qM_X5_206 : Cond.methodLink RX5 206 yX3_shareOfRipe ∈ Gw := Gm1 222 (by decide +kernel) (by decide +kernel)
theorem qI_X3_shareOfRipe : Cond.instanceMethod yX3_shareOfRipe ∈ Gw := Gm1 223 (by decide +kernel) (by decide +kernel)
theorem qV_X3_shareOfRipe : Cond.selects RX3 yX3_shareOfRipe yX3_shareOfRipe ∈ Gw := Gm1 224 (by decide +kernel) (by decide +kernel)
theorem qC_X3_shareOfRipe : Cond.code yX3_shareOfRipe cX3_shareOfRipe 2 (some .double) ∈ Gw := Gm1 225 (by decide +kernel) (by decide +kernel)
theorem qM_X3_80 : Cond.methodLink RX3 80 yX3_howManyOfAll ∈ Gw := Gm1 226 (by decide +kernel) (by decide +kernel)
theorem qI_X3_howManyOfAll : Cond.instanceMethod yX3_howManyOfAll ∈ Gw := Gm1 227 (by decide +kernel) (by decide +kernel)
theorem qV_X3_howManyOfAll : Cond.selects RX3 yX3_howManyOfAll yX3_howManyOfAll ∈ Gw := Gm1 228 (by decide +kernel) (by decide +kernel)
theorem qC_X3_howManyOfAll : Cond.code yX3_howManyOfAll cX3_howManyOfAll 4 (some .int) ∈ Gw := Gm1 229 (by decide +kernel) (by decide +kernel)
theorem qM_X3_83 : Cond.methodLink RX3 83 yX3_howManyRipeOfAll ∈ Gw := Gm1 230 (by decide +kernel) (by decide +kernel)
theorem qI_X3_howManyRipeOfAll : Cond.instanceMethod yX3_howManyRipeOfAll ∈ Gw := Gm1 231 (by decide +kernel) (by decide +kernel)
theorem qV_X3_howManyRipeOfAll : Cond.selects RX3 yX3_howManyRipeOfAll yX3_howManyRipeOfAll ∈ Gw := Gm1 232 (by decide +kernel) (by decide +kernel)
theorem qC_X3_howManyRipeOfAll : Cond.code yX3_howManyRipeOfAll cX3_howManyRipeOfAll 3 (some .int) ∈ Gw := Gm1 233 (by decide +kernel) (by decide +kernel)
theorem qM_L_201 : Cond.methodLink RL 201 yX5_digest ∈ Gw := Gm1 234 (by decide +kernel) (by decide +kernel)
theorem qI_X5_digest : Cond.instanceMethod yX5_digest ∈ Gw := Gm1 235 (by decide +kernel) (by decide +kernel)
theorem qV_X5_digest : Cond.selects RX5 yX5_digest yX5_digest ∈ Gw := Gm1 236 (by decide +kernel) (by decide +kernel)
theorem qC_X5_digest : Cond.code yX5_digest cX5_digest 4 (some .long) ∈ Gw := Gm1 237 (by decide +kernel) (by decide +kernel)
theorem qCon_X5_214 : Cond.constantLong RX5 214 (3361 : Int64) ∈ Gw := Gm1 238 (by decide +kernel) (by decide +kernel)
theorem qM_X5_185 : Cond.methodLink RX5 185 yX5_numberOf ∈ Gw := Gm1 239 (by decide +kernel) (by decide +kernel)
theorem qI_X5_numberOf : Cond.instanceMethod yX5_numberOf ∈ Gw := Gm2 1 (by decide +kernel) (by decide +kernel)
theorem qC_X5_numberOf : Cond.code yX5_numberOf cX5_numberOf 2 (some .int) ∈ Gw := Gm2 2 (by decide +kernel) (by decide +kernel)
theorem qM_X5_263 : Cond.methodLink RX5 263 yX3_howManyOfAll ∈ Gw := Gm2 3 (by decide +kernel) (by decide +kernel)
theorem qM_X5_270 : Cond.methodLink RX5 270 yX0_aliveByAccount ∈ Gw := Gm2 4 (by decide +kernel) (by decide +kernel)
theorem qI_X0_aliveByAccount : Cond.instanceMethod yX0_aliveByAccount ∈ Gw := Gm2 5 (by decide +kernel) (by decide +kernel)
theorem qV_X0_aliveByAccount : Cond.selects RX0 yX0_aliveByAccount yX0_aliveByAccount ∈ Gw := Gm2 6 (by decide +kernel) (by decide +kernel)
theorem qC_X0_aliveByAccount : Cond.code yX0_aliveByAccount cX0_aliveByAccount 3 (some .int) ∈ Gw := Gm2 7 (by decide +kernel) (by decide +kernel)
theorem qM_X5_112 : Cond.methodLink RX5 112 yX3_howManyRipeOfAll ∈ Gw := Gm2 8 (by decide +kernel) (by decide +kernel)
theorem qM_X5_284 : Cond.methodLink RX5 284 yX3_greatestRound ∈ Gw := Gm2 9 (by decide +kernel) (by decide +kernel)
theorem qI_X3_greatestRound : Cond.instanceMethod yX3_greatestRound ∈ Gw := Gm2 10 (by decide +kernel) (by decide +kernel)
theorem qV_X3_greatestRound : Cond.selects RX3 yX3_greatestRound yX3_greatestRound ∈ Gw := Gm2 11 (by decide +kernel) (by decide +kernel)
theorem qC_X3_greatestRound : Cond.code yX3_greatestRound cX3_greatestRound 3 (some .int) ∈ Gw := Gm2 12 (by decide +kernel) (by decide +kernel)
theorem qM_X3_41 : Cond.methodLink RX3 41 yJ9_max_7cf53 ∈ Gw := Gm2 13 (by decide +kernel) (by decide +kernel)
theorem qS_J9_max_7cf53 : Cond.static yJ9_max_7cf53 ∈ Gw := Gm2 14 (by decide +kernel) (by decide +kernel)
theorem qC_J9_max_7cf53 : Cond.code yJ9_max_7cf53 cJ9_max_7cf53 2 (some .int) ∈ Gw := Gm2 15 (by decide +kernel) (by decide +kernel)
theorem qM_X5_216 : Cond.methodLink RX5 216 yX5_mix ∈ Gw := Gm2 16 (by decide +kernel) (by decide +kernel)
theorem qS_X5_mix : Cond.static yX5_mix ∈ Gw := Gm2 17 (by decide +kernel) (by decide +kernel)
theorem qC_X5_mix : Cond.code yX5_mix cX5_mix 4 (some .long) ∈ Gw := Gm2 18 (by decide +kernel) (by decide +kernel)
theorem qCon_X5_287 : Cond.constantLong RX5 287 (31 : Int64) ∈ Gw := Gm2 19 (by decide +kernel) (by decide +kernel)
theorem qM_X5_220 : Cond.methodLink RX5 220 yX5_mixKind ∈ Gw := Gm2 20 (by decide +kernel) (by decide +kernel)
theorem qI_X5_mixKind : Cond.instanceMethod yX5_mixKind ∈ Gw := Gm2 22 (by decide +kernel) (by decide +kernel)
theorem qC_X5_mixKind : Cond.code yX5_mixKind cX5_mixKind 8 (some .long) ∈ Gw := Gm2 23 (by decide +kernel) (by decide +kernel)
theorem qM_X5_182 : Cond.methodLink RX5 182 yX1_propertyOfKind ∈ Gw := Gm2 24 (by decide +kernel) (by decide +kernel)
theorem qI_X1_propertyOfKind : Cond.instanceMethod yX1_propertyOfKind ∈ Gw := Gm2 25 (by decide +kernel) (by decide +kernel)
theorem qV_X1_propertyOfKind : Cond.selects RX1 yX1_propertyOfKind yX1_propertyOfKind ∈ Gw := Gm2 26 (by decide +kernel) (by decide +kernel)
theorem qC_X1_propertyOfKind : Cond.code yX1_propertyOfKind cX1_propertyOfKind 3 (some .int) ∈ Gw := Gm2 27 (by decide +kernel) (by decide +kernel)
theorem qM_X1_49 : Cond.methodLink RX1 49 yX3_howMany ∈ Gw := Gm2 28 (by decide +kernel) (by decide +kernel)
theorem qM_X1_111 : Cond.methodLink RX1 111 yX3_howManyRipe ∈ Gw := Gm2 29 (by decide +kernel) (by decide +kernel)
theorem qM_X5_179 : Cond.methodLink RX5 179 yX3_propertyOfKey ∈ Gw := Gm2 30 (by decide +kernel) (by decide +kernel)
theorem qI_X3_propertyOfKey : Cond.instanceMethod yX3_propertyOfKey ∈ Gw := Gm2 31 (by decide +kernel) (by decide +kernel)
theorem qV_X3_propertyOfKey : Cond.selects RX3 yX3_propertyOfKey yX3_propertyOfKey ∈ Gw := Gm2 32 (by decide +kernel) (by decide +kernel)
theorem qC_X3_propertyOfKey : Cond.code yX3_propertyOfKey cX3_propertyOfKey 4 (some .int) ∈ Gw := Gm2 33 (by decide +kernel) (by decide +kernel)
theorem qM_X3_67 : Cond.methodLink RX3 67 yX3_roundOf ∈ Gw := Gm2 34 (by decide +kernel) (by decide +kernel)
theorem qI_X3_roundOf : Cond.instanceMethod yX3_roundOf ∈ Gw := Gm2 35 (by decide +kernel) (by decide +kernel)
theorem qV_X3_roundOf : Cond.selects RX3 yX3_roundOf yX3_roundOf ∈ Gw := Gm2 36 (by decide +kernel) (by decide +kernel)
theorem qC_X3_roundOf : Cond.code yX3_roundOf cX3_roundOf 3 (some .int) ∈ Gw := Gm2 37 (by decide +kernel) (by decide +kernel)
theorem qM_X3_37 : Cond.methodLink RX3 37 yX3_daysLain ∈ Gw := Gm2 38 (by decide +kernel) (by decide +kernel)
theorem qI_X3_daysLain : Cond.instanceMethod yX3_daysLain ∈ Gw := Gm2 39 (by decide +kernel) (by decide +kernel)
theorem qV_X3_daysLain : Cond.selects RX3 yX3_daysLain yX3_daysLain ∈ Gw := Gm2 40 (by decide +kernel) (by decide +kernel)
theorem qC_X3_daysLain : Cond.code yX3_daysLain cX3_daysLain 3 (some .int) ∈ Gw := Gm2 41 (by decide +kernel) (by decide +kernel)
theorem qM_X3_74 : Cond.methodLink RX3 74 yX3_daysToRipe ∈ Gw := Gm2 42 (by decide +kernel) (by decide +kernel)
theorem qI_X3_daysToRipe : Cond.instanceMethod yX3_daysToRipe ∈ Gw := Gm2 43 (by decide +kernel) (by decide +kernel)
theorem qV_X3_daysToRipe : Cond.selects RX3 yX3_daysToRipe yX3_daysToRipe ∈ Gw := Gm2 44 (by decide +kernel) (by decide +kernel)
theorem qC_X3_daysToRipe : Cond.code yX3_daysToRipe cX3_daysToRipe 3 (some .int) ∈ Gw := Gm2 45 (by decide +kernel) (by decide +kernel)
theorem qM_X5_89 : Cond.methodLink RX5 89 yX3_keyAt ∈ Gw := Gm2 46 (by decide +kernel) (by decide +kernel)
theorem qI_X3_keyAt : Cond.instanceMethod yX3_keyAt ∈ Gw := Gm2 47 (by decide +kernel) (by decide +kernel)
theorem qV_X3_keyAt : Cond.selects RX3 yX3_keyAt yX3_keyAt ∈ Gw := Gm2 48 (by decide +kernel) (by decide +kernel)
theorem qC_X3_keyAt : Cond.code yX3_keyAt cX3_keyAt 4 (some .int) ∈ Gw := Gm2 49 (by decide +kernel) (by decide +kernel)
theorem qM_X5_188 : Cond.methodLink RX5 188 yX1_answerToRow ∈ Gw := Gm2 50 (by decide +kernel) (by decide +kernel)
theorem qI_X1_answerToRow : Cond.instanceMethod yX1_answerToRow ∈ Gw := Gm2 51 (by decide +kernel) (by decide +kernel)
theorem qV_X1_answerToRow : Cond.selects RX1 yX1_answerToRow yX1_answerToRow ∈ Gw := Gm2 52 (by decide +kernel) (by decide +kernel)
theorem qC_X1_answerToRow : Cond.code yX1_answerToRow cX1_answerToRow 3 (some .int) ∈ Gw := Gm2 53 (by decide +kernel) (by decide +kernel)
theorem qM_X1_45 : Cond.methodLink RX1 45 yX3_draw ∈ Gw := Gm2 54 (by decide +kernel) (by decide +kernel)
theorem qI_X3_draw : Cond.instanceMethod yX3_draw ∈ Gw := Gm2 55 (by decide +kernel) (by decide +kernel)
theorem qV_X3_draw : Cond.selects RX3 yX3_draw yX3_draw ∈ Gw := Gm2 56 (by decide +kernel) (by decide +kernel)
theorem qC_X3_draw : Cond.code yX3_draw cX3_draw 8 (some .int) ∈ Gw := Gm2 57 (by decide +kernel) (by decide +kernel)
theorem qM_X3_60 : Cond.methodLink RX3 60 yX3_canBeGiven ∈ Gw := Gm2 58 (by decide +kernel) (by decide +kernel)
theorem qI_X3_canBeGiven : Cond.instanceMethod yX3_canBeGiven ∈ Gw := Gm2 59 (by decide +kernel) (by decide +kernel)
theorem qV_X3_canBeGiven : Cond.selects RX3 yX3_canBeGiven yX3_canBeGiven ∈ Gw := Gm2 60 (by decide +kernel) (by decide +kernel)
theorem qC_X3_canBeGiven : Cond.code yX3_canBeGiven cX3_canBeGiven 3 (some .boolean) ∈ Gw := Gm2 61 (by decide +kernel) (by decide +kernel)
theorem qM_X3_63 : Cond.methodLink RX3 63 yX3_rankByRule ∈ Gw := Gm2 62 (by decide +kernel) (by decide +kernel)
theorem qI_X3_rankByRule : Cond.instanceMethod yX3_rankByRule ∈ Gw := Gm2 64 (by decide +kernel) (by decide +kernel)
theorem qC_X3_rankByRule : Cond.code yX3_rankByRule cX3_rankByRule 6 (some .int) ∈ Gw := Gm2 65 (by decide +kernel) (by decide +kernel)
theorem qM_X5_191 : Cond.methodLink RX5 191 yX3_daysToKey ∈ Gw := Gm2 66 (by decide +kernel) (by decide +kernel)
theorem qI_X3_daysToKey : Cond.instanceMethod yX3_daysToKey ∈ Gw := Gm2 67 (by decide +kernel) (by decide +kernel)
theorem qV_X3_daysToKey : Cond.selects RX3 yX3_daysToKey yX3_daysToKey ∈ Gw := Gm2 68 (by decide +kernel) (by decide +kernel)
theorem qC_X3_daysToKey : Cond.code yX3_daysToKey cX3_daysToKey 5 (some .int) ∈ Gw := Gm2 69 (by decide +kernel) (by decide +kernel)
theorem qM_X5_194 : Cond.methodLink RX5 194 yX1_keyOfRow ∈ Gw := Gm2 70 (by decide +kernel) (by decide +kernel)
theorem qI_X1_keyOfRow : Cond.instanceMethod yX1_keyOfRow ∈ Gw := Gm2 71 (by decide +kernel) (by decide +kernel)
theorem qV_X1_keyOfRow : Cond.selects RX1 yX1_keyOfRow yX1_keyOfRow ∈ Gw := Gm2 72 (by decide +kernel) (by decide +kernel)
theorem qC_X1_keyOfRow : Cond.code yX1_keyOfRow cX1_keyOfRow 6 (some .int) ∈ Gw := Gm2 73 (by decide +kernel) (by decide +kernel)
theorem qM_X5_197 : Cond.methodLink RX5 197 yX3_longestSeason ∈ Gw := Gm2 74 (by decide +kernel) (by decide +kernel)
theorem qI_X3_longestSeason : Cond.instanceMethod yX3_longestSeason ∈ Gw := Gm2 75 (by decide +kernel) (by decide +kernel)
theorem qV_X3_longestSeason : Cond.selects RX3 yX3_longestSeason yX3_longestSeason ∈ Gw := Gm2 76 (by decide +kernel) (by decide +kernel)
theorem qC_X3_longestSeason : Cond.code yX3_longestSeason cX3_longestSeason 4 (some .int) ∈ Gw := Gm2 77 (by decide +kernel) (by decide +kernel)
theorem qM_X3_77 : Cond.methodLink RX3 77 yJ9_min_7cf53 ∈ Gw := Gm2 78 (by decide +kernel) (by decide +kernel)
theorem qS_J9_min_7cf53 : Cond.static yJ9_min_7cf53 ∈ Gw := Gm2 79 (by decide +kernel) (by decide +kernel)
theorem qC_J9_min_7cf53 : Cond.code yJ9_min_7cf53 cJ9_min_7cf53 2 (some .int) ∈ Gw := Gm2 80 (by decide +kernel) (by decide +kernel)
theorem qM_X5_210 : Cond.methodLink RX5 210 yX3_meanDays ∈ Gw := Gm2 81 (by decide +kernel) (by decide +kernel)
theorem qI_X3_meanDays : Cond.instanceMethod yX3_meanDays ∈ Gw := Gm2 82 (by decide +kernel) (by decide +kernel)
theorem qV_X3_meanDays : Cond.selects RX3 yX3_meanDays yX3_meanDays ∈ Gw := Gm2 83 (by decide +kernel) (by decide +kernel)
theorem qC_X3_meanDays : Cond.code yX3_meanDays cX3_meanDays 5 (some .float) ∈ Gw := Gm2 84 (by decide +kernel) (by decide +kernel)
theorem qM_X5_224 : Cond.methodLink RX5 224 yX5_bitsOf ∈ Gw := Gm2 85 (by decide +kernel) (by decide +kernel)
theorem qS_X5_bitsOf : Cond.static yX5_bitsOf ∈ Gw := Gm2 86 (by decide +kernel) (by decide +kernel)
theorem qC_X5_bitsOf : Cond.code yX5_bitsOf cX5_bitsOf 10 (some .long) ∈ Gw := Gm2 87 (by decide +kernel) (by decide +kernel)
theorem qCon_X5_289 : Cond.constantDouble RX5 289 (4611686018427387904 : UInt64) ∈ Gw := Gm2 88 (by decide +kernel) (by decide +kernel)
theorem qCon_X5_291 : Cond.constantLong RX5 291 (2 : Int64) ∈ Gw := Gm2 89 (by decide +kernel) (by decide +kernel)
theorem qM_X5_228 : Cond.methodLink RX5 228 yX2_codeAt ∈ Gw := Gm2 90 (by decide +kernel) (by decide +kernel)
theorem qM_L_99 : Cond.methodLink RL 99 yL_ask ∈ Gw := Gm2 91 (by decide +kernel) (by decide +kernel)
theorem qS_L_ask : Cond.static yL_ask ∈ Gw := Gm2 92 (by decide +kernel) (by decide +kernel)
theorem qC_L_ask : Cond.codeWith yL_ask cL_ask 4 (some .int) [(0, 9, 12, 13)] ∈ Gw := Gm2 93 (by decide +kernel) (by decide +kernel)
theorem qK_L_13 : Cond.classLink RL 13 "java/lang/IndexOutOfBoundsException" ∈ Gw := Gm2 94 (by decide +kernel) (by decide +kernel)
theorem qM_L_7 : Cond.methodLink RL 7 yX5_ask ∈ Gw := Gm2 95 (by decide +kernel) (by decide +kernel)
theorem qI_X5_ask : Cond.instanceMethod yX5_ask ∈ Gw := Gm2 96 (by decide +kernel) (by decide +kernel)
theorem qV_X5_ask : Cond.selects RX5 yX5_ask yX5_ask ∈ Gw := Gm2 97 (by decide +kernel) (by decide +kernel)
theorem qC_X5_ask : Cond.code yX5_ask cX5_ask 2 (some .int) ∈ Gw := Gm2 98 (by decide +kernel) (by decide +kernel)
theorem qM_X5_38 : Cond.methodLink RX5 38 yX5_needKind ∈ Gw := Gm2 99 (by decide +kernel) (by decide +kernel)
theorem qS_X5_needKind : Cond.static yX5_needKind ∈ Gw := Gm2 100 (by decide +kernel) (by decide +kernel)
theorem qC_X5_needKind : Cond.code yX5_needKind cX5_needKind 1 none ∈ Gw := Gm2 101 (by decide +kernel) (by decide +kernel)
theorem qM_X5_231 : Cond.methodLink RX5 231 yX5_isKind ∈ Gw := Gm2 102 (by decide +kernel) (by decide +kernel)
theorem qS_X5_isKind : Cond.static yX5_isKind ∈ Gw := Gm2 103 (by decide +kernel) (by decide +kernel)
theorem qC_X5_isKind : Cond.code yX5_isKind cX5_isKind 1 (some .boolean) ∈ Gw := Gm2 104 (by decide +kernel) (by decide +kernel)
theorem qK_X5_234 : Cond.classLink RX5 234 "java/lang/IndexOutOfBoundsException" ∈ Gw := Gm2 105 (by decide +kernel) (by decide +kernel)
theorem qB_IndexOutOfBoundsException : Cond.instantiable "java/lang/IndexOutOfBoundsException" 6 ∈ Gw := Gm2 106 (by decide +kernel) (by decide +kernel)
theorem qF_Throwable_198 : Cond.fieldLink "java/lang/Throwable" 198 "java/lang/Throwable" "backtrace" "Ljava/lang/Object;" ∈ Gw := Gm2 126 (by decide +kernel) (by decide +kernel)
theorem qI_Throwable_init_V : Cond.instanceMethod (⟨"java/lang/Throwable", "<init>", "()V"⟩ : MethodName) ∈ Gw := Gm2 128 (by decide +kernel) (by decide +kernel)
theorem qC_Throwable_init_V : Cond.code (⟨"java/lang/Throwable", "<init>", "()V"⟩ : MethodName) prog_19_method_1_code 1 none ∈ Gw := Gm2 129 (by decide +kernel) (by decide +kernel)
theorem qM_Throwable_1 : Cond.methodLink "java/lang/Throwable" 1 (⟨"java/lang/Object", "<init>", "()V"⟩ : MethodName) ∈ Gw := Gm2 130 (by decide +kernel) (by decide +kernel)
theorem qF_Throwable_13 : Cond.fieldLink "java/lang/Throwable" 13 "java/lang/Throwable" "UNASSIGNED_STACK" "[Ljava/lang/StackTraceElement;" ∈ Gw := Gm2 131 (by decide +kernel) (by decide +kernel)
theorem qF_Throwable_20 : Cond.fieldLink "java/lang/Throwable" 20 "java/lang/Throwable" "SUPPRESSED_SENTINEL" "Ljava/util/List;" ∈ Gw := Gm2 133 (by decide +kernel) (by decide +kernel)
theorem qM_Throwable_27 : Cond.methodLink "java/lang/Throwable" 27 (⟨"java/lang/Throwable", "fillInStackTrace", "()Ljava/lang/Throwable;"⟩ : MethodName) ∈ Gw := Gm2 135 (by decide +kernel) (by decide +kernel)
theorem qI_Throwable_fillInStackTrace_LjavalangThrowable : Cond.instanceMethod (⟨"java/lang/Throwable", "fillInStackTrace", "()Ljava/lang/Throwable;"⟩ : MethodName) ∈ Gw := Gm2 136 (by decide +kernel) (by decide +kernel)
theorem qM_Throwable_202 : Cond.methodLink "java/lang/Throwable" 202 (⟨"java/lang/Throwable", "fillInStackTrace", "(I)Ljava/lang/Throwable;"⟩ : MethodName) ∈ Gw := Gm2 141 (by decide +kernel) (by decide +kernel)
theorem qI_Throwable_fillInStackTrace_ILjavalangThrowable : Cond.instanceMethod (⟨"java/lang/Throwable", "fillInStackTrace", "(I)Ljava/lang/Throwable;"⟩ : MethodName) ∈ Gw := Gm2 143 (by decide +kernel) (by decide +kernel)
theorem qB_Throwable : Cond.instantiable "java/lang/Throwable" 6 ∈ Gw := Gm2 144 (by decide +kernel) (by decide +kernel)
theorem qNat_Throwable_fillInStackTrace_ILjavalangThrowable : Cond.native (⟨"java/lang/Throwable", "fillInStackTrace", "(I)Ljava/lang/Throwable;"⟩ : MethodName) ∈ Gw := Gm2 145 (by decide +kernel) (by decide +kernel)
theorem qM_X5_238 : Cond.methodLink RX5 238 (⟨"java/lang/IndexOutOfBoundsException", "<init>", "(Ljava/lang/String;)V"⟩ : MethodName) ∈ Gw := Gm2 147 (by decide +kernel) (by decide +kernel)
theorem qI_IndexOutOfBoundsException_init_LjavalangStringV : Cond.instanceMethod (⟨"java/lang/IndexOutOfBoundsException", "<init>", "(Ljava/lang/String;)V"⟩ : MethodName) ∈ Gw := Gm2 148 (by decide +kernel) (by decide +kernel)
theorem qC_IndexOutOfBoundsException_init_LjavalangStringV : Cond.code (⟨"java/lang/IndexOutOfBoundsException", "<init>", "(Ljava/lang/String;)V"⟩ : MethodName) prog_14_method_2_code 2 none ∈ Gw := Gm2 149 (by decide +kernel) (by decide +kernel)
theorem qM_IndexOutOfBoundsException_7 : Cond.methodLink "java/lang/IndexOutOfBoundsException" 7 (⟨"java/lang/RuntimeException", "<init>", "(Ljava/lang/String;)V"⟩ : MethodName) ∈ Gw := Gm2 150 (by decide +kernel) (by decide +kernel)
theorem qI_RuntimeException_init_LjavalangStringV : Cond.instanceMethod (⟨"java/lang/RuntimeException", "<init>", "(Ljava/lang/String;)V"⟩ : MethodName) ∈ Gw := Gm2 151 (by decide +kernel) (by decide +kernel)
theorem qC_RuntimeException_init_LjavalangStringV : Cond.code (⟨"java/lang/RuntimeException", "<init>", "(Ljava/lang/String;)V"⟩ : MethodName) prog_16_method_2_code 2 none ∈ Gw := Gm2 152 (by decide +kernel) (by decide +kernel)
theorem qM_RuntimeException_7 : Cond.methodLink "java/lang/RuntimeException" 7 (⟨"java/lang/Exception", "<init>", "(Ljava/lang/String;)V"⟩ : MethodName) ∈ Gw := Gm2 153 (by decide +kernel) (by decide +kernel)
theorem qI_Exception_init_LjavalangStringV : Cond.instanceMethod (⟨"java/lang/Exception", "<init>", "(Ljava/lang/String;)V"⟩ : MethodName) ∈ Gw := Gm2 154 (by decide +kernel) (by decide +kernel)
theorem qC_Exception_init_LjavalangStringV : Cond.code (⟨"java/lang/Exception", "<init>", "(Ljava/lang/String;)V"⟩ : MethodName) prog_10_method_2_code 2 none ∈ Gw := Gm2 155 (by decide +kernel) (by decide +kernel)
theorem qM_Exception_7 : Cond.methodLink "java/lang/Exception" 7 (⟨"java/lang/Throwable", "<init>", "(Ljava/lang/String;)V"⟩ : MethodName) ∈ Gw := Gm2 156 (by decide +kernel) (by decide +kernel)
theorem qI_Throwable_init_LjavalangStringV : Cond.instanceMethod (⟨"java/lang/Throwable", "<init>", "(Ljava/lang/String;)V"⟩ : MethodName) ∈ Gw := Gm2 157 (by decide +kernel) (by decide +kernel)
theorem qC_Throwable_init_LjavalangStringV : Cond.code (⟨"java/lang/Throwable", "<init>", "(Ljava/lang/String;)V"⟩ : MethodName) prog_19_method_2_code 2 none ∈ Gw := Gm2 158 (by decide +kernel) (by decide +kernel)
theorem qF_Throwable_31 : Cond.fieldLink "java/lang/Throwable" 31 "java/lang/Throwable" "detailMessage" "Ljava/lang/String;" ∈ Gw := Gm2 160 (by decide +kernel) (by decide +kernel)
theorem qF_Throwable_7 : Cond.fieldLink "java/lang/Throwable" 7 "java/lang/Throwable" "cause" "Ljava/lang/Throwable;" ∈ Gw := Gm2 161 (by decide +kernel) (by decide +kernel)
theorem qF_Throwable_17 : Cond.fieldLink "java/lang/Throwable" 17 "java/lang/Throwable" "stackTrace" "[Ljava/lang/StackTraceElement;" ∈ Gw := Gm2 162 (by decide +kernel) (by decide +kernel)
theorem qF_Throwable_24 : Cond.fieldLink "java/lang/Throwable" 24 "java/lang/Throwable" "suppressedExceptions" "Ljava/util/List;" ∈ Gw := Gm2 163 (by decide +kernel) (by decide +kernel)
theorem qA_byte : Cond.arrayClass .byte ∈ Gw := Gm2 172 (by decide +kernel) (by decide +kernel)
theorem qM_X5_42 : Cond.methodLink RX5 42 yX4_push ∈ Gw := Gm2 173 (by decide +kernel) (by decide +kernel)
theorem qI_X4_push : Cond.instanceMethod yX4_push ∈ Gw := Gm2 174 (by decide +kernel) (by decide +kernel)
theorem qV_X4_push : Cond.selects RX4 yX4_push yX4_push ∈ Gw := Gm2 175 (by decide +kernel) (by decide +kernel)
theorem qC_X4_push : Cond.code yX4_push cX4_push 2 none ∈ Gw := Gm2 176 (by decide +kernel) (by decide +kernel)
theorem qM_X4_22 : Cond.methodLink RX4 22 yX4_dropOldest ∈ Gw := Gm2 177 (by decide +kernel) (by decide +kernel)
theorem qI_X4_dropOldest : Cond.instanceMethod yX4_dropOldest ∈ Gw := Gm2 179 (by decide +kernel) (by decide +kernel)
theorem qC_X4_dropOldest : Cond.code yX4_dropOldest cX4_dropOldest 3 none ∈ Gw := Gm2 180 (by decide +kernel) (by decide +kernel)
theorem qM_X4_25 : Cond.methodLink RX4 25 yX1_copyState ∈ Gw := Gm2 181 (by decide +kernel) (by decide +kernel)
theorem qS_X1_copyState : Cond.static yX1_copyState ∈ Gw := Gm2 182 (by decide +kernel) (by decide +kernel)
theorem qC_X1_copyState : Cond.code yX1_copyState cX1_copyState 2 none ∈ Gw := Gm2 183 (by decide +kernel) (by decide +kernel)
theorem qM_X1_38 : Cond.methodLink RX1 38 yX3_copyFrom ∈ Gw := Gm2 184 (by decide +kernel) (by decide +kernel)
theorem qI_X3_copyFrom : Cond.instanceMethod yX3_copyFrom ∈ Gw := Gm2 185 (by decide +kernel) (by decide +kernel)
theorem qV_X3_copyFrom : Cond.selects RX3 yX3_copyFrom yX3_copyFrom ∈ Gw := Gm2 186 (by decide +kernel) (by decide +kernel)
theorem qC_X3_copyFrom : Cond.code yX3_copyFrom cX3_copyFrom 2 none ∈ Gw := Gm2 187 (by decide +kernel) (by decide +kernel)
theorem qM_X3_31 : Cond.methodLink RX3 31 (⟨RJ10, "arraycopy", "(Ljava/lang/Object;ILjava/lang/Object;II)V"⟩ : MethodName) ∈ Gw := Gm2 188 (by decide +kernel) (by decide +kernel)
theorem qM_X1_42 : Cond.methodLink RX1 42 yX0_copyFrom ∈ Gw := Gm2 189 (by decide +kernel) (by decide +kernel)
theorem qI_X0_copyFrom : Cond.instanceMethod yX0_copyFrom ∈ Gw := Gm2 190 (by decide +kernel) (by decide +kernel)
theorem qV_X0_copyFrom : Cond.selects RX0 yX0_copyFrom yX0_copyFrom ∈ Gw := Gm2 191 (by decide +kernel) (by decide +kernel)
theorem qC_X0_copyFrom : Cond.code yX0_copyFrom cX0_copyFrom 2 none ∈ Gw := Gm2 192 (by decide +kernel) (by decide +kernel)
theorem qM_X0_27 : Cond.methodLink RX0 27 (⟨RJ10, "arraycopy", "(Ljava/lang/Object;ILjava/lang/Object;II)V"⟩ : MethodName) ∈ Gw := Gm2 193 (by decide +kernel) (by decide +kernel)
theorem qM_X5_46 : Cond.methodLink RX5 46 yX1_serveRow ∈ Gw := Gm2 194 (by decide +kernel) (by decide +kernel)
theorem qI_X1_serveRow : Cond.instanceMethod yX1_serveRow ∈ Gw := Gm2 195 (by decide +kernel) (by decide +kernel)
theorem qV_X1_serveRow : Cond.selects RX1 yX1_serveRow yX1_serveRow ∈ Gw := Gm2 196 (by decide +kernel) (by decide +kernel)
theorem qC_X1_serveRow : Cond.code yX1_serveRow cX1_serveRow 3 (some .int) ∈ Gw := Gm2 197 (by decide +kernel) (by decide +kernel)
theorem qM_X1_53 : Cond.methodLink RX1 53 yX1_answerToRow ∈ Gw := Gm2 198 (by decide +kernel) (by decide +kernel)
theorem qM_X1_57 : Cond.methodLink RX1 57 yX0_noteWithout ∈ Gw := Gm2 199 (by decide +kernel) (by decide +kernel)
theorem qI_X0_noteWithout : Cond.instanceMethod yX0_noteWithout ∈ Gw := Gm2 200 (by decide +kernel) (by decide +kernel)
theorem qV_X0_noteWithout : Cond.selects RX0 yX0_noteWithout yX0_noteWithout ∈ Gw := Gm2 201 (by decide +kernel) (by decide +kernel)
theorem qC_X0_noteWithout : Cond.code yX0_noteWithout cX0_noteWithout 3 none ∈ Gw := Gm2 202 (by decide +kernel) (by decide +kernel)
theorem qM_X1_61 : Cond.methodLink RX1 61 yX1_giveKey ∈ Gw := Gm2 203 (by decide +kernel) (by decide +kernel)
theorem qI_X1_giveKey : Cond.instanceMethod yX1_giveKey ∈ Gw := Gm2 205 (by decide +kernel) (by decide +kernel)
theorem qC_X1_giveKey : Cond.code yX1_giveKey cX1_giveKey 3 none ∈ Gw := Gm2 206 (by decide +kernel) (by decide +kernel)
theorem qM_X1_77 : Cond.methodLink RX1 77 yX3_give ∈ Gw := Gm2 207 (by decide +kernel) (by decide +kernel)
theorem qI_X3_give : Cond.instanceMethod yX3_give ∈ Gw := Gm2 208 (by decide +kernel) (by decide +kernel)
theorem qV_X3_give : Cond.selects RX3 yX3_give yX3_give ∈ Gw := Gm2 209 (by decide +kernel) (by decide +kernel)
theorem qC_X3_give : Cond.code yX3_give cX3_give 3 none ∈ Gw := Gm2 210 (by decide +kernel) (by decide +kernel)
theorem qM_X3_53 : Cond.methodLink RX3 53 yX3_takeOut ∈ Gw := Gm2 211 (by decide +kernel) (by decide +kernel)
theorem qI_X3_takeOut : Cond.instanceMethod yX3_takeOut ∈ Gw := Gm2 213 (by decide +kernel) (by decide +kernel)
theorem qC_X3_takeOut : Cond.code yX3_takeOut cX3_takeOut 5 none ∈ Gw := Gm2 214 (by decide +kernel) (by decide +kernel)
theorem qM_L_108 : Cond.methodLink RL 108 yL_want ∈ Gw := Gm2 215 (by decide +kernel) (by decide +kernel)
theorem qS_L_want : Cond.static yL_want ∈ Gw := Gm2 216 (by decide +kernel) (by decide +kernel)
theorem qC_L_want : Cond.codeWith yL_want cL_want 5 (some .int) [(0, 10, 13, 13)] ∈ Gw := Gm2 217 (by decide +kernel) (by decide +kernel)
theorem qM_L_15 : Cond.methodLink RL 15 yX5_want ∈ Gw := Gm2 218 (by decide +kernel) (by decide +kernel)
theorem qI_X5_want : Cond.instanceMethod yX5_want ∈ Gw := Gm2 219 (by decide +kernel) (by decide +kernel)
theorem qV_X5_want : Cond.selects RX5 yX5_want yX5_want ∈ Gw := Gm2 220 (by decide +kernel) (by decide +kernel)
theorem qC_X5_want : Cond.code yX5_want cX5_want 3 (some .int) ∈ Gw := Gm2 221 (by decide +kernel) (by decide +kernel)
theorem qM_X5_50 : Cond.methodLink RX5 50 yX5_needKey ∈ Gw := Gm2 222 (by decide +kernel) (by decide +kernel)
theorem qS_X5_needKey : Cond.static yX5_needKey ∈ Gw := Gm2 223 (by decide +kernel) (by decide +kernel)
theorem qC_X5_needKey : Cond.code yX5_needKey cX5_needKey 2 none ∈ Gw := Gm2 224 (by decide +kernel) (by decide +kernel)
theorem qM_X5_239 : Cond.methodLink RX5 239 yX5_isKey ∈ Gw := Gm2 225 (by decide +kernel) (by decide +kernel)
theorem qS_X5_isKey : Cond.static yX5_isKey ∈ Gw := Gm2 226 (by decide +kernel) (by decide +kernel)
theorem qC_X5_isKey : Cond.code yX5_isKey cX5_isKey 1 (some .boolean) ∈ Gw := Gm2 227 (by decide +kernel) (by decide +kernel)
theorem qM_X5_54 : Cond.methodLink RX5 54 yX1_serveWish ∈ Gw := Gm2 229 (by decide +kernel) (by decide +kernel)
theorem qI_X1_serveWish : Cond.instanceMethod yX1_serveWish ∈ Gw := Gm2 230 (by decide +kernel) (by decide +kernel)
theorem qV_X1_serveWish : Cond.selects RX1 yX1_serveWish yX1_serveWish ∈ Gw := Gm2 231 (by decide +kernel) (by decide +kernel)
theorem qC_X1_serveWish : Cond.code yX1_serveWish cX1_serveWish 4 (some .int) ∈ Gw := Gm2 232 (by decide +kernel) (by decide +kernel)
theorem qM_X1_64 : Cond.methodLink RX1 64 yX1_reasonAgainst ∈ Gw := Gm2 233 (by decide +kernel) (by decide +kernel)
theorem qI_X1_reasonAgainst : Cond.instanceMethod yX1_reasonAgainst ∈ Gw := Gm2 235 (by decide +kernel) (by decide +kernel)
theorem qC_X1_reasonAgainst : Cond.code yX1_reasonAgainst cX1_reasonAgainst 3 (some .int) ∈ Gw := Gm2 236 (by decide +kernel) (by decide +kernel)
theorem qM_X1_70 : Cond.methodLink RX1 70 yX3_statusOf ∈ Gw := Gm2 237 (by decide +kernel) (by decide +kernel)
theorem qM_X1_73 : Cond.methodLink RX1 73 yX3_canBeGiven ∈ Gw := Gm2 238 (by decide +kernel) (by decide +kernel)
theorem qM_X1_67 : Cond.methodLink RX1 67 yX3_roundOf ∈ Gw := Gm2 239 (by decide +kernel) (by decide +kernel)
theorem qM_L_112 : Cond.methodLink RL 112 yL_delete ∈ Gw := Gm3 0 (by decide +kernel) (by decide +kernel)
theorem qS_L_delete : Cond.static yL_delete ∈ Gw := Gm3 1 (by decide +kernel) (by decide +kernel)
theorem qC_L_delete : Cond.codeWith yL_delete cL_delete 5 (some .int) [(0, 10, 13, 13), (0, 10, 17, 22)] ∈ Gw := Gm3 2 (by decide +kernel) (by decide +kernel)
theorem qK_L_22 : Cond.classLink RL 22 "java/lang/IllegalStateException" ∈ Gw := Gm3 3 (by decide +kernel) (by decide +kernel)
theorem qM_L_19 : Cond.methodLink RL 19 yX5_delete ∈ Gw := Gm3 4 (by decide +kernel) (by decide +kernel)
theorem qI_X5_delete : Cond.instanceMethod yX5_delete ∈ Gw := Gm3 5 (by decide +kernel) (by decide +kernel)
theorem qV_X5_delete : Cond.selects RX5 yX5_delete yX5_delete ∈ Gw := Gm3 6 (by decide +kernel) (by decide +kernel)
theorem qC_X5_delete : Cond.code yX5_delete cX5_delete 3 (some .int) ∈ Gw := Gm3 7 (by decide +kernel) (by decide +kernel)
theorem qM_X5_58 : Cond.methodLink RX5 58 yX1_canDelete ∈ Gw := Gm3 8 (by decide +kernel) (by decide +kernel)
theorem qI_X1_canDelete : Cond.instanceMethod yX1_canDelete ∈ Gw := Gm3 9 (by decide +kernel) (by decide +kernel)
theorem qV_X1_canDelete : Cond.selects RX1 yX1_canDelete yX1_canDelete ∈ Gw := Gm3 10 (by decide +kernel) (by decide +kernel)
theorem qC_X1_canDelete : Cond.code yX1_canDelete cX1_canDelete 3 (some .boolean) ∈ Gw := Gm3 11 (by decide +kernel) (by decide +kernel)
theorem qK_X5_62 : Cond.classLink RX5 62 "java/lang/IllegalStateException" ∈ Gw := Gm3 12 (by decide +kernel) (by decide +kernel)
theorem qB_IllegalStateException : Cond.instantiable "java/lang/IllegalStateException" 6 ∈ Gw := Gm3 13 (by decide +kernel) (by decide +kernel)
theorem qM_X5_66 : Cond.methodLink RX5 66 (⟨"java/lang/IllegalStateException", "<init>", "(Ljava/lang/String;)V"⟩ : MethodName) ∈ Gw := Gm3 22 (by decide +kernel) (by decide +kernel)
theorem qI_IllegalStateException_init_LjavalangStringV : Cond.instanceMethod (⟨"java/lang/IllegalStateException", "<init>", "(Ljava/lang/String;)V"⟩ : MethodName) ∈ Gw := Gm3 23 (by decide +kernel) (by decide +kernel)
theorem qC_IllegalStateException_init_LjavalangStringV : Cond.code (⟨"java/lang/IllegalStateException", "<init>", "(Ljava/lang/String;)V"⟩ : MethodName) prog_13_method_2_code 2 none ∈ Gw := Gm3 24 (by decide +kernel) (by decide +kernel)
theorem qM_IllegalStateException_7 : Cond.methodLink "java/lang/IllegalStateException" 7 (⟨"java/lang/RuntimeException", "<init>", "(Ljava/lang/String;)V"⟩ : MethodName) ∈ Gw := Gm3 25 (by decide +kernel) (by decide +kernel)
theorem qM_X5_69 : Cond.methodLink RX5 69 yX1_deleteRow ∈ Gw := Gm3 28 (by decide +kernel) (by decide +kernel)
theorem qI_X1_deleteRow : Cond.instanceMethod yX1_deleteRow ∈ Gw := Gm3 29 (by decide +kernel) (by decide +kernel)
theorem qV_X1_deleteRow : Cond.selects RX1 yX1_deleteRow yX1_deleteRow ∈ Gw := Gm3 30 (by decide +kernel) (by decide +kernel)
theorem qC_X1_deleteRow : Cond.code yX1_deleteRow cX1_deleteRow 3 (some .int) ∈ Gw := Gm3 31 (by decide +kernel) (by decide +kernel)
theorem qM_X1_86 : Cond.methodLink RX1 86 yX3_wearOut ∈ Gw := Gm3 32 (by decide +kernel) (by decide +kernel)
theorem qI_X3_wearOut : Cond.instanceMethod yX3_wearOut ∈ Gw := Gm3 33 (by decide +kernel) (by decide +kernel)
theorem qV_X3_wearOut : Cond.selects RX3 yX3_wearOut yX3_wearOut ∈ Gw := Gm3 34 (by decide +kernel) (by decide +kernel)
theorem qC_X3_wearOut : Cond.code yX3_wearOut cX3_wearOut 3 none ∈ Gw := Gm3 35 (by decide +kernel) (by decide +kernel)
theorem qM_X1_89 : Cond.methodLink RX1 89 yX3_layOnTop ∈ Gw := Gm3 36 (by decide +kernel) (by decide +kernel)
theorem qI_X3_layOnTop : Cond.instanceMethod yX3_layOnTop ∈ Gw := Gm3 37 (by decide +kernel) (by decide +kernel)
theorem qV_X3_layOnTop : Cond.selects RX3 yX3_layOnTop yX3_layOnTop ∈ Gw := Gm3 38 (by decide +kernel) (by decide +kernel)
theorem qC_X3_layOnTop : Cond.code yX3_layOnTop cX3_layOnTop 4 none ∈ Gw := Gm3 39 (by decide +kernel) (by decide +kernel)
theorem qM_L_115 : Cond.methodLink RL 115 yL_bringBack ∈ Gw := Gm3 40 (by decide +kernel) (by decide +kernel)
theorem qS_L_bringBack : Cond.static yL_bringBack ∈ Gw := Gm3 41 (by decide +kernel) (by decide +kernel)
theorem qC_L_bringBack : Cond.codeWith yL_bringBack cL_bringBack 5 (some .int) [(0, 10, 13, 13), (0, 10, 17, 22)] ∈ Gw := Gm3 42 (by decide +kernel) (by decide +kernel)
theorem qM_L_24 : Cond.methodLink RL 24 yX5_bringBack ∈ Gw := Gm3 43 (by decide +kernel) (by decide +kernel)
theorem qI_X5_bringBack : Cond.instanceMethod yX5_bringBack ∈ Gw := Gm3 44 (by decide +kernel) (by decide +kernel)
theorem qV_X5_bringBack : Cond.selects RX5 yX5_bringBack yX5_bringBack ∈ Gw := Gm3 45 (by decide +kernel) (by decide +kernel)
theorem qC_X5_bringBack : Cond.code yX5_bringBack cX5_bringBack 3 (some .int) ∈ Gw := Gm3 46 (by decide +kernel) (by decide +kernel)
theorem qM_X5_72 : Cond.methodLink RX5 72 yX1_canBringBack ∈ Gw := Gm3 47 (by decide +kernel) (by decide +kernel)
theorem qI_X1_canBringBack : Cond.instanceMethod yX1_canBringBack ∈ Gw := Gm3 48 (by decide +kernel) (by decide +kernel)
theorem qV_X1_canBringBack : Cond.selects RX1 yX1_canBringBack yX1_canBringBack ∈ Gw := Gm3 49 (by decide +kernel) (by decide +kernel)
theorem qC_X1_canBringBack : Cond.code yX1_canBringBack cX1_canBringBack 3 (some .boolean) ∈ Gw := Gm3 50 (by decide +kernel) (by decide +kernel)
theorem qM_X1_92 : Cond.methodLink RX1 92 yX3_daysLain ∈ Gw := Gm3 51 (by decide +kernel) (by decide +kernel)
theorem qM_X5_77 : Cond.methodLink RX5 77 yX1_bringRowBack ∈ Gw := Gm3 53 (by decide +kernel) (by decide +kernel)
theorem qI_X1_bringRowBack : Cond.instanceMethod yX1_bringRowBack ∈ Gw := Gm3 54 (by decide +kernel) (by decide +kernel)
theorem qV_X1_bringRowBack : Cond.selects RX1 yX1_bringRowBack yX1_bringRowBack ∈ Gw := Gm3 55 (by decide +kernel) (by decide +kernel)
theorem qC_X1_bringRowBack : Cond.code yX1_bringRowBack cX1_bringRowBack 3 (some .int) ∈ Gw := Gm3 56 (by decide +kernel) (by decide +kernel)
theorem qM_X1_95 : Cond.methodLink RX1 95 yX3_revive ∈ Gw := Gm3 57 (by decide +kernel) (by decide +kernel)
theorem qI_X3_revive : Cond.instanceMethod yX3_revive ∈ Gw := Gm3 58 (by decide +kernel) (by decide +kernel)
theorem qV_X3_revive : Cond.selects RX3 yX3_revive yX3_revive ∈ Gw := Gm3 59 (by decide +kernel) (by decide +kernel)
theorem qC_X3_revive : Cond.code yX3_revive cX3_revive 3 none ∈ Gw := Gm3 60 (by decide +kernel) (by decide +kernel)
theorem qM_L_118 : Cond.methodLink RL 118 yL_turn ∈ Gw := Gm3 61 (by decide +kernel) (by decide +kernel)
theorem qS_L_turn : Cond.static yL_turn ∈ Gw := Gm3 62 (by decide +kernel) (by decide +kernel)
theorem qC_L_turn : Cond.codeWith yL_turn cL_turn 4 (some .int) [(0, 9, 12, 13)] ∈ Gw := Gm3 63 (by decide +kernel) (by decide +kernel)
theorem qM_L_27 : Cond.methodLink RL 27 yX5_turn ∈ Gw := Gm3 64 (by decide +kernel) (by decide +kernel)
theorem qI_X5_turn : Cond.instanceMethod yX5_turn ∈ Gw := Gm3 65 (by decide +kernel) (by decide +kernel)
theorem qV_X5_turn : Cond.selects RX5 yX5_turn yX5_turn ∈ Gw := Gm3 66 (by decide +kernel) (by decide +kernel)
theorem qC_X5_turn : Cond.code yX5_turn cX5_turn 2 (some .int) ∈ Gw := Gm3 67 (by decide +kernel) (by decide +kernel)
theorem qM_X5_84 : Cond.methodLink RX5 84 yX3_turnPile ∈ Gw := Gm3 68 (by decide +kernel) (by decide +kernel)
theorem qI_X3_turnPile : Cond.instanceMethod yX3_turnPile ∈ Gw := Gm3 69 (by decide +kernel) (by decide +kernel)
theorem qV_X3_turnPile : Cond.selects RX3 yX3_turnPile yX3_turnPile ∈ Gw := Gm3 70 (by decide +kernel) (by decide +kernel)
theorem qC_X3_turnPile : Cond.code yX3_turnPile cX3_turnPile 4 none ∈ Gw := Gm3 71 (by decide +kernel) (by decide +kernel)
theorem qM_L_121 : Cond.methodLink RL 121 yL_follow ∈ Gw := Gm3 72 (by decide +kernel) (by decide +kernel)
theorem qS_L_follow : Cond.static yL_follow ∈ Gw := Gm3 73 (by decide +kernel) (by decide +kernel)
theorem qC_L_follow : Cond.codeWith yL_follow cL_follow 6 (some .int) [(0, 12, 15, 13), (0, 12, 19, 34)] ∈ Gw := Gm3 74 (by decide +kernel) (by decide +kernel)
theorem qK_L_34 : Cond.classLink RL 34 "java/lang/IllegalArgumentException" ∈ Gw := Gm3 75 (by decide +kernel) (by decide +kernel)
theorem qM_L_30 : Cond.methodLink RL 30 yX5_follow ∈ Gw := Gm3 76 (by decide +kernel) (by decide +kernel)
theorem qI_X5_follow : Cond.instanceMethod yX5_follow ∈ Gw := Gm3 77 (by decide +kernel) (by decide +kernel)
theorem qV_X5_follow : Cond.selects RX5 yX5_follow yX5_follow ∈ Gw := Gm3 78 (by decide +kernel) (by decide +kernel)
theorem qC_X5_follow : Cond.code yX5_follow cX5_follow 4 (some .int) ∈ Gw := Gm3 79 (by decide +kernel) (by decide +kernel)
theorem qM_X5_92 : Cond.methodLink RX5 92 yX5_needAtLeast ∈ Gw := Gm3 80 (by decide +kernel) (by decide +kernel)
theorem qS_X5_needAtLeast : Cond.static yX5_needAtLeast ∈ Gw := Gm3 81 (by decide +kernel) (by decide +kernel)
theorem qC_X5_needAtLeast : Cond.code yX5_needAtLeast cX5_needAtLeast 2 none ∈ Gw := Gm3 82 (by decide +kernel) (by decide +kernel)
theorem qK_X5_151 : Cond.classLink RX5 151 "java/lang/IllegalArgumentException" ∈ Gw := Gm3 83 (by decide +kernel) (by decide +kernel)
theorem qB_IllegalArgumentException : Cond.instantiable "java/lang/IllegalArgumentException" 6 ∈ Gw := Gm3 84 (by decide +kernel) (by decide +kernel)
theorem qM_X5_155 : Cond.methodLink RX5 155 (⟨"java/lang/IllegalArgumentException", "<init>", "(Ljava/lang/String;)V"⟩ : MethodName) ∈ Gw := Gm3 93 (by decide +kernel) (by decide +kernel)
theorem qI_IllegalArgumentException_init_LjavalangStringV : Cond.instanceMethod (⟨"java/lang/IllegalArgumentException", "<init>", "(Ljava/lang/String;)V"⟩ : MethodName) ∈ Gw := Gm3 94 (by decide +kernel) (by decide +kernel)
theorem qC_IllegalArgumentException_init_LjavalangStringV : Cond.code (⟨"java/lang/IllegalArgumentException", "<init>", "(Ljava/lang/String;)V"⟩ : MethodName) prog_12_method_2_code 2 none ∈ Gw := Gm3 95 (by decide +kernel) (by decide +kernel)
theorem qM_IllegalArgumentException_7 : Cond.methodLink "java/lang/IllegalArgumentException" 7 (⟨"java/lang/RuntimeException", "<init>", "(Ljava/lang/String;)V"⟩ : MethodName) ∈ Gw := Gm3 96 (by decide +kernel) (by decide +kernel)
theorem qM_X5_95 : Cond.methodLink RX5 95 yX1_followReference ∈ Gw := Gm3 99 (by decide +kernel) (by decide +kernel)
theorem qI_X1_followReference : Cond.instanceMethod yX1_followReference ∈ Gw := Gm3 100 (by decide +kernel) (by decide +kernel)
theorem qV_X1_followReference : Cond.selects RX1 yX1_followReference yX1_followReference ∈ Gw := Gm3 101 (by decide +kernel) (by decide +kernel)
theorem qC_X1_followReference : Cond.code yX1_followReference cX1_followReference 5 (some .int) ∈ Gw := Gm3 102 (by decide +kernel) (by decide +kernel)
theorem qM_X1_101 : Cond.methodLink RX1 101 yX3_judge ∈ Gw := Gm3 103 (by decide +kernel) (by decide +kernel)
theorem qI_X3_judge : Cond.instanceMethod yX3_judge ∈ Gw := Gm3 104 (by decide +kernel) (by decide +kernel)
theorem qV_X3_judge : Cond.selects RX3 yX3_judge yX3_judge ∈ Gw := Gm3 105 (by decide +kernel) (by decide +kernel)
theorem qC_X3_judge : Cond.code yX3_judge cX3_judge 4 (some .int) ∈ Gw := Gm3 106 (by decide +kernel) (by decide +kernel)
theorem qM_X1_104 : Cond.methodLink RX1 104 yX0_noteFollowed ∈ Gw := Gm3 107 (by decide +kernel) (by decide +kernel)
theorem qI_X0_noteFollowed : Cond.instanceMethod yX0_noteFollowed ∈ Gw := Gm3 108 (by decide +kernel) (by decide +kernel)
theorem qV_X0_noteFollowed : Cond.selects RX0 yX0_noteFollowed yX0_noteFollowed ∈ Gw := Gm3 109 (by decide +kernel) (by decide +kernel)
theorem qC_X0_noteFollowed : Cond.code yX0_noteFollowed cX0_noteFollowed 2 none ∈ Gw := Gm3 110 (by decide +kernel) (by decide +kernel)
theorem qM_L_125 : Cond.methodLink RL 125 yL_pass ∈ Gw := Gm3 111 (by decide +kernel) (by decide +kernel)
theorem qS_L_pass : Cond.static yL_pass ∈ Gw := Gm3 112 (by decide +kernel) (by decide +kernel)
theorem qC_L_pass : Cond.codeWith yL_pass cL_pass 4 (some .int) [(0, 9, 12, 34), (0, 9, 15, 22)] ∈ Gw := Gm3 113 (by decide +kernel) (by decide +kernel)
theorem qM_L_36 : Cond.methodLink RL 36 yX5_pass ∈ Gw := Gm3 114 (by decide +kernel) (by decide +kernel)
theorem qI_X5_pass : Cond.instanceMethod yX5_pass ∈ Gw := Gm3 115 (by decide +kernel) (by decide +kernel)
theorem qV_X5_pass : Cond.selects RX5 yX5_pass yX5_pass ∈ Gw := Gm3 116 (by decide +kernel) (by decide +kernel)
theorem qC_X5_pass : Cond.code yX5_pass cX5_pass 2 (some .int) ∈ Gw := Gm3 117 (by decide +kernel) (by decide +kernel)
theorem qM_X5_99 : Cond.methodLink RX5 99 yX5_needRange ∈ Gw := Gm3 118 (by decide +kernel) (by decide +kernel)
theorem qS_X5_needRange : Cond.static yX5_needRange ∈ Gw := Gm3 119 (by decide +kernel) (by decide +kernel)
theorem qC_X5_needRange : Cond.code yX5_needRange cX5_needRange 3 none ∈ Gw := Gm3 120 (by decide +kernel) (by decide +kernel)
theorem qM_X5_103 : Cond.methodLink RX5 103 yX3_canPass ∈ Gw := Gm3 122 (by decide +kernel) (by decide +kernel)
theorem qI_X3_canPass : Cond.instanceMethod yX3_canPass ∈ Gw := Gm3 123 (by decide +kernel) (by decide +kernel)
theorem qV_X3_canPass : Cond.selects RX3 yX3_canPass yX3_canPass ∈ Gw := Gm3 124 (by decide +kernel) (by decide +kernel)
theorem qC_X3_canPass : Cond.code yX3_canPass cX3_canPass 2 (some .boolean) ∈ Gw := Gm3 125 (by decide +kernel) (by decide +kernel)
theorem qM_X5_109 : Cond.methodLink RX5 109 yX3_letPass ∈ Gw := Gm3 127 (by decide +kernel) (by decide +kernel)
theorem qI_X3_letPass : Cond.instanceMethod yX3_letPass ∈ Gw := Gm3 128 (by decide +kernel) (by decide +kernel)
theorem qV_X3_letPass : Cond.selects RX3 yX3_letPass yX3_letPass ∈ Gw := Gm3 129 (by decide +kernel) (by decide +kernel)
theorem qC_X3_letPass : Cond.code yX3_letPass cX3_letPass 2 none ∈ Gw := Gm3 130 (by decide +kernel) (by decide +kernel)
theorem qM_L_128 : Cond.methodLink RL 128 yL_season ∈ Gw := Gm3 131 (by decide +kernel) (by decide +kernel)
theorem qS_L_season : Cond.static yL_season ∈ Gw := Gm3 132 (by decide +kernel) (by decide +kernel)
theorem qC_L_season : Cond.codeWith yL_season cL_season 5 (some .int) [(0, 10, 13, 13), (0, 10, 17, 34)] ∈ Gw := Gm3 133 (by decide +kernel) (by decide +kernel)
theorem qM_L_39 : Cond.methodLink RL 39 yX5_season ∈ Gw := Gm3 134 (by decide +kernel) (by decide +kernel)
theorem qI_X5_season : Cond.instanceMethod yX5_season ∈ Gw := Gm3 135 (by decide +kernel) (by decide +kernel)
theorem qV_X5_season : Cond.selects RX5 yX5_season yX5_season ∈ Gw := Gm3 136 (by decide +kernel) (by decide +kernel)
theorem qC_X5_season : Cond.code yX5_season cX5_season 4 (some .int) ∈ Gw := Gm3 137 (by decide +kernel) (by decide +kernel)
theorem qM_L_131 : Cond.methodLink RL 131 yL_set ∈ Gw := Gm3 138 (by decide +kernel) (by decide +kernel)
theorem qS_L_set : Cond.static yL_set ∈ Gw := Gm3 139 (by decide +kernel) (by decide +kernel)
theorem qC_L_set : Cond.codeWith yL_set cL_set 5 (some .int) [(0, 10, 13, 13), (0, 10, 17, 34)] ∈ Gw := Gm3 140 (by decide +kernel) (by decide +kernel)
theorem qM_L_42 : Cond.methodLink RL 42 yX5_set ∈ Gw := Gm3 141 (by decide +kernel) (by decide +kernel)
theorem qI_X5_set : Cond.instanceMethod yX5_set ∈ Gw := Gm3 142 (by decide +kernel) (by decide +kernel)
theorem qV_X5_set : Cond.selects RX5 yX5_set yX5_set ∈ Gw := Gm3 143 (by decide +kernel) (by decide +kernel)
theorem qC_X5_set : Cond.code yX5_set cX5_set 4 (some .int) ∈ Gw := Gm3 144 (by decide +kernel) (by decide +kernel)
theorem qM_X5_120 : Cond.methodLink RX5 120 yX5_needSetting ∈ Gw := Gm3 145 (by decide +kernel) (by decide +kernel)
theorem qS_X5_needSetting : Cond.static yX5_needSetting ∈ Gw := Gm3 146 (by decide +kernel) (by decide +kernel)
theorem qC_X5_needSetting : Cond.code yX5_needSetting cX5_needSetting 1 none ∈ Gw := Gm3 147 (by decide +kernel) (by decide +kernel)
theorem qF_X5_123 : Cond.fieldLink RX5 123 "CompostKeys" "SETTING_LEAST" "[I" ∈ Gw := Gm3 149 (by decide +kernel) (by decide +kernel)
theorem qF_X5_126 : Cond.fieldLink RX5 126 "CompostKeys" "SETTING_MOST" "[I" ∈ Gw := Gm3 151 (by decide +kernel) (by decide +kernel)
theorem qM_L_134 : Cond.methodLink RL 134 yL_append ∈ Gw := Gm3 153 (by decide +kernel) (by decide +kernel)
theorem qS_L_append : Cond.static yL_append ∈ Gw := Gm3 154 (by decide +kernel) (by decide +kernel)
theorem qC_L_append : Cond.codeWith yL_append cL_append 4 (some .int) [(0, 9, 12, 34), (0, 9, 15, 22)] ∈ Gw := Gm3 155 (by decide +kernel) (by decide +kernel)
theorem qM_L_45 : Cond.methodLink RL 45 yX5_append ∈ Gw := Gm3 156 (by decide +kernel) (by decide +kernel)
theorem qI_X5_append : Cond.instanceMethod yX5_append ∈ Gw := Gm3 157 (by decide +kernel) (by decide +kernel)
theorem qV_X5_append : Cond.selects RX5 yX5_append yX5_append ∈ Gw := Gm3 158 (by decide +kernel) (by decide +kernel)
theorem qC_X5_append : Cond.code yX5_append cX5_append 2 (some .int) ∈ Gw := Gm3 159 (by decide +kernel) (by decide +kernel)
theorem qM_X5_132 : Cond.methodLink RX5 132 yX2_isFull ∈ Gw := Gm3 160 (by decide +kernel) (by decide +kernel)
theorem qI_X2_isFull : Cond.instanceMethod yX2_isFull ∈ Gw := Gm3 161 (by decide +kernel) (by decide +kernel)
theorem qV_X2_isFull : Cond.selects RX2 yX2_isFull yX2_isFull ∈ Gw := Gm3 162 (by decide +kernel) (by decide +kernel)
theorem qC_X2_isFull : Cond.code yX2_isFull cX2_isFull 1 (some .boolean) ∈ Gw := Gm3 163 (by decide +kernel) (by decide +kernel)
theorem qM_X5_138 : Cond.methodLink RX5 138 yX2_add ∈ Gw := Gm3 165 (by decide +kernel) (by decide +kernel)
theorem qI_X2_add : Cond.instanceMethod yX2_add ∈ Gw := Gm3 166 (by decide +kernel) (by decide +kernel)
theorem qV_X2_add : Cond.selects RX2 yX2_add yX2_add ∈ Gw := Gm3 167 (by decide +kernel) (by decide +kernel)
theorem qC_X2_add : Cond.code yX2_add cX2_add 2 none ∈ Gw := Gm3 168 (by decide +kernel) (by decide +kernel)
theorem qM_X2_19 : Cond.methodLink RX2 19 yX2_isFull ∈ Gw := Gm3 169 (by decide +kernel) (by decide +kernel)
theorem qM_L_145 : Cond.methodLink RL 145 yL_run ∈ Gw := Gm3 170 (by decide +kernel) (by decide +kernel)
theorem qS_L_run : Cond.static yL_run ∈ Gw := Gm3 171 (by decide +kernel) (by decide +kernel)
theorem qC_L_run : Cond.codeWith yL_run cL_run 3 (some .int) [(0, 8, 11, 34)] ∈ Gw := Gm3 172 (by decide +kernel) (by decide +kernel)
theorem qM_L_48 : Cond.methodLink RL 48 yX5_run ∈ Gw := Gm3 173 (by decide +kernel) (by decide +kernel)
theorem qI_X5_run : Cond.instanceMethod yX5_run ∈ Gw := Gm3 174 (by decide +kernel) (by decide +kernel)
theorem qV_X5_run : Cond.selects RX5 yX5_run yX5_run ∈ Gw := Gm3 175 (by decide +kernel) (by decide +kernel)
theorem qC_X5_run : Cond.code yX5_run cX5_run 3 (some .int) ∈ Gw := Gm3 176 (by decide +kernel) (by decide +kernel)
theorem qM_X5_148 : Cond.methodLink RX5 148 yX2_tellsDays ∈ Gw := Gm3 177 (by decide +kernel) (by decide +kernel)
theorem qI_X2_tellsDays : Cond.instanceMethod yX2_tellsDays ∈ Gw := Gm3 178 (by decide +kernel) (by decide +kernel)
theorem qV_X2_tellsDays : Cond.selects RX2 yX2_tellsDays yX2_tellsDays ∈ Gw := Gm3 179 (by decide +kernel) (by decide +kernel)
theorem qC_X2_tellsDays : Cond.code yX2_tellsDays cX2_tellsDays 3 (some .boolean) ∈ Gw := Gm3 180 (by decide +kernel) (by decide +kernel)
theorem qM_X5_156 : Cond.methodLink RX5 156 yX2_beginsOrder ∈ Gw := Gm3 182 (by decide +kernel) (by decide +kernel)
theorem qI_X2_beginsOrder : Cond.instanceMethod yX2_beginsOrder ∈ Gw := Gm3 183 (by decide +kernel) (by decide +kernel)
theorem qV_X2_beginsOrder : Cond.selects RX2 yX2_beginsOrder yX2_beginsOrder ∈ Gw := Gm3 184 (by decide +kernel) (by decide +kernel)
theorem qC_X2_beginsOrder : Cond.code yX2_beginsOrder cX2_beginsOrder 2 (some .boolean) ∈ Gw := Gm3 185 (by decide +kernel) (by decide +kernel)
theorem qM_X5_159 : Cond.methodLink RX5 159 yX5_doOrder ∈ Gw := Gm3 186 (by decide +kernel) (by decide +kernel)
theorem qI_X5_doOrder : Cond.instanceMethod yX5_doOrder ∈ Gw := Gm3 188 (by decide +kernel) (by decide +kernel)
theorem qC_X5_doOrder : Cond.code yX5_doOrder cX5_doOrder 4 (some .boolean) ∈ Gw := Gm3 189 (by decide +kernel) (by decide +kernel)
theorem qM_X5_250 : Cond.methodLink RX5 250 yX2_numberAt ∈ Gw := Gm3 190 (by decide +kernel) (by decide +kernel)
theorem qI_X2_numberAt : Cond.instanceMethod yX2_numberAt ∈ Gw := Gm3 191 (by decide +kernel) (by decide +kernel)
theorem qV_X2_numberAt : Cond.selects RX2 yX2_numberAt yX2_numberAt ∈ Gw := Gm3 192 (by decide +kernel) (by decide +kernel)
theorem qC_X2_numberAt : Cond.code yX2_numberAt cX2_numberAt 4 (some .int) ∈ Gw := Gm3 193 (by decide +kernel) (by decide +kernel)
theorem qM_X5_253 : Cond.methodLink RX5 253 yX5_turnIfKind ∈ Gw := Gm3 194 (by decide +kernel) (by decide +kernel)
theorem qI_X5_turnIfKind : Cond.instanceMethod yX5_turnIfKind ∈ Gw := Gm3 196 (by decide +kernel) (by decide +kernel)
theorem qC_X5_turnIfKind : Cond.code yX5_turnIfKind cX5_turnIfKind 2 (some .boolean) ∈ Gw := Gm3 197 (by decide +kernel) (by decide +kernel)
theorem qM_X5_256 : Cond.methodLink RX5 256 yX5_passIfCan ∈ Gw := Gm3 198 (by decide +kernel) (by decide +kernel)
theorem qI_X5_passIfCan : Cond.instanceMethod yX5_passIfCan ∈ Gw := Gm3 200 (by decide +kernel) (by decide +kernel)
theorem qC_X5_passIfCan : Cond.code yX5_passIfCan cX5_passIfCan 2 (some .boolean) ∈ Gw := Gm3 201 (by decide +kernel) (by decide +kernel)
theorem qM_X5_259 : Cond.methodLink RX5 259 yX5_doRowOrder ∈ Gw := Gm3 202 (by decide +kernel) (by decide +kernel)
theorem qI_X5_doRowOrder : Cond.instanceMethod yX5_doRowOrder ∈ Gw := Gm3 204 (by decide +kernel) (by decide +kernel)
theorem qC_X5_doRowOrder : Cond.code yX5_doRowOrder cX5_doRowOrder 4 (some .boolean) ∈ Gw := Gm3 205 (by decide +kernel) (by decide +kernel)
theorem qM_L_149 : Cond.methodLink RL 149 yL_keep ∈ Gw := Gm3 206 (by decide +kernel) (by decide +kernel)
theorem qS_L_keep : Cond.static yL_keep ∈ Gw := Gm3 207 (by decide +kernel) (by decide +kernel)
theorem qC_L_keep : Cond.codeWith yL_keep cL_keep 4 (some .int) [(0, 9, 12, 34)] ∈ Gw := Gm3 208 (by decide +kernel) (by decide +kernel)
theorem qM_L_52 : Cond.methodLink RL 52 yX5_keep ∈ Gw := Gm3 209 (by decide +kernel) (by decide +kernel)
theorem qI_X5_keep : Cond.instanceMethod yX5_keep ∈ Gw := Gm3 210 (by decide +kernel) (by decide +kernel)
theorem qV_X5_keep : Cond.selects RX5 yX5_keep yX5_keep ∈ Gw := Gm3 211 (by decide +kernel) (by decide +kernel)
theorem qC_X5_keep : Cond.code yX5_keep cX5_keep 2 (some .int) ∈ Gw := Gm3 212 (by decide +kernel) (by decide +kernel)
theorem qM_X5_162 : Cond.methodLink RX5 162 yX1_copyState ∈ Gw := Gm3 213 (by decide +kernel) (by decide +kernel)
theorem qM_L_152 : Cond.methodLink RL 152 yL_goBack ∈ Gw := Gm3 214 (by decide +kernel) (by decide +kernel)
theorem qS_L_goBack : Cond.static yL_goBack ∈ Gw := Gm3 215 (by decide +kernel) (by decide +kernel)
theorem qC_L_goBack : Cond.codeWith yL_goBack cL_goBack 4 (some .int) [(0, 9, 12, 34), (0, 9, 15, 22)] ∈ Gw := Gm3 216 (by decide +kernel) (by decide +kernel)
theorem qM_L_55 : Cond.methodLink RL 55 yX5_goBack ∈ Gw := Gm3 217 (by decide +kernel) (by decide +kernel)
theorem qI_X5_goBack : Cond.instanceMethod yX5_goBack ∈ Gw := Gm3 218 (by decide +kernel) (by decide +kernel)
theorem qV_X5_goBack : Cond.selects RX5 yX5_goBack yX5_goBack ∈ Gw := Gm3 219 (by decide +kernel) (by decide +kernel)
theorem qC_X5_goBack : Cond.code yX5_goBack cX5_goBack 2 (some .int) ∈ Gw := Gm3 220 (by decide +kernel) (by decide +kernel)
theorem qM_L_155 : Cond.methodLink RL 155 yL_undo ∈ Gw := Gm3 222 (by decide +kernel) (by decide +kernel)
theorem qS_L_undo : Cond.static yL_undo ∈ Gw := Gm3 223 (by decide +kernel) (by decide +kernel)
theorem qC_L_undo : Cond.codeWith yL_undo cL_undo 3 (some .int) [(0, 8, 11, 22)] ∈ Gw := Gm3 224 (by decide +kernel) (by decide +kernel)
theorem qM_L_58 : Cond.methodLink RL 58 yX5_undo ∈ Gw := Gm3 225 (by decide +kernel) (by decide +kernel)
theorem qI_X5_undo : Cond.instanceMethod yX5_undo ∈ Gw := Gm3 226 (by decide +kernel) (by decide +kernel)
theorem qV_X5_undo : Cond.selects RX5 yX5_undo yX5_undo ∈ Gw := Gm3 227 (by decide +kernel) (by decide +kernel)
theorem qC_X5_undo : Cond.code yX5_undo cX5_undo 1 (some .int) ∈ Gw := Gm3 228 (by decide +kernel) (by decide +kernel)
theorem qM_X5_176 : Cond.methodLink RX5 176 yX4_popInto ∈ Gw := Gm3 230 (by decide +kernel) (by decide +kernel)
theorem qI_X4_popInto : Cond.instanceMethod yX4_popInto ∈ Gw := Gm3 231 (by decide +kernel) (by decide +kernel)
theorem qV_X4_popInto : Cond.selects RX4 yX4_popInto yX4_popInto ∈ Gw := Gm3 232 (by decide +kernel) (by decide +kernel)
theorem qC_X4_popInto : Cond.code yX4_popInto cX4_popInto 2 none ∈ Gw := Gm3 233 (by decide +kernel) (by decide +kernel)
theorem qM_L_158 : Cond.methodLink RL 158 yL_keyOf ∈ Gw := Gm3 234 (by decide +kernel) (by decide +kernel)
theorem qS_L_keyOf : Cond.static yL_keyOf ∈ Gw := Gm3 235 (by decide +kernel) (by decide +kernel)
theorem qC_L_keyOf : Cond.codeWith yL_keyOf cL_keyOf 6 (some .int) [(0, 12, 15, 13), (0, 12, 19, 34)] ∈ Gw := Gm3 236 (by decide +kernel) (by decide +kernel)
theorem qM_L_61 : Cond.methodLink RL 61 yX5_keyOf ∈ Gw := Gm3 237 (by decide +kernel) (by decide +kernel)
theorem qI_X5_keyOf : Cond.instanceMethod yX5_keyOf ∈ Gw := Gm3 238 (by decide +kernel) (by decide +kernel)
theorem qV_X5_keyOf : Cond.selects RX5 yX5_keyOf yX5_keyOf ∈ Gw := Gm3 239 (by decide +kernel) (by decide +kernel)
theorem qC_X5_keyOf : Cond.code yX5_keyOf cX5_keyOf 4 (some .int) ∈ Gw := Gm4 0 (by decide +kernel) (by decide +kernel)
theorem qM_L_161 : Cond.methodLink RL 161 yL_kindOf ∈ Gw := Gm4 1 (by decide +kernel) (by decide +kernel)
theorem qS_L_kindOf : Cond.static yL_kindOf ∈ Gw := Gm4 2 (by decide +kernel) (by decide +kernel)
theorem qC_L_kindOf : Cond.codeWith yL_kindOf cL_kindOf 5 (some .int) [(0, 10, 13, 13), (0, 10, 17, 34)] ∈ Gw := Gm4 3 (by decide +kernel) (by decide +kernel)
theorem qM_L_64 : Cond.methodLink RL 64 yX5_kindOf ∈ Gw := Gm4 4 (by decide +kernel) (by decide +kernel)
theorem qI_X5_kindOf : Cond.instanceMethod yX5_kindOf ∈ Gw := Gm4 5 (by decide +kernel) (by decide +kernel)
theorem qV_X5_kindOf : Cond.selects RX5 yX5_kindOf yX5_kindOf ∈ Gw := Gm4 6 (by decide +kernel) (by decide +kernel)
theorem qC_X5_kindOf : Cond.code yX5_kindOf cX5_kindOf 3 (some .int) ∈ Gw := Gm4 7 (by decide +kernel) (by decide +kernel)
theorem qM_L_164 : Cond.methodLink RL 164 yL_pile ∈ Gw := Gm4 8 (by decide +kernel) (by decide +kernel)
theorem qS_L_pile : Cond.static yL_pile ∈ Gw := Gm4 9 (by decide +kernel) (by decide +kernel)
theorem qC_L_pile : Cond.codeWith yL_pile cL_pile 5 (some .int) [(0, 10, 13, 13), (0, 10, 17, 34)] ∈ Gw := Gm4 10 (by decide +kernel) (by decide +kernel)
theorem qM_L_67 : Cond.methodLink RL 67 yX5_pile ∈ Gw := Gm4 11 (by decide +kernel) (by decide +kernel)
theorem qI_X5_pile : Cond.instanceMethod yX5_pile ∈ Gw := Gm4 12 (by decide +kernel) (by decide +kernel)
theorem qV_X5_pile : Cond.selects RX5 yX5_pile yX5_pile ∈ Gw := Gm4 13 (by decide +kernel) (by decide +kernel)
theorem qC_X5_pile : Cond.code yX5_pile cX5_pile 3 (some .int) ∈ Gw := Gm4 14 (by decide +kernel) (by decide +kernel)
theorem qM_L_167 : Cond.methodLink RL 167 yL_count ∈ Gw := Gm4 15 (by decide +kernel) (by decide +kernel)
theorem qS_L_count : Cond.static yL_count ∈ Gw := Gm4 16 (by decide +kernel) (by decide +kernel)
theorem qC_L_count : Cond.codeWith yL_count cL_count 4 (some .int) [(0, 9, 12, 34)] ∈ Gw := Gm4 17 (by decide +kernel) (by decide +kernel)
theorem qM_L_70 : Cond.methodLink RL 70 yX5_count ∈ Gw := Gm4 18 (by decide +kernel) (by decide +kernel)
theorem qI_X5_count : Cond.instanceMethod yX5_count ∈ Gw := Gm4 19 (by decide +kernel) (by decide +kernel)
theorem qV_X5_count : Cond.selects RX5 yX5_count yX5_count ∈ Gw := Gm4 20 (by decide +kernel) (by decide +kernel)
theorem qC_X5_count : Cond.code yX5_count cX5_count 2 (some .int) ∈ Gw := Gm4 21 (by decide +kernel) (by decide +kernel)
theorem qM_L_170 : Cond.methodLink RL 170 yL_setting ∈ Gw := Gm4 22 (by decide +kernel) (by decide +kernel)
theorem qS_L_setting : Cond.static yL_setting ∈ Gw := Gm4 23 (by decide +kernel) (by decide +kernel)
theorem qC_L_setting : Cond.codeWith yL_setting cL_setting 4 (some .int) [(0, 9, 12, 13)] ∈ Gw := Gm4 24 (by decide +kernel) (by decide +kernel)
theorem qM_L_73 : Cond.methodLink RL 73 yX5_setting ∈ Gw := Gm4 25 (by decide +kernel) (by decide +kernel)
theorem qI_X5_setting : Cond.instanceMethod yX5_setting ∈ Gw := Gm4 26 (by decide +kernel) (by decide +kernel)
theorem qV_X5_setting : Cond.selects RX5 yX5_setting yX5_setting ∈ Gw := Gm4 27 (by decide +kernel) (by decide +kernel)
theorem qC_X5_setting : Cond.code yX5_setting cX5_setting 2 (some .int) ∈ Gw := Gm4 28 (by decide +kernel) (by decide +kernel)
theorem qM_L_173 : Cond.methodLink RL 173 yL_ifAsked ∈ Gw := Gm4 29 (by decide +kernel) (by decide +kernel)
theorem qS_L_ifAsked : Cond.static yL_ifAsked ∈ Gw := Gm4 30 (by decide +kernel) (by decide +kernel)
theorem qC_L_ifAsked : Cond.codeWith yL_ifAsked cL_ifAsked 4 (some .int) [(0, 9, 12, 13)] ∈ Gw := Gm4 31 (by decide +kernel) (by decide +kernel)
theorem qM_L_76 : Cond.methodLink RL 76 yX5_ifAsked ∈ Gw := Gm4 32 (by decide +kernel) (by decide +kernel)
theorem qI_X5_ifAsked : Cond.instanceMethod yX5_ifAsked ∈ Gw := Gm4 33 (by decide +kernel) (by decide +kernel)
theorem qV_X5_ifAsked : Cond.selects RX5 yX5_ifAsked yX5_ifAsked ∈ Gw := Gm4 34 (by decide +kernel) (by decide +kernel)
theorem qC_X5_ifAsked : Cond.code yX5_ifAsked cX5_ifAsked 2 (some .int) ∈ Gw := Gm4 35 (by decide +kernel) (by decide +kernel)
theorem qM_L_176 : Cond.methodLink RL 176 yL_keyIn ∈ Gw := Gm4 36 (by decide +kernel) (by decide +kernel)
theorem qS_L_keyIn : Cond.static yL_keyIn ∈ Gw := Gm4 37 (by decide +kernel) (by decide +kernel)
theorem qC_L_keyIn : Cond.codeWith yL_keyIn cL_keyIn 4 (some .int) [(0, 9, 12, 13)] ∈ Gw := Gm4 38 (by decide +kernel) (by decide +kernel)
theorem qM_L_79 : Cond.methodLink RL 79 yX5_keyIn ∈ Gw := Gm4 39 (by decide +kernel) (by decide +kernel)
theorem qI_X5_keyIn : Cond.instanceMethod yX5_keyIn ∈ Gw := Gm4 40 (by decide +kernel) (by decide +kernel)
theorem qV_X5_keyIn : Cond.selects RX5 yX5_keyIn yX5_keyIn ∈ Gw := Gm4 41 (by decide +kernel) (by decide +kernel)
theorem qC_X5_keyIn : Cond.code yX5_keyIn cX5_keyIn 2 (some .int) ∈ Gw := Gm4 42 (by decide +kernel) (by decide +kernel)
theorem qM_L_179 : Cond.methodLink RL 179 yL_coming ∈ Gw := Gm4 43 (by decide +kernel) (by decide +kernel)
theorem qS_L_coming : Cond.static yL_coming ∈ Gw := Gm4 44 (by decide +kernel) (by decide +kernel)
theorem qC_L_coming : Cond.codeWith yL_coming cL_coming 5 (some .int) [(0, 10, 13, 13), (0, 10, 17, 34)] ∈ Gw := Gm4 45 (by decide +kernel) (by decide +kernel)
theorem qM_L_82 : Cond.methodLink RL 82 yX5_coming ∈ Gw := Gm4 46 (by decide +kernel) (by decide +kernel)
theorem qI_X5_coming : Cond.instanceMethod yX5_coming ∈ Gw := Gm4 47 (by decide +kernel) (by decide +kernel)
theorem qV_X5_coming : Cond.selects RX5 yX5_coming yX5_coming ∈ Gw := Gm4 48 (by decide +kernel) (by decide +kernel)
theorem qC_X5_coming : Cond.code yX5_coming cX5_coming 3 (some .int) ∈ Gw := Gm4 49 (by decide +kernel) (by decide +kernel)
theorem qM_L_182 : Cond.methodLink RL 182 yL_longest ∈ Gw := Gm4 50 (by decide +kernel) (by decide +kernel)
theorem qS_L_longest : Cond.static yL_longest ∈ Gw := Gm4 51 (by decide +kernel) (by decide +kernel)
theorem qC_L_longest : Cond.codeWith yL_longest cL_longest 4 (some .int) [(0, 9, 12, 13)] ∈ Gw := Gm4 52 (by decide +kernel) (by decide +kernel)
theorem qM_L_85 : Cond.methodLink RL 85 yX5_longest ∈ Gw := Gm4 53 (by decide +kernel) (by decide +kernel)
theorem qI_X5_longest : Cond.instanceMethod yX5_longest ∈ Gw := Gm4 54 (by decide +kernel) (by decide +kernel)
theorem qV_X5_longest : Cond.selects RX5 yX5_longest yX5_longest ∈ Gw := Gm4 55 (by decide +kernel) (by decide +kernel)
theorem qC_X5_longest : Cond.code yX5_longest cX5_longest 2 (some .int) ∈ Gw := Gm4 56 (by decide +kernel) (by decide +kernel)
theorem qM_L_185 : Cond.methodLink RL 185 yL_ifFollowed ∈ Gw := Gm4 57 (by decide +kernel) (by decide +kernel)
theorem qS_L_ifFollowed : Cond.static yL_ifFollowed ∈ Gw := Gm4 58 (by decide +kernel) (by decide +kernel)
theorem qC_L_ifFollowed : Cond.codeWith yL_ifFollowed cL_ifFollowed 6 (some .int) [(0, 12, 15, 13), (0, 12, 19, 34)] ∈ Gw := Gm4 59 (by decide +kernel) (by decide +kernel)
theorem qM_L_88 : Cond.methodLink RL 88 yX5_ifFollowed ∈ Gw := Gm4 60 (by decide +kernel) (by decide +kernel)
theorem qI_X5_ifFollowed : Cond.instanceMethod yX5_ifFollowed ∈ Gw := Gm4 61 (by decide +kernel) (by decide +kernel)
end
section
theorem qV_X5_ifFollowed : Cond.selects RX5 yX5_ifFollowed yX5_ifFollowed ∈ Gw := Gm4 62 (by decide +kernel) (by decide +kernel)
theorem qC_X5_ifFollowed : Cond.code yX5_ifFollowed cX5_ifFollowed 4 (some .int) ∈ Gw := Gm4 63 (by decide +kernel) (by decide +kernel)
theorem qM_X5_200 : Cond.methodLink RX5 200 yX3_judge ∈ Gw := Gm4 64 (by decide +kernel) (by decide +kernel)
theorem qM_L_197 : Cond.methodLink RL 197 yL_meanAge ∈ Gw := Gm4 65 (by decide +kernel) (by decide +kernel)
theorem qS_L_meanAge : Cond.static yL_meanAge ∈ Gw := Gm4 66 (by decide +kernel) (by decide +kernel)
theorem qC_L_meanAge : Cond.codeWith yL_meanAge cL_meanAge 4 (some .int) [(0, 9, 12, 13)] ∈ Gw := Gm4 67 (by decide +kernel) (by decide +kernel)
theorem qM_L_91 : Cond.methodLink RL 91 yX5_meanAge ∈ Gw := Gm4 68 (by decide +kernel) (by decide +kernel)
theorem qI_X5_meanAge : Cond.instanceMethod yX5_meanAge ∈ Gw := Gm4 69 (by decide +kernel) (by decide +kernel)
theorem qV_X5_meanAge : Cond.selects RX5 yX5_meanAge yX5_meanAge ∈ Gw := Gm4 70 (by decide +kernel) (by decide +kernel)
theorem qC_X5_meanAge : Cond.code yX5_meanAge cX5_meanAge 2 (some .float) ∈ Gw := Gm4 71 (by decide +kernel) (by decide +kernel)
theorem qK_L_96 : Cond.classLink RL 96 RX6 ∈ Gw := Gm4 72 (by decide +kernel) (by decide +kernel)
theorem qB_X6 : Cond.instantiable RX6 9 ∈ Gw := Gm4 73 (by decide +kernel) (by decide +kernel)
theorem qM_L_98 : Cond.methodLink RL 98 yX6_init ∈ Gw := Gm4 74 (by decide +kernel) (by decide +kernel)
theorem qI_X6_init : Cond.instanceMethod yX6_init ∈ Gw := Gm4 75 (by decide +kernel) (by decide +kernel)
theorem qC_X6_init : Cond.code yX6_init cX6_init 2 none ∈ Gw := Gm4 76 (by decide +kernel) (by decide +kernel)
theorem qM_X6_1 : Cond.methodLink RX6 1 (⟨"java/lang/Object", "<init>", "()V"⟩ : MethodName) ∈ Gw := Gm4 77 (by decide +kernel) (by decide +kernel)
theorem qF_X6_7 : Cond.fieldLink RX6 7 "CompostKeysModel" "s" "[I" ∈ Gw := Gm4 78 (by decide +kernel) (by decide +kernel)
theorem qF_X6_25 : Cond.fieldLink RX6 25 "CompostKeysModel" "states" "I" ∈ Gw := Gm4 79 (by decide +kernel) (by decide +kernel)
theorem qF_X6_13 : Cond.fieldLink RX6 13 "CompostKeysModel" "isKept" "[Z" ∈ Gw := Gm4 80 (by decide +kernel) (by decide +kernel)
theorem qF_X6_21 : Cond.fieldLink RX6 21 "CompostKeysModel" "thrown" "I" ∈ Gw := Gm4 81 (by decide +kernel) (by decide +kernel)
theorem qF_X6_17 : Cond.fieldLink RX6 17 "CompostKeysModel" "text" "[C" ∈ Gw := Gm4 82 (by decide +kernel) (by decide +kernel)
theorem qF_X6_127 : Cond.fieldLink RX6 127 "CompostKeysModel" "typed" "I" ∈ Gw := Gm4 83 (by decide +kernel) (by decide +kernel)
theorem qF_X6_130 : Cond.fieldLink RX6 130 "CompostKeysModel" "at" "I" ∈ Gw := Gm4 84 (by decide +kernel) (by decide +kernel)
theorem qF_X6_137 : Cond.fieldLink RX6 137 "CompostKeysModel" "one" "I" ∈ Gw := Gm4 85 (by decide +kernel) (by decide +kernel)
theorem qF_X6_140 : Cond.fieldLink RX6 140 "CompostKeysModel" "two" "I" ∈ Gw := Gm4 86 (by decide +kernel) (by decide +kernel)
theorem qA_char : Cond.arrayClass .char ∈ Gw := Gm4 106 (by decide +kernel) (by decide +kernel)
theorem qM_L_105 : Cond.methodLink RL 105 yX6_thrown ∈ Gw := Gm4 107 (by decide +kernel) (by decide +kernel)
theorem qI_X6_thrown : Cond.instanceMethod yX6_thrown ∈ Gw := Gm4 108 (by decide +kernel) (by decide +kernel)
theorem qV_X6_thrown : Cond.selects RX6 yX6_thrown yX6_thrown ∈ Gw := Gm4 109 (by decide +kernel) (by decide +kernel)
theorem qC_X6_thrown : Cond.code yX6_thrown cX6_thrown 1 (some .int) ∈ Gw := Gm4 110 (by decide +kernel) (by decide +kernel)
theorem qM_L_104 : Cond.methodLink RL 104 yX6_ask ∈ Gw := Gm4 111 (by decide +kernel) (by decide +kernel)
theorem qI_X6_ask : Cond.instanceMethod yX6_ask ∈ Gw := Gm4 112 (by decide +kernel) (by decide +kernel)
theorem qV_X6_ask : Cond.selects RX6 yX6_ask yX6_ask ∈ Gw := Gm4 113 (by decide +kernel) (by decide +kernel)
theorem qC_X6_ask : Cond.code yX6_ask cX6_ask 2 (some .int) ∈ Gw := Gm4 114 (by decide +kernel) (by decide +kernel)
theorem qM_X6_36 : Cond.methodLink RX6 36 yX6_isKind ∈ Gw := Gm4 115 (by decide +kernel) (by decide +kernel)
theorem qS_X6_isKind : Cond.static yX6_isKind ∈ Gw := Gm4 116 (by decide +kernel) (by decide +kernel)
theorem qC_X6_isKind : Cond.code yX6_isKind cX6_isKind 1 (some .boolean) ∈ Gw := Gm4 117 (by decide +kernel) (by decide +kernel)
theorem qM_X6_32 : Cond.methodLink RX6 32 yX6_in ∈ Gw := Gm4 118 (by decide +kernel) (by decide +kernel)
theorem qS_X6_in : Cond.static yX6_in ∈ Gw := Gm4 119 (by decide +kernel) (by decide +kernel)
theorem qC_X6_in : Cond.code yX6_in cX6_in 3 (some .boolean) ∈ Gw := Gm4 120 (by decide +kernel) (by decide +kernel)
theorem qM_X6_83 : Cond.methodLink RX6 83 yX6_goes ∈ Gw := Gm4 121 (by decide +kernel) (by decide +kernel)
theorem qI_X6_goes : Cond.instanceMethod yX6_goes ∈ Gw := Gm4 123 (by decide +kernel) (by decide +kernel)
theorem qC_X6_goes : Cond.code yX6_goes cX6_goes 3 (some .boolean) ∈ Gw := Gm4 124 (by decide +kernel) (by decide +kernel)
theorem qM_X6_87 : Cond.methodLink RX6 87 yX6_saves ∈ Gw := Gm4 125 (by decide +kernel) (by decide +kernel)
theorem qI_X6_saves : Cond.instanceMethod yX6_saves ∈ Gw := Gm4 127 (by decide +kernel) (by decide +kernel)
theorem qC_X6_saves : Cond.code yX6_saves cX6_saves 2 none ∈ Gw := Gm4 128 (by decide +kernel) (by decide +kernel)
theorem qM_X6_28 : Cond.methodLink RX6 28 yX6_copies ∈ Gw := Gm4 129 (by decide +kernel) (by decide +kernel)
theorem qI_X6_copies : Cond.instanceMethod yX6_copies ∈ Gw := Gm4 131 (by decide +kernel) (by decide +kernel)
theorem qC_X6_copies : Cond.code yX6_copies cX6_copies 4 none ∈ Gw := Gm4 132 (by decide +kernel) (by decide +kernel)
theorem qM_X6_90 : Cond.methodLink RX6 90 yX6_asks ∈ Gw := Gm4 133 (by decide +kernel) (by decide +kernel)
theorem qI_X6_asks : Cond.instanceMethod yX6_asks ∈ Gw := Gm4 135 (by decide +kernel) (by decide +kernel)
theorem qC_X6_asks : Cond.code yX6_asks cX6_asks 3 (some .int) ∈ Gw := Gm4 136 (by decide +kernel) (by decide +kernel)
theorem qM_X6_70 : Cond.methodLink RX6 70 yX6_draws ∈ Gw := Gm4 137 (by decide +kernel) (by decide +kernel)
theorem qI_X6_draws : Cond.instanceMethod yX6_draws ∈ Gw := Gm4 139 (by decide +kernel) (by decide +kernel)
theorem qC_X6_draws : Cond.code yX6_draws cX6_draws 9 (some .int) ∈ Gw := Gm4 140 (by decide +kernel) (by decide +kernel)
theorem qM_X6_56 : Cond.methodLink RX6 56 yX6_lowestFresh ∈ Gw := Gm4 141 (by decide +kernel) (by decide +kernel)
theorem qI_X6_lowestFresh : Cond.instanceMethod yX6_lowestFresh ∈ Gw := Gm4 143 (by decide +kernel) (by decide +kernel)
theorem qC_X6_lowestFresh : Cond.code yX6_lowestFresh cX6_lowestFresh 5 (some .int) ∈ Gw := Gm4 144 (by decide +kernel) (by decide +kernel)
theorem qM_X6_40 : Cond.methodLink RX6 40 yX6_keyAt ∈ Gw := Gm4 145 (by decide +kernel) (by decide +kernel)
theorem qS_X6_keyAt : Cond.static yX6_keyAt ∈ Gw := Gm4 146 (by decide +kernel) (by decide +kernel)
theorem qC_X6_keyAt : Cond.code yX6_keyAt cX6_keyAt 3 (some .int) ∈ Gw := Gm4 147 (by decide +kernel) (by decide +kernel)
theorem qM_X6_60 : Cond.methodLink RX6 60 yX6_topRipe ∈ Gw := Gm4 148 (by decide +kernel) (by decide +kernel)
theorem qI_X6_topRipe : Cond.instanceMethod yX6_topRipe ∈ Gw := Gm4 150 (by decide +kernel) (by decide +kernel)
theorem qC_X6_topRipe : Cond.code yX6_topRipe cX6_topRipe 6 (some .int) ∈ Gw := Gm4 151 (by decide +kernel) (by decide +kernel)
theorem qM_X6_50 : Cond.methodLink RX6 50 yX6_pileAt ∈ Gw := Gm4 152 (by decide +kernel) (by decide +kernel)
theorem qI_X6_pileAt : Cond.instanceMethod yX6_pileAt ∈ Gw := Gm4 154 (by decide +kernel) (by decide +kernel)
theorem qC_X6_pileAt : Cond.code yX6_pileAt cX6_pileAt 4 (some .int) ∈ Gw := Gm4 155 (by decide +kernel) (by decide +kernel)
theorem qM_X6_47 : Cond.methodLink RX6 47 yX6_isRipe ∈ Gw := Gm4 156 (by decide +kernel) (by decide +kernel)
theorem qI_X6_isRipe : Cond.instanceMethod yX6_isRipe ∈ Gw := Gm4 158 (by decide +kernel) (by decide +kernel)
theorem qC_X6_isRipe : Cond.code yX6_isRipe cX6_isRipe 4 (some .boolean) ∈ Gw := Gm4 159 (by decide +kernel) (by decide +kernel)
theorem qM_X6_44 : Cond.methodLink RX6 44 yX6_age ∈ Gw := Gm4 160 (by decide +kernel) (by decide +kernel)
theorem qI_X6_age : Cond.instanceMethod yX6_age ∈ Gw := Gm4 162 (by decide +kernel) (by decide +kernel)
theorem qC_X6_age : Cond.code yX6_age cX6_age 4 (some .int) ∈ Gw := Gm4 163 (by decide +kernel) (by decide +kernel)
theorem qM_X6_63 : Cond.methodLink RX6 63 yX6_canGive ∈ Gw := Gm4 164 (by decide +kernel) (by decide +kernel)
theorem qI_X6_canGive : Cond.instanceMethod yX6_canGive ∈ Gw := Gm4 166 (by decide +kernel) (by decide +kernel)
theorem qC_X6_canGive : Cond.code yX6_canGive cX6_canGive 4 (some .boolean) ∈ Gw := Gm4 167 (by decide +kernel) (by decide +kernel)
theorem qM_X6_73 : Cond.methodLink RX6 73 yX6_reason ∈ Gw := Gm4 168 (by decide +kernel) (by decide +kernel)
theorem qI_X6_reason : Cond.instanceMethod yX6_reason ∈ Gw := Gm4 170 (by decide +kernel) (by decide +kernel)
theorem qC_X6_reason : Cond.code yX6_reason cX6_reason 2 (some .int) ∈ Gw := Gm4 171 (by decide +kernel) (by decide +kernel)
theorem qM_X6_77 : Cond.methodLink RX6 77 yX6_without ∈ Gw := Gm4 172 (by decide +kernel) (by decide +kernel)
theorem qI_X6_without : Cond.instanceMethod yX6_without ∈ Gw := Gm4 174 (by decide +kernel) (by decide +kernel)
theorem qC_X6_without : Cond.code yX6_without cX6_without 3 (some .int) ∈ Gw := Gm4 175 (by decide +kernel) (by decide +kernel)
theorem qM_X6_80 : Cond.methodLink RX6 80 yX6_gives ∈ Gw := Gm4 176 (by decide +kernel) (by decide +kernel)
theorem qI_X6_gives : Cond.instanceMethod yX6_gives ∈ Gw := Gm4 178 (by decide +kernel) (by decide +kernel)
theorem qC_X6_gives : Cond.code yX6_gives cX6_gives 5 none ∈ Gw := Gm4 179 (by decide +kernel) (by decide +kernel)
theorem qM_X6_66 : Cond.methodLink RX6 66 yX6_takes ∈ Gw := Gm4 180 (by decide +kernel) (by decide +kernel)
theorem qI_X6_takes : Cond.instanceMethod yX6_takes ∈ Gw := Gm4 182 (by decide +kernel) (by decide +kernel)
theorem qC_X6_takes : Cond.code yX6_takes cX6_takes 6 none ∈ Gw := Gm4 183 (by decide +kernel) (by decide +kernel)
theorem qM_X6_53 : Cond.methodLink RX6 53 yX6_placeOf ∈ Gw := Gm4 184 (by decide +kernel) (by decide +kernel)
theorem qI_X6_placeOf : Cond.instanceMethod yX6_placeOf ∈ Gw := Gm4 186 (by decide +kernel) (by decide +kernel)
theorem qC_X6_placeOf : Cond.code yX6_placeOf cX6_placeOf 6 (some .int) ∈ Gw := Gm4 187 (by decide +kernel) (by decide +kernel)
theorem qM_L_111 : Cond.methodLink RL 111 yX6_want ∈ Gw := Gm4 188 (by decide +kernel) (by decide +kernel)
theorem qI_X6_want : Cond.instanceMethod yX6_want ∈ Gw := Gm4 189 (by decide +kernel) (by decide +kernel)
theorem qV_X6_want : Cond.selects RX6 yX6_want yX6_want ∈ Gw := Gm4 190 (by decide +kernel) (by decide +kernel)
theorem qC_X6_want : Cond.code yX6_want cX6_want 3 (some .int) ∈ Gw := Gm4 191 (by decide +kernel) (by decide +kernel)
theorem qM_X6_93 : Cond.methodLink RX6 93 yX6_isKey ∈ Gw := Gm4 192 (by decide +kernel) (by decide +kernel)
theorem qS_X6_isKey : Cond.static yX6_isKey ∈ Gw := Gm4 193 (by decide +kernel) (by decide +kernel)
theorem qC_X6_isKey : Cond.code yX6_isKey cX6_isKey 2 (some .boolean) ∈ Gw := Gm4 194 (by decide +kernel) (by decide +kernel)
theorem qM_X6_97 : Cond.methodLink RX6 97 yX6_wants ∈ Gw := Gm4 195 (by decide +kernel) (by decide +kernel)
theorem qI_X6_wants : Cond.instanceMethod yX6_wants ∈ Gw := Gm4 197 (by decide +kernel) (by decide +kernel)
theorem qC_X6_wants : Cond.code yX6_wants cX6_wants 4 (some .int) ∈ Gw := Gm4 198 (by decide +kernel) (by decide +kernel)
theorem qM_L_114 : Cond.methodLink RL 114 yX6_delete ∈ Gw := Gm4 199 (by decide +kernel) (by decide +kernel)
theorem qI_X6_delete : Cond.instanceMethod yX6_delete ∈ Gw := Gm4 200 (by decide +kernel) (by decide +kernel)
theorem qV_X6_delete : Cond.selects RX6 yX6_delete yX6_delete ∈ Gw := Gm4 201 (by decide +kernel) (by decide +kernel)
theorem qC_X6_delete : Cond.code yX6_delete cX6_delete 4 (some .int) ∈ Gw := Gm4 202 (by decide +kernel) (by decide +kernel)
theorem qM_X6_100 : Cond.methodLink RX6 100 yX6_isAlive ∈ Gw := Gm4 203 (by decide +kernel) (by decide +kernel)
theorem qI_X6_isAlive : Cond.instanceMethod yX6_isAlive ∈ Gw := Gm4 205 (by decide +kernel) (by decide +kernel)
theorem qC_X6_isAlive : Cond.code yX6_isAlive cX6_isAlive 3 (some .boolean) ∈ Gw := Gm4 206 (by decide +kernel) (by decide +kernel)
theorem qM_X6_103 : Cond.methodLink RX6 103 yX6_deletes ∈ Gw := Gm4 207 (by decide +kernel) (by decide +kernel)
theorem qI_X6_deletes : Cond.instanceMethod yX6_deletes ∈ Gw := Gm4 209 (by decide +kernel) (by decide +kernel)
theorem qC_X6_deletes : Cond.code yX6_deletes cX6_deletes 5 (some .int) ∈ Gw := Gm4 210 (by decide +kernel) (by decide +kernel)
theorem qM_L_117 : Cond.methodLink RL 117 yX6_bringBack ∈ Gw := Gm4 211 (by decide +kernel) (by decide +kernel)
theorem qI_X6_bringBack : Cond.instanceMethod yX6_bringBack ∈ Gw := Gm4 212 (by decide +kernel) (by decide +kernel)
theorem qV_X6_bringBack : Cond.selects RX6 yX6_bringBack yX6_bringBack ∈ Gw := Gm4 213 (by decide +kernel) (by decide +kernel)
theorem qC_X6_bringBack : Cond.code yX6_bringBack cX6_bringBack 4 (some .int) ∈ Gw := Gm4 214 (by decide +kernel) (by decide +kernel)
theorem qM_X6_106 : Cond.methodLink RX6 106 yX6_canComeBack ∈ Gw := Gm4 215 (by decide +kernel) (by decide +kernel)
theorem qI_X6_canComeBack : Cond.instanceMethod yX6_canComeBack ∈ Gw := Gm4 217 (by decide +kernel) (by decide +kernel)
theorem qC_X6_canComeBack : Cond.code yX6_canComeBack cX6_canComeBack 3 (some .boolean) ∈ Gw := Gm4 218 (by decide +kernel) (by decide +kernel)
theorem qM_X6_109 : Cond.methodLink RX6 109 yX6_comesBack ∈ Gw := Gm4 219 (by decide +kernel) (by decide +kernel)
theorem qI_X6_comesBack : Cond.instanceMethod yX6_comesBack ∈ Gw := Gm4 221 (by decide +kernel) (by decide +kernel)
theorem qC_X6_comesBack : Cond.code yX6_comesBack cX6_comesBack 4 (some .int) ∈ Gw := Gm4 222 (by decide +kernel) (by decide +kernel)
theorem qM_L_120 : Cond.methodLink RL 120 yX6_turn ∈ Gw := Gm4 223 (by decide +kernel) (by decide +kernel)
theorem qI_X6_turn : Cond.instanceMethod yX6_turn ∈ Gw := Gm4 224 (by decide +kernel) (by decide +kernel)
theorem qV_X6_turn : Cond.selects RX6 yX6_turn yX6_turn ∈ Gw := Gm4 225 (by decide +kernel) (by decide +kernel)
theorem qC_X6_turn : Cond.code yX6_turn cX6_turn 2 (some .int) ∈ Gw := Gm4 226 (by decide +kernel) (by decide +kernel)
theorem qM_X6_112 : Cond.methodLink RX6 112 yX6_turns ∈ Gw := Gm4 227 (by decide +kernel) (by decide +kernel)
theorem qI_X6_turns : Cond.instanceMethod yX6_turns ∈ Gw := Gm4 229 (by decide +kernel) (by decide +kernel)
theorem qC_X6_turns : Cond.code yX6_turns cX6_turns 7 (some .int) ∈ Gw := Gm4 230 (by decide +kernel) (by decide +kernel)
theorem qM_L_124 : Cond.methodLink RL 124 yX6_follow ∈ Gw := Gm4 231 (by decide +kernel) (by decide +kernel)
theorem qI_X6_follow : Cond.instanceMethod yX6_follow ∈ Gw := Gm4 232 (by decide +kernel) (by decide +kernel)
theorem qV_X6_follow : Cond.selects RX6 yX6_follow yX6_follow ∈ Gw := Gm4 233 (by decide +kernel) (by decide +kernel)
theorem qC_X6_follow : Cond.code yX6_follow cX6_follow 5 (some .int) ∈ Gw := Gm4 234 (by decide +kernel) (by decide +kernel)
theorem qM_X6_115 : Cond.methodLink RX6 115 yX6_refers ∈ Gw := Gm4 235 (by decide +kernel) (by decide +kernel)
theorem qI_X6_refers : Cond.instanceMethod yX6_refers ∈ Gw := Gm4 237 (by decide +kernel) (by decide +kernel)
theorem qC_X6_refers : Cond.code yX6_refers cX6_refers 5 (some .int) ∈ Gw := Gm4 238 (by decide +kernel) (by decide +kernel)
theorem qM_L_127 : Cond.methodLink RL 127 yX6_pass ∈ Gw := Gm4 239 (by decide +kernel) (by decide +kernel)
theorem qI_X6_pass : Cond.instanceMethod yX6_pass ∈ Gw := Gm5 0 (by decide +kernel) (by decide +kernel)
theorem qV_X6_pass : Cond.selects RX6 yX6_pass yX6_pass ∈ Gw := Gm5 1 (by decide +kernel) (by decide +kernel)
theorem qC_X6_pass : Cond.code yX6_pass cX6_pass 3 (some .int) ∈ Gw := Gm5 2 (by decide +kernel) (by decide +kernel)
theorem qM_X6_121 : Cond.methodLink RX6 121 yX6_passes ∈ Gw := Gm5 3 (by decide +kernel) (by decide +kernel)
theorem qI_X6_passes : Cond.instanceMethod yX6_passes ∈ Gw := Gm5 5 (by decide +kernel) (by decide +kernel)
theorem qC_X6_passes : Cond.code yX6_passes cX6_passes 2 (some .int) ∈ Gw := Gm5 6 (by decide +kernel) (by decide +kernel)
theorem qM_X6_118 : Cond.methodLink RX6 118 yX6_keysIn ∈ Gw := Gm5 7 (by decide +kernel) (by decide +kernel)
theorem qI_X6_keysIn : Cond.instanceMethod yX6_keysIn ∈ Gw := Gm5 9 (by decide +kernel) (by decide +kernel)
theorem qC_X6_keysIn : Cond.code yX6_keysIn cX6_keysIn 6 (some .int) ∈ Gw := Gm5 10 (by decide +kernel) (by decide +kernel)
theorem qM_L_130 : Cond.methodLink RL 130 yX6_season ∈ Gw := Gm5 11 (by decide +kernel) (by decide +kernel)
theorem qI_X6_season : Cond.instanceMethod yX6_season ∈ Gw := Gm5 12 (by decide +kernel) (by decide +kernel)
theorem qV_X6_season : Cond.selects RX6 yX6_season yX6_season ∈ Gw := Gm5 13 (by decide +kernel) (by decide +kernel)
theorem qC_X6_season : Cond.code yX6_season cX6_season 3 (some .int) ∈ Gw := Gm5 14 (by decide +kernel) (by decide +kernel)
theorem qM_X6_124 : Cond.methodLink RX6 124 yX6_changes ∈ Gw := Gm5 15 (by decide +kernel) (by decide +kernel)
theorem qI_X6_changes : Cond.instanceMethod yX6_changes ∈ Gw := Gm5 17 (by decide +kernel) (by decide +kernel)
theorem qC_X6_changes : Cond.code yX6_changes cX6_changes 4 (some .int) ∈ Gw := Gm5 18 (by decide +kernel) (by decide +kernel)
theorem qM_L_133 : Cond.methodLink RL 133 yX6_set ∈ Gw := Gm5 19 (by decide +kernel) (by decide +kernel)
theorem qI_X6_set : Cond.instanceMethod yX6_set ∈ Gw := Gm5 20 (by decide +kernel) (by decide +kernel)
theorem qV_X6_set : Cond.selects RX6 yX6_set yX6_set ∈ Gw := Gm5 21 (by decide +kernel) (by decide +kernel)
theorem qC_X6_set : Cond.code yX6_set cX6_set 3 (some .int) ∈ Gw := Gm5 22 (by decide +kernel) (by decide +kernel)
theorem qM_L_136 : Cond.methodLink RL 136 yX6_append ∈ Gw := Gm5 23 (by decide +kernel) (by decide +kernel)
theorem qI_X6_append : Cond.instanceMethod yX6_append ∈ Gw := Gm5 24 (by decide +kernel) (by decide +kernel)
theorem qV_X6_append : Cond.selects RX6 yX6_append yX6_append ∈ Gw := Gm5 25 (by decide +kernel) (by decide +kernel)
theorem qC_X6_append : Cond.code yX6_append cX6_append 2 (some .int) ∈ Gw := Gm5 26 (by decide +kernel) (by decide +kernel)
theorem qM_L_140 : Cond.methodLink RL 140 yX6_clearBuffer ∈ Gw := Gm5 27 (by decide +kernel) (by decide +kernel)
theorem qI_X6_clearBuffer : Cond.instanceMethod yX6_clearBuffer ∈ Gw := Gm5 28 (by decide +kernel) (by decide +kernel)
theorem qV_X6_clearBuffer : Cond.selects RX6 yX6_clearBuffer yX6_clearBuffer ∈ Gw := Gm5 29 (by decide +kernel) (by decide +kernel)
theorem qC_X6_clearBuffer : Cond.code yX6_clearBuffer cX6_clearBuffer 2 (some .int) ∈ Gw := Gm5 30 (by decide +kernel) (by decide +kernel)
theorem qM_L_144 : Cond.methodLink RL 144 yX6_firstError ∈ Gw := Gm5 31 (by decide +kernel) (by decide +kernel)
theorem qI_X6_firstError : Cond.instanceMethod yX6_firstError ∈ Gw := Gm5 32 (by decide +kernel) (by decide +kernel)
theorem qV_X6_firstError : Cond.selects RX6 yX6_firstError yX6_firstError ∈ Gw := Gm5 33 (by decide +kernel) (by decide +kernel)
theorem qC_X6_firstError : Cond.code yX6_firstError cX6_firstError 2 (some .int) ∈ Gw := Gm5 34 (by decide +kernel) (by decide +kernel)
theorem qM_X6_157 : Cond.methodLink RX6 157 yX6_error ∈ Gw := Gm5 35 (by decide +kernel) (by decide +kernel)
theorem qI_X6_error : Cond.instanceMethod yX6_error ∈ Gw := Gm5 37 (by decide +kernel) (by decide +kernel)
theorem qC_X6_error : Cond.code yX6_error cX6_error 1 (some .int) ∈ Gw := Gm5 38 (by decide +kernel) (by decide +kernel)
theorem qM_X6_153 : Cond.methodLink RX6 153 yX6_order ∈ Gw := Gm5 39 (by decide +kernel) (by decide +kernel)
theorem qI_X6_order : Cond.instanceMethod yX6_order ∈ Gw := Gm5 41 (by decide +kernel) (by decide +kernel)
theorem qC_X6_order : Cond.code yX6_order cX6_order 4 (some .char) ∈ Gw := Gm5 42 (by decide +kernel) (by decide +kernel)
theorem qM_X6_143 : Cond.methodLink RX6 143 yX6_takesDays ∈ Gw := Gm5 43 (by decide +kernel) (by decide +kernel)
theorem qI_X6_takesDays : Cond.instanceMethod yX6_takesDays ∈ Gw := Gm5 45 (by decide +kernel) (by decide +kernel)
theorem qC_X6_takesDays : Cond.code yX6_takesDays cX6_takesDays 1 (some .boolean) ∈ Gw := Gm5 46 (by decide +kernel) (by decide +kernel)
theorem qM_X6_133 : Cond.methodLink RX6 133 yX6_isSign ∈ Gw := Gm5 47 (by decide +kernel) (by decide +kernel)
theorem qI_X6_isSign : Cond.instanceMethod yX6_isSign ∈ Gw := Gm5 49 (by decide +kernel) (by decide +kernel)
theorem qC_X6_isSign : Cond.code yX6_isSign cX6_isSign 3 (some .boolean) ∈ Gw := Gm5 50 (by decide +kernel) (by decide +kernel)
theorem qM_X6_147 : Cond.methodLink RX6 147 yX6_takesKind ∈ Gw := Gm5 51 (by decide +kernel) (by decide +kernel)
theorem qI_X6_takesKind : Cond.instanceMethod yX6_takesKind ∈ Gw := Gm5 53 (by decide +kernel) (by decide +kernel)
theorem qC_X6_takesKind : Cond.code yX6_takesKind cX6_takesKind 2 (some .boolean) ∈ Gw := Gm5 54 (by decide +kernel) (by decide +kernel)
theorem qM_X6_150 : Cond.methodLink RX6 150 yX6_takesKey ∈ Gw := Gm5 55 (by decide +kernel) (by decide +kernel)
theorem qI_X6_takesKey : Cond.instanceMethod yX6_takesKey ∈ Gw := Gm5 57 (by decide +kernel) (by decide +kernel)
theorem qC_X6_takesKey : Cond.code yX6_takesKey cX6_takesKey 1 (some .boolean) ∈ Gw := Gm5 58 (by decide +kernel) (by decide +kernel)
theorem qM_L_148 : Cond.methodLink RL 148 yX6_run ∈ Gw := Gm5 59 (by decide +kernel) (by decide +kernel)
theorem qI_X6_run : Cond.instanceMethod yX6_run ∈ Gw := Gm5 60 (by decide +kernel) (by decide +kernel)
theorem qV_X6_run : Cond.selects RX6 yX6_run yX6_run ∈ Gw := Gm5 61 (by decide +kernel) (by decide +kernel)
theorem qC_X6_run : Cond.code yX6_run cX6_run 3 (some .int) ∈ Gw := Gm5 62 (by decide +kernel) (by decide +kernel)
theorem qM_X6_161 : Cond.methodLink RX6 161 yX6_does ∈ Gw := Gm5 63 (by decide +kernel) (by decide +kernel)
theorem qI_X6_does : Cond.instanceMethod yX6_does ∈ Gw := Gm5 65 (by decide +kernel) (by decide +kernel)
theorem qC_X6_does : Cond.code yX6_does cX6_does 2 (some .boolean) ∈ Gw := Gm5 66 (by decide +kernel) (by decide +kernel)
theorem qM_L_151 : Cond.methodLink RL 151 yX6_keep ∈ Gw := Gm5 67 (by decide +kernel) (by decide +kernel)
theorem qI_X6_keep : Cond.instanceMethod yX6_keep ∈ Gw := Gm5 68 (by decide +kernel) (by decide +kernel)
theorem qV_X6_keep : Cond.selects RX6 yX6_keep yX6_keep ∈ Gw := Gm5 69 (by decide +kernel) (by decide +kernel)
theorem qC_X6_keep : Cond.code yX6_keep cX6_keep 2 (some .int) ∈ Gw := Gm5 70 (by decide +kernel) (by decide +kernel)
theorem qM_L_154 : Cond.methodLink RL 154 yX6_goBack ∈ Gw := Gm5 71 (by decide +kernel) (by decide +kernel)
theorem qI_X6_goBack : Cond.instanceMethod yX6_goBack ∈ Gw := Gm5 72 (by decide +kernel) (by decide +kernel)
theorem qV_X6_goBack : Cond.selects RX6 yX6_goBack yX6_goBack ∈ Gw := Gm5 73 (by decide +kernel) (by decide +kernel)
theorem qC_X6_goBack : Cond.code yX6_goBack cX6_goBack 2 (some .int) ∈ Gw := Gm5 74 (by decide +kernel) (by decide +kernel)
theorem qM_L_157 : Cond.methodLink RL 157 yX6_undo ∈ Gw := Gm5 75 (by decide +kernel) (by decide +kernel)
theorem qI_X6_undo : Cond.instanceMethod yX6_undo ∈ Gw := Gm5 76 (by decide +kernel) (by decide +kernel)
theorem qV_X6_undo : Cond.selects RX6 yX6_undo yX6_undo ∈ Gw := Gm5 77 (by decide +kernel) (by decide +kernel)
theorem qC_X6_undo : Cond.code yX6_undo cX6_undo 1 (some .int) ∈ Gw := Gm5 78 (by decide +kernel) (by decide +kernel)
theorem qM_L_160 : Cond.methodLink RL 160 yX6_keyOf ∈ Gw := Gm5 79 (by decide +kernel) (by decide +kernel)
theorem qI_X6_keyOf : Cond.instanceMethod yX6_keyOf ∈ Gw := Gm5 80 (by decide +kernel) (by decide +kernel)
theorem qV_X6_keyOf : Cond.selects RX6 yX6_keyOf yX6_keyOf ∈ Gw := Gm5 81 (by decide +kernel) (by decide +kernel)
theorem qC_X6_keyOf : Cond.code yX6_keyOf cX6_keyOf 4 (some .int) ∈ Gw := Gm5 82 (by decide +kernel) (by decide +kernel)
theorem qM_X6_165 : Cond.methodLink RX6 165 yX6_keys ∈ Gw := Gm5 83 (by decide +kernel) (by decide +kernel)
theorem qI_X6_keys : Cond.instanceMethod yX6_keys ∈ Gw := Gm5 85 (by decide +kernel) (by decide +kernel)
theorem qC_X6_keys : Cond.code yX6_keys cX6_keys 6 (some .int) ∈ Gw := Gm5 86 (by decide +kernel) (by decide +kernel)
theorem qM_L_163 : Cond.methodLink RL 163 yX6_kindOf ∈ Gw := Gm5 87 (by decide +kernel) (by decide +kernel)
theorem qI_X6_kindOf : Cond.instanceMethod yX6_kindOf ∈ Gw := Gm5 88 (by decide +kernel) (by decide +kernel)
theorem qV_X6_kindOf : Cond.selects RX6 yX6_kindOf yX6_kindOf ∈ Gw := Gm5 89 (by decide +kernel) (by decide +kernel)
theorem qC_X6_kindOf : Cond.code yX6_kindOf cX6_kindOf 3 (some .int) ∈ Gw := Gm5 90 (by decide +kernel) (by decide +kernel)
theorem qM_X6_168 : Cond.methodLink RX6 168 yX6_kinds ∈ Gw := Gm5 91 (by decide +kernel) (by decide +kernel)
theorem qI_X6_kinds : Cond.instanceMethod yX6_kinds ∈ Gw := Gm5 93 (by decide +kernel) (by decide +kernel)
theorem qC_X6_kinds : Cond.code yX6_kinds cX6_kinds 3 (some .int) ∈ Gw := Gm5 94 (by decide +kernel) (by decide +kernel)
theorem qM_L_166 : Cond.methodLink RL 166 yX6_pile ∈ Gw := Gm5 95 (by decide +kernel) (by decide +kernel)
theorem qI_X6_pile : Cond.instanceMethod yX6_pile ∈ Gw := Gm5 96 (by decide +kernel) (by decide +kernel)
theorem qV_X6_pile : Cond.selects RX6 yX6_pile yX6_pile ∈ Gw := Gm5 97 (by decide +kernel) (by decide +kernel)
theorem qC_X6_pile : Cond.code yX6_pile cX6_pile 3 (some .int) ∈ Gw := Gm5 98 (by decide +kernel) (by decide +kernel)
theorem qM_X6_171 : Cond.methodLink RX6 171 yX6_piled ∈ Gw := Gm5 99 (by decide +kernel) (by decide +kernel)
theorem qI_X6_piled : Cond.instanceMethod yX6_piled ∈ Gw := Gm5 101 (by decide +kernel) (by decide +kernel)
theorem qC_X6_piled : Cond.code yX6_piled cX6_piled 3 (some .int) ∈ Gw := Gm5 102 (by decide +kernel) (by decide +kernel)
theorem qM_L_169 : Cond.methodLink RL 169 yX6_count ∈ Gw := Gm5 103 (by decide +kernel) (by decide +kernel)
theorem qI_X6_count : Cond.instanceMethod yX6_count ∈ Gw := Gm5 104 (by decide +kernel) (by decide +kernel)
theorem qV_X6_count : Cond.selects RX6 yX6_count yX6_count ∈ Gw := Gm5 105 (by decide +kernel) (by decide +kernel)
theorem qC_X6_count : Cond.code yX6_count cX6_count 2 (some .int) ∈ Gw := Gm5 106 (by decide +kernel) (by decide +kernel)
theorem qM_X6_180 : Cond.methodLink RX6 180 yX6_counted ∈ Gw := Gm5 107 (by decide +kernel) (by decide +kernel)
theorem qI_X6_counted : Cond.instanceMethod yX6_counted ∈ Gw := Gm5 109 (by decide +kernel) (by decide +kernel)
theorem qC_X6_counted : Cond.code yX6_counted cX6_counted 2 (some .int) ∈ Gw := Gm5 110 (by decide +kernel) (by decide +kernel)
theorem qM_X6_174 : Cond.methodLink RX6 174 yX6_sum ∈ Gw := Gm5 111 (by decide +kernel) (by decide +kernel)
theorem qI_X6_sum : Cond.instanceMethod yX6_sum ∈ Gw := Gm5 113 (by decide +kernel) (by decide +kernel)
theorem qC_X6_sum : Cond.code yX6_sum cX6_sum 2 (some .int) ∈ Gw := Gm5 114 (by decide +kernel) (by decide +kernel)
theorem qM_X6_177 : Cond.methodLink RX6 177 yX6_greatestRound ∈ Gw := Gm5 115 (by decide +kernel) (by decide +kernel)
theorem qI_X6_greatestRound : Cond.instanceMethod yX6_greatestRound ∈ Gw := Gm5 117 (by decide +kernel) (by decide +kernel)
theorem qC_X6_greatestRound : Cond.code yX6_greatestRound cX6_greatestRound 4 (some .int) ∈ Gw := Gm5 118 (by decide +kernel) (by decide +kernel)
theorem qM_L_172 : Cond.methodLink RL 172 yX6_setting ∈ Gw := Gm5 119 (by decide +kernel) (by decide +kernel)
theorem qI_X6_setting : Cond.instanceMethod yX6_setting ∈ Gw := Gm5 120 (by decide +kernel) (by decide +kernel)
theorem qV_X6_setting : Cond.selects RX6 yX6_setting yX6_setting ∈ Gw := Gm5 121 (by decide +kernel) (by decide +kernel)
theorem qC_X6_setting : Cond.code yX6_setting cX6_setting 2 (some .int) ∈ Gw := Gm5 122 (by decide +kernel) (by decide +kernel)
theorem qM_L_175 : Cond.methodLink RL 175 yX6_ifAsked ∈ Gw := Gm5 123 (by decide +kernel) (by decide +kernel)
theorem qI_X6_ifAsked : Cond.instanceMethod yX6_ifAsked ∈ Gw := Gm5 124 (by decide +kernel) (by decide +kernel)
theorem qV_X6_ifAsked : Cond.selects RX6 yX6_ifAsked yX6_ifAsked ∈ Gw := Gm5 125 (by decide +kernel) (by decide +kernel)
theorem qC_X6_ifAsked : Cond.code yX6_ifAsked cX6_ifAsked 2 (some .int) ∈ Gw := Gm5 126 (by decide +kernel) (by decide +kernel)
theorem qM_X6_183 : Cond.methodLink RX6 183 yX6_wouldAsk ∈ Gw := Gm5 127 (by decide +kernel) (by decide +kernel)
theorem qI_X6_wouldAsk : Cond.instanceMethod yX6_wouldAsk ∈ Gw := Gm5 129 (by decide +kernel) (by decide +kernel)
theorem qC_X6_wouldAsk : Cond.code yX6_wouldAsk cX6_wouldAsk 3 (some .int) ∈ Gw := Gm5 130 (by decide +kernel) (by decide +kernel)
theorem qM_L_178 : Cond.methodLink RL 178 yX6_keyIn ∈ Gw := Gm5 131 (by decide +kernel) (by decide +kernel)
theorem qI_X6_keyIn : Cond.instanceMethod yX6_keyIn ∈ Gw := Gm5 132 (by decide +kernel) (by decide +kernel)
theorem qV_X6_keyIn : Cond.selects RX6 yX6_keyIn yX6_keyIn ∈ Gw := Gm5 133 (by decide +kernel) (by decide +kernel)
theorem qC_X6_keyIn : Cond.code yX6_keyIn cX6_keyIn 2 (some .int) ∈ Gw := Gm5 134 (by decide +kernel) (by decide +kernel)
theorem qM_X6_186 : Cond.methodLink RX6 186 yX6_soonest ∈ Gw := Gm5 135 (by decide +kernel) (by decide +kernel)
theorem qI_X6_soonest : Cond.instanceMethod yX6_soonest ∈ Gw := Gm5 137 (by decide +kernel) (by decide +kernel)
theorem qC_X6_soonest : Cond.code yX6_soonest cX6_soonest 5 (some .int) ∈ Gw := Gm5 138 (by decide +kernel) (by decide +kernel)
theorem qM_L_181 : Cond.methodLink RL 181 yX6_coming ∈ Gw := Gm5 139 (by decide +kernel) (by decide +kernel)
theorem qI_X6_coming : Cond.instanceMethod yX6_coming ∈ Gw := Gm5 140 (by decide +kernel) (by decide +kernel)
theorem qV_X6_coming : Cond.selects RX6 yX6_coming yX6_coming ∈ Gw := Gm5 141 (by decide +kernel) (by decide +kernel)
theorem qC_X6_coming : Cond.code yX6_coming cX6_coming 3 (some .int) ∈ Gw := Gm5 142 (by decide +kernel) (by decide +kernel)
theorem qM_X6_189 : Cond.methodLink RX6 189 yX6_comes ∈ Gw := Gm5 143 (by decide +kernel) (by decide +kernel)
theorem qI_X6_comes : Cond.instanceMethod yX6_comes ∈ Gw := Gm5 145 (by decide +kernel) (by decide +kernel)
theorem qC_X6_comes : Cond.code yX6_comes cX6_comes 6 (some .int) ∈ Gw := Gm5 146 (by decide +kernel) (by decide +kernel)
theorem qM_L_184 : Cond.methodLink RL 184 yX6_longest ∈ Gw := Gm5 147 (by decide +kernel) (by decide +kernel)
theorem qI_X6_longest : Cond.instanceMethod yX6_longest ∈ Gw := Gm5 148 (by decide +kernel) (by decide +kernel)
theorem qV_X6_longest : Cond.selects RX6 yX6_longest yX6_longest ∈ Gw := Gm5 149 (by decide +kernel) (by decide +kernel)
theorem qC_X6_longest : Cond.code yX6_longest cX6_longest 2 (some .int) ∈ Gw := Gm5 150 (by decide +kernel) (by decide +kernel)
theorem qM_X6_192 : Cond.methodLink RX6 192 yX6_longestSeason ∈ Gw := Gm5 151 (by decide +kernel) (by decide +kernel)
theorem qI_X6_longestSeason : Cond.instanceMethod yX6_longestSeason ∈ Gw := Gm5 153 (by decide +kernel) (by decide +kernel)
theorem qC_X6_longestSeason : Cond.code yX6_longestSeason cX6_longestSeason 5 (some .int) ∈ Gw := Gm5 154 (by decide +kernel) (by decide +kernel)
theorem qM_L_187 : Cond.methodLink RL 187 yX6_ifFollowed ∈ Gw := Gm5 155 (by decide +kernel) (by decide +kernel)
theorem qI_X6_ifFollowed : Cond.instanceMethod yX6_ifFollowed ∈ Gw := Gm5 156 (by decide +kernel) (by decide +kernel)
theorem qV_X6_ifFollowed : Cond.selects RX6 yX6_ifFollowed yX6_ifFollowed ∈ Gw := Gm5 157 (by decide +kernel) (by decide +kernel)
theorem qC_X6_ifFollowed : Cond.code yX6_ifFollowed cX6_ifFollowed 4 (some .int) ∈ Gw := Gm5 158 (by decide +kernel) (by decide +kernel)
theorem qM_L_191 : Cond.methodLink RL 191 yX6_scarcest ∈ Gw := Gm5 159 (by decide +kernel) (by decide +kernel)
theorem qI_X6_scarcest : Cond.instanceMethod yX6_scarcest ∈ Gw := Gm5 160 (by decide +kernel) (by decide +kernel)
theorem qV_X6_scarcest : Cond.selects RX6 yX6_scarcest yX6_scarcest ∈ Gw := Gm5 161 (by decide +kernel) (by decide +kernel)
theorem qC_X6_scarcest : Cond.code yX6_scarcest cX6_scarcest 1 (some .int) ∈ Gw := Gm5 162 (by decide +kernel) (by decide +kernel)
theorem qM_X6_195 : Cond.methodLink RX6 195 yX6_fewest ∈ Gw := Gm5 163 (by decide +kernel) (by decide +kernel)
theorem qI_X6_fewest : Cond.instanceMethod yX6_fewest ∈ Gw := Gm5 165 (by decide +kernel) (by decide +kernel)
theorem qC_X6_fewest : Cond.code yX6_fewest cX6_fewest 3 (some .int) ∈ Gw := Gm5 166 (by decide +kernel) (by decide +kernel)
theorem qM_L_196 : Cond.methodLink RL 196 yX6_ripeShare ∈ Gw := Gm5 167 (by decide +kernel) (by decide +kernel)
theorem qI_X6_ripeShare : Cond.instanceMethod yX6_ripeShare ∈ Gw := Gm5 168 (by decide +kernel) (by decide +kernel)
theorem qV_X6_ripeShare : Cond.selects RX6 yX6_ripeShare yX6_ripeShare ∈ Gw := Gm5 169 (by decide +kernel) (by decide +kernel)
theorem qC_X6_ripeShare : Cond.code yX6_ripeShare cX6_ripeShare 1 (some .double) ∈ Gw := Gm5 170 (by decide +kernel) (by decide +kernel)
theorem qM_X6_198 : Cond.methodLink RX6 198 yX6_share ∈ Gw := Gm5 171 (by decide +kernel) (by decide +kernel)
theorem qI_X6_share : Cond.instanceMethod yX6_share ∈ Gw := Gm5 173 (by decide +kernel) (by decide +kernel)
theorem qC_X6_share : Cond.code yX6_share cX6_share 1 (some .double) ∈ Gw := Gm5 174 (by decide +kernel) (by decide +kernel)
theorem qM_L_200 : Cond.methodLink RL 200 yX6_meanAge ∈ Gw := Gm5 175 (by decide +kernel) (by decide +kernel)
theorem qI_X6_meanAge : Cond.instanceMethod yX6_meanAge ∈ Gw := Gm5 176 (by decide +kernel) (by decide +kernel)
theorem qV_X6_meanAge : Cond.selects RX6 yX6_meanAge yX6_meanAge ∈ Gw := Gm5 177 (by decide +kernel) (by decide +kernel)
theorem qC_X6_meanAge : Cond.code yX6_meanAge cX6_meanAge 2 (some .float) ∈ Gw := Gm5 178 (by decide +kernel) (by decide +kernel)
theorem qM_X6_202 : Cond.methodLink RX6 202 yX6_mean ∈ Gw := Gm5 179 (by decide +kernel) (by decide +kernel)
theorem qI_X6_mean : Cond.instanceMethod yX6_mean ∈ Gw := Gm5 181 (by decide +kernel) (by decide +kernel)
theorem qC_X6_mean : Cond.code yX6_mean cX6_mean 4 (some .float) ∈ Gw := Gm5 182 (by decide +kernel) (by decide +kernel)
theorem qM_L_205 : Cond.methodLink RL 205 yX6_digest ∈ Gw := Gm5 183 (by decide +kernel) (by decide +kernel)
theorem qI_X6_digest : Cond.instanceMethod yX6_digest ∈ Gw := Gm5 184 (by decide +kernel) (by decide +kernel)
theorem qV_X6_digest : Cond.selects RX6 yX6_digest yX6_digest ∈ Gw := Gm5 185 (by decide +kernel) (by decide +kernel)
theorem qC_X6_digest : Cond.code yX6_digest cX6_digest 5 (some .long) ∈ Gw := Gm5 186 (by decide +kernel) (by decide +kernel)
theorem qCon_X6_206 : Cond.constantLong RX6 206 (3361 : Int64) ∈ Gw := Gm5 187 (by decide +kernel) (by decide +kernel)
theorem qCon_X6_208 : Cond.constantLong RX6 208 (31 : Int64) ∈ Gw := Gm5 188 (by decide +kernel) (by decide +kernel)
theorem qM_X6_210 : Cond.methodLink RX6 210 yJxf58ca_floatToIntBits_5c35a ∈ Gw := Gm5 189 (by decide +kernel) (by decide +kernel)
theorem qS_Jxf58ca_floatToIntBits_5c35a : Cond.static yJxf58ca_floatToIntBits_5c35a ∈ Gw := Gm5 190 (by decide +kernel) (by decide +kernel)
theorem qC_Jxf58ca_floatToIntBits_5c35a : Cond.code yJxf58ca_floatToIntBits_5c35a cJxf58ca_floatToIntBits_5c35a 1 (some .int) ∈ Gw := Gm5 191 (by decide +kernel) (by decide +kernel)
theorem qM_Jxf58ca_59 : Cond.methodLink RJxf58ca 59 yJxf58ca_isNaN_12338 ∈ Gw := Gm5 192 (by decide +kernel) (by decide +kernel)
theorem qS_Jxf58ca_isNaN_12338 : Cond.static yJxf58ca_isNaN_12338 ∈ Gw := Gm5 193 (by decide +kernel) (by decide +kernel)
theorem qC_Jxf58ca_isNaN_12338 : Cond.code yJxf58ca_isNaN_12338 cJxf58ca_isNaN_12338 1 (some .boolean) ∈ Gw := Gm5 194 (by decide +kernel) (by decide +kernel)
theorem qM_Jxf58ca_74 : Cond.methodLink RJxf58ca 74 (⟨RJxf58ca, "floatToRawIntBits", "(F)I"⟩ : MethodName) ∈ Gw := Gm5 195 (by decide +kernel) (by decide +kernel)
theorem qS_Jxf58ca_floatToRawIntBits_FI : Cond.static (⟨RJxf58ca, "floatToRawIntBits", "(F)I"⟩ : MethodName) ∈ Gw := Gm5 196 (by decide +kernel) (by decide +kernel)
theorem qNat_Jxf58ca_floatToRawIntBits_FI : Cond.native (⟨RJxf58ca, "floatToRawIntBits", "(F)I"⟩ : MethodName) ∈ Gw := Gm5 197 (by decide +kernel) (by decide +kernel)
theorem qCon_Jxf58ca_77 : Cond.constant RJxf58ca 77 (2143289344 : Int32) ∈ Gw := Gm5 198 (by decide +kernel) (by decide +kernel)
theorem qM_X6_216 : Cond.methodLink RX6 216 yJxe99ae_doubleToLongBits_ccdee ∈ Gw := Gm5 199 (by decide +kernel) (by decide +kernel)
theorem qS_Jxe99ae_doubleToLongBits_ccdee : Cond.static yJxe99ae_doubleToLongBits_ccdee ∈ Gw := Gm5 200 (by decide +kernel) (by decide +kernel)
theorem qC_Jxe99ae_doubleToLongBits_ccdee : Cond.code yJxe99ae_doubleToLongBits_ccdee cJxe99ae_doubleToLongBits_ccdee 2 (some .long) ∈ Gw := Gm5 201 (by decide +kernel) (by decide +kernel)
theorem qM_Jxe99ae_122 : Cond.methodLink RJxe99ae 122 yJxe99ae_isNaN_b9ae7 ∈ Gw := Gm5 202 (by decide +kernel) (by decide +kernel)
theorem qS_Jxe99ae_isNaN_b9ae7 : Cond.static yJxe99ae_isNaN_b9ae7 ∈ Gw := Gm5 203 (by decide +kernel) (by decide +kernel)
theorem qC_Jxe99ae_isNaN_b9ae7 : Cond.code yJxe99ae_isNaN_b9ae7 cJxe99ae_isNaN_b9ae7 2 (some .boolean) ∈ Gw := Gm5 204 (by decide +kernel) (by decide +kernel)
theorem qM_Jxe99ae_134 : Cond.methodLink RJxe99ae 134 (⟨RJxe99ae, "doubleToRawLongBits", "(D)J"⟩ : MethodName) ∈ Gw := Gm5 205 (by decide +kernel) (by decide +kernel)
theorem qS_Jxe99ae_doubleToRawLongBits_DJ : Cond.static (⟨RJxe99ae, "doubleToRawLongBits", "(D)J"⟩ : MethodName) ∈ Gw := Gm5 206 (by decide +kernel) (by decide +kernel)
theorem qNat_Jxe99ae_doubleToRawLongBits_DJ : Cond.native (⟨RJxe99ae, "doubleToRawLongBits", "(D)J"⟩ : MethodName) ∈ Gw := Gm5 207 (by decide +kernel) (by decide +kernel)
theorem qCon_Jxe99ae_137 : Cond.constantLong RJxe99ae 137 (9221120237041090560 : Int64) ∈ Gw := Gm5 208 (by decide +kernel) (by decide +kernel)
theorem qA_long : Cond.arrayClass .long ∈ Gw := Gm5 209 (by decide +kernel) (by decide +kernel)
theorem qA_double : Cond.arrayClass .double ∈ Gw := Gm5 210 (by decide +kernel) (by decide +kernel)
theorem qL_X0_0 : u_lay RX0 TX0 0 ∈ Gw := Gm1 83 (by decide +kernel) (by decide +kernel)
theorem qL_X0_1 : u_lay RX0 TX0 1 ∈ Gw := Gm1 85 (by decide +kernel) (by decide +kernel)
theorem qL_X0_2 : u_lay RX0 TX0 2 ∈ Gw := Gm1 87 (by decide +kernel) (by decide +kernel)
theorem qL_X0_3 : u_lay RX0 TX0 3 ∈ Gw := Gm1 89 (by decide +kernel) (by decide +kernel)
theorem qL_X0_4 : u_lay RX0 TX0 4 ∈ Gw := Gm1 91 (by decide +kernel) (by decide +kernel)
theorem qL_X0_5 : u_lay RX0 TX0 5 ∈ Gw := Gm1 93 (by decide +kernel) (by decide +kernel)
theorem qL_X0_6 : u_lay RX0 TX0 6 ∈ Gw := Gm1 95 (by decide +kernel) (by decide +kernel)
theorem qL_X0_7 : u_lay RX0 TX0 7 ∈ Gw := Gm1 97 (by decide +kernel) (by decide +kernel)
theorem uX0 : ∀ w ∈ u_ws RX0 TX0 8, w ∈ Gw := by
  intro w hw
  rw [show u_ws RX0 TX0 8 = [u_lay RX0 TX0 0, u_lay RX0 TX0 1, u_lay RX0 TX0 2, u_lay RX0 TX0 3, u_lay RX0 TX0 4, u_lay RX0 TX0 5, u_lay RX0 TX0 6, u_lay RX0 TX0 7] from rfl] at hw
  simp only [List.mem_cons, List.not_mem_nil, or_false] at hw
  rcases hw with rfl | rfl | rfl | rfl | rfl | rfl | rfl | rfl
  · exact qL_X0_0
  · exact qL_X0_1
  · exact qL_X0_2
  · exact qL_X0_3
  · exact qL_X0_4
  · exact qL_X0_5
  · exact qL_X0_6
  · exact qL_X0_7
theorem qL_X1_0 : u_lay RX1 TX1 0 ∈ Gw := Gm1 111 (by decide +kernel) (by decide +kernel)
theorem qL_X1_1 : u_lay RX1 TX1 1 ∈ Gw := Gm1 113 (by decide +kernel) (by decide +kernel)
theorem qL_X1_2 : u_lay RX1 TX1 2 ∈ Gw := Gm1 115 (by decide +kernel) (by decide +kernel)
theorem uX1 : ∀ w ∈ u_ws RX1 TX1 3, w ∈ Gw := by
  intro w hw
  rw [show u_ws RX1 TX1 3 = [u_lay RX1 TX1 0, u_lay RX1 TX1 1, u_lay RX1 TX1 2] from rfl] at hw
  simp only [List.mem_cons, List.not_mem_nil, or_false] at hw
  rcases hw with rfl | rfl | rfl
  · exact qL_X1_0
  · exact qL_X1_1
  · exact qL_X1_2
theorem qL_X2_0 : u_lay RX2 TX2 0 ∈ Gw := Gm1 144 (by decide +kernel) (by decide +kernel)
theorem qL_X2_1 : u_lay RX2 TX2 1 ∈ Gw := Gm1 146 (by decide +kernel) (by decide +kernel)
theorem uX2 : ∀ w ∈ u_ws RX2 TX2 2, w ∈ Gw := by
  intro w hw
  rw [show u_ws RX2 TX2 2 = [u_lay RX2 TX2 0, u_lay RX2 TX2 1] from rfl] at hw
  simp only [List.mem_cons, List.not_mem_nil, or_false] at hw
  rcases hw with rfl | rfl
  · exact qL_X2_0
  · exact qL_X2_1
theorem qL_X3_0 : u_lay RX3 TX3 0 ∈ Gw := Gm1 47 (by decide +kernel) (by decide +kernel)
theorem qL_X3_1 : u_lay RX3 TX3 1 ∈ Gw := Gm1 49 (by decide +kernel) (by decide +kernel)
theorem qL_X3_2 : u_lay RX3 TX3 2 ∈ Gw := Gm1 51 (by decide +kernel) (by decide +kernel)
theorem qL_X3_3 : u_lay RX3 TX3 3 ∈ Gw := Gm1 53 (by decide +kernel) (by decide +kernel)
theorem qL_X3_4 : u_lay RX3 TX3 4 ∈ Gw := Gm1 55 (by decide +kernel) (by decide +kernel)
theorem qL_X3_5 : u_lay RX3 TX3 5 ∈ Gw := Gm1 57 (by decide +kernel) (by decide +kernel)
theorem uX3 : ∀ w ∈ u_ws RX3 TX3 6, w ∈ Gw := by
  intro w hw
  rw [show u_ws RX3 TX3 6 = [u_lay RX3 TX3 0, u_lay RX3 TX3 1, u_lay RX3 TX3 2, u_lay RX3 TX3 3, u_lay RX3 TX3 4, u_lay RX3 TX3 5] from rfl] at hw
  simp only [List.mem_cons, List.not_mem_nil, or_false] at hw
  rcases hw with rfl | rfl | rfl | rfl | rfl | rfl
  · exact qL_X3_0
  · exact qL_X3_1
  · exact qL_X3_2
  · exact qL_X3_3
  · exact qL_X3_4
  · exact qL_X3_5
theorem qL_X4_0 : u_lay RX4 TX4 0 ∈ Gw := Gm1 130 (by decide +kernel) (by decide +kernel)
theorem qL_X4_1 : u_lay RX4 TX4 1 ∈ Gw := Gm1 132 (by decide +kernel) (by decide +kernel)
theorem uX4 : ∀ w ∈ u_ws RX4 TX4 2, w ∈ Gw := by
  intro w hw
  rw [show u_ws RX4 TX4 2 = [u_lay RX4 TX4 0, u_lay RX4 TX4 1] from rfl] at hw
  simp only [List.mem_cons, List.not_mem_nil, or_false] at hw
  rcases hw with rfl | rfl
  · exact qL_X4_0
  · exact qL_X4_1
theorem qL_X5_0 : u_lay RX5 TX5 0 ∈ Gw := Gm1 155 (by decide +kernel) (by decide +kernel)
theorem qL_X5_1 : u_lay RX5 TX5 1 ∈ Gw := Gm1 157 (by decide +kernel) (by decide +kernel)
theorem qL_X5_2 : u_lay RX5 TX5 2 ∈ Gw := Gm1 159 (by decide +kernel) (by decide +kernel)
theorem qL_X5_3 : u_lay RX5 TX5 3 ∈ Gw := Gm1 161 (by decide +kernel) (by decide +kernel)
theorem qL_X5_4 : u_lay RX5 TX5 4 ∈ Gw := Gm1 163 (by decide +kernel) (by decide +kernel)
theorem uX5 : ∀ w ∈ u_ws RX5 TX5 5, w ∈ Gw := by
  intro w hw
  rw [show u_ws RX5 TX5 5 = [u_lay RX5 TX5 0, u_lay RX5 TX5 1, u_lay RX5 TX5 2, u_lay RX5 TX5 3, u_lay RX5 TX5 4] from rfl] at hw
  simp only [List.mem_cons, List.not_mem_nil, or_false] at hw
  rcases hw with rfl | rfl | rfl | rfl | rfl
  · exact qL_X5_0
  · exact qL_X5_1
  · exact qL_X5_2
  · exact qL_X5_3
  · exact qL_X5_4
theorem qL_X6_0 : u_lay RX6 TX6 0 ∈ Gw := Gm4 87 (by decide +kernel) (by decide +kernel)
theorem qL_X6_1 : u_lay RX6 TX6 1 ∈ Gw := Gm4 89 (by decide +kernel) (by decide +kernel)
theorem qL_X6_2 : u_lay RX6 TX6 2 ∈ Gw := Gm4 91 (by decide +kernel) (by decide +kernel)
theorem qL_X6_3 : u_lay RX6 TX6 3 ∈ Gw := Gm4 93 (by decide +kernel) (by decide +kernel)
theorem qL_X6_4 : u_lay RX6 TX6 4 ∈ Gw := Gm4 95 (by decide +kernel) (by decide +kernel)
theorem qL_X6_5 : u_lay RX6 TX6 5 ∈ Gw := Gm4 97 (by decide +kernel) (by decide +kernel)
theorem qL_X6_6 : u_lay RX6 TX6 6 ∈ Gw := Gm4 99 (by decide +kernel) (by decide +kernel)
theorem qL_X6_7 : u_lay RX6 TX6 7 ∈ Gw := Gm4 101 (by decide +kernel) (by decide +kernel)
theorem qL_X6_8 : u_lay RX6 TX6 8 ∈ Gw := Gm4 103 (by decide +kernel) (by decide +kernel)
theorem uX6 : ∀ w ∈ u_ws RX6 TX6 9, w ∈ Gw := by
  intro w hw
  rw [show u_ws RX6 TX6 9 = [u_lay RX6 TX6 0, u_lay RX6 TX6 1, u_lay RX6 TX6 2, u_lay RX6 TX6 3, u_lay RX6 TX6 4, u_lay RX6 TX6 5, u_lay RX6 TX6 6, u_lay RX6 TX6 7, u_lay RX6 TX6 8] from rfl] at hw
  simp only [List.mem_cons, List.not_mem_nil, or_false] at hw
  rcases hw with rfl | rfl | rfl | rfl | rfl | rfl | rfl | rfl | rfl
  · exact qL_X6_0
  · exact qL_X6_1
  · exact qL_X6_2
  · exact qL_X6_3
  · exact qL_X6_4
  · exact qL_X6_5
  · exact qL_X6_6
  · exact qL_X6_7
  · exact qL_X6_8
end
section
theorem dX0_init_0 : decode cX0_init 0 = .ok (.aload_n 0, 1) := by decide +kernel
theorem dX0_init_1 : decode cX0_init 1 = .ok (.invokespecial 3, 3) := by decide +kernel
theorem dX0_init_4 : decode cX0_init 4 = .ok (.aload_n 0, 1) := by decide +kernel
theorem dX0_init_5 : decode cX0_init 5 = .ok (.iconst 4, 1) := by decide +kernel
theorem dX0_init_6 : decode cX0_init 6 = .ok (.newarray .int, 2) := by decide +kernel
theorem dX0_init_8 : decode cX0_init 8 = .ok (.putfield 9, 3) := by decide +kernel
theorem dX0_init_11 : decode cX0_init 11 = .ok (.aload_n 0, 1) := by decide +kernel
theorem dX0_init_12 : decode cX0_init 12 = .ok (.iconst 4, 1) := by decide +kernel
theorem dX0_init_13 : decode cX0_init 13 = .ok (.newarray .int, 2) := by decide +kernel
theorem dX0_init_15 : decode cX0_init 15 = .ok (.putfield 15, 3) := by decide +kernel
theorem dX0_init_18 : decode cX0_init 18 = .ok (.aload_n 0, 1) := by decide +kernel
theorem dX0_init_19 : decode cX0_init 19 = .ok (.iconst 4, 1) := by decide +kernel
theorem dX0_init_20 : decode cX0_init 20 = .ok (.newarray .int, 2) := by decide +kernel
theorem dX0_init_22 : decode cX0_init 22 = .ok (.putfield 18, 3) := by decide +kernel
theorem dX0_init_25 : decode cX0_init 25 = .ok (.aload_n 0, 1) := by decide +kernel
theorem dX0_init_26 : decode cX0_init 26 = .ok (.iconst 4, 1) := by decide +kernel
theorem dX0_init_27 : decode cX0_init 27 = .ok (.newarray .int, 2) := by decide +kernel
theorem dX0_init_29 : decode cX0_init 29 = .ok (.putfield 21, 3) := by decide +kernel
theorem dX0_init_32 : decode cX0_init 32 = .ok (.aload_n 0, 1) := by decide +kernel
theorem dX0_init_33 : decode cX0_init 33 = .ok (.iconst 4, 1) := by decide +kernel
theorem dX0_init_34 : decode cX0_init 34 = .ok (.newarray .int, 2) := by decide +kernel
theorem dX0_init_36 : decode cX0_init 36 = .ok (.putfield 24, 3) := by decide +kernel
theorem dX0_init_39 : decode cX0_init 39 = .ok (.return_, 1) := by decide +kernel
theorem dX0_copyFrom_0 : decode cX0_copyFrom 0 = .ok (.aload_n 1, 1) := by decide +kernel
theorem dX0_copyFrom_1 : decode cX0_copyFrom 1 = .ok (.getfield 9, 3) := by decide +kernel
theorem dX0_copyFrom_4 : decode cX0_copyFrom 4 = .ok (.iconst 0, 1) := by decide +kernel
theorem dX0_copyFrom_5 : decode cX0_copyFrom 5 = .ok (.aload_n 0, 1) := by decide +kernel
theorem dX0_copyFrom_6 : decode cX0_copyFrom 6 = .ok (.getfield 9, 3) := by decide +kernel
theorem dX0_copyFrom_9 : decode cX0_copyFrom 9 = .ok (.iconst 0, 1) := by decide +kernel
theorem dX0_copyFrom_10 : decode cX0_copyFrom 10 = .ok (.iconst 4, 1) := by decide +kernel
theorem dX0_copyFrom_11 : decode cX0_copyFrom 11 = .ok (.invokestatic 27, 3) := by decide +kernel
theorem dX0_copyFrom_14 : decode cX0_copyFrom 14 = .ok (.aload_n 1, 1) := by decide +kernel
theorem dX0_copyFrom_15 : decode cX0_copyFrom 15 = .ok (.getfield 15, 3) := by decide +kernel
theorem dX0_copyFrom_18 : decode cX0_copyFrom 18 = .ok (.iconst 0, 1) := by decide +kernel
theorem dX0_copyFrom_19 : decode cX0_copyFrom 19 = .ok (.aload_n 0, 1) := by decide +kernel
theorem dX0_copyFrom_20 : decode cX0_copyFrom 20 = .ok (.getfield 15, 3) := by decide +kernel
theorem dX0_copyFrom_23 : decode cX0_copyFrom 23 = .ok (.iconst 0, 1) := by decide +kernel
theorem dX0_copyFrom_24 : decode cX0_copyFrom 24 = .ok (.iconst 4, 1) := by decide +kernel
theorem dX0_copyFrom_25 : decode cX0_copyFrom 25 = .ok (.invokestatic 27, 3) := by decide +kernel
theorem dX0_copyFrom_28 : decode cX0_copyFrom 28 = .ok (.aload_n 1, 1) := by decide +kernel
theorem dX0_copyFrom_29 : decode cX0_copyFrom 29 = .ok (.getfield 18, 3) := by decide +kernel
theorem dX0_copyFrom_32 : decode cX0_copyFrom 32 = .ok (.iconst 0, 1) := by decide +kernel
theorem dX0_copyFrom_33 : decode cX0_copyFrom 33 = .ok (.aload_n 0, 1) := by decide +kernel
theorem dX0_copyFrom_34 : decode cX0_copyFrom 34 = .ok (.getfield 18, 3) := by decide +kernel
theorem dX0_copyFrom_37 : decode cX0_copyFrom 37 = .ok (.iconst 0, 1) := by decide +kernel
theorem dX0_copyFrom_38 : decode cX0_copyFrom 38 = .ok (.iconst 4, 1) := by decide +kernel
theorem dX0_copyFrom_39 : decode cX0_copyFrom 39 = .ok (.invokestatic 27, 3) := by decide +kernel
theorem dX0_copyFrom_42 : decode cX0_copyFrom 42 = .ok (.aload_n 1, 1) := by decide +kernel
theorem dX0_copyFrom_43 : decode cX0_copyFrom 43 = .ok (.getfield 21, 3) := by decide +kernel
theorem dX0_copyFrom_46 : decode cX0_copyFrom 46 = .ok (.iconst 0, 1) := by decide +kernel
theorem dX0_copyFrom_47 : decode cX0_copyFrom 47 = .ok (.aload_n 0, 1) := by decide +kernel
theorem dX0_copyFrom_48 : decode cX0_copyFrom 48 = .ok (.getfield 21, 3) := by decide +kernel
theorem dX0_copyFrom_51 : decode cX0_copyFrom 51 = .ok (.iconst 0, 1) := by decide +kernel
theorem dX0_copyFrom_52 : decode cX0_copyFrom 52 = .ok (.iconst 4, 1) := by decide +kernel
theorem dX0_copyFrom_53 : decode cX0_copyFrom 53 = .ok (.invokestatic 27, 3) := by decide +kernel
theorem dX0_copyFrom_56 : decode cX0_copyFrom 56 = .ok (.aload_n 1, 1) := by decide +kernel
theorem dX0_copyFrom_57 : decode cX0_copyFrom 57 = .ok (.getfield 24, 3) := by decide +kernel
theorem dX0_copyFrom_60 : decode cX0_copyFrom 60 = .ok (.iconst 0, 1) := by decide +kernel
theorem dX0_copyFrom_61 : decode cX0_copyFrom 61 = .ok (.aload_n 0, 1) := by decide +kernel
theorem dX0_copyFrom_62 : decode cX0_copyFrom 62 = .ok (.getfield 24, 3) := by decide +kernel
theorem dX0_copyFrom_65 : decode cX0_copyFrom 65 = .ok (.iconst 0, 1) := by decide +kernel
theorem dX0_copyFrom_66 : decode cX0_copyFrom 66 = .ok (.iconst 4, 1) := by decide +kernel
theorem dX0_copyFrom_67 : decode cX0_copyFrom 67 = .ok (.invokestatic 27, 3) := by decide +kernel
theorem dX0_copyFrom_70 : decode cX0_copyFrom 70 = .ok (.aload_n 0, 1) := by decide +kernel
theorem dX0_copyFrom_71 : decode cX0_copyFrom 71 = .ok (.aload_n 1, 1) := by decide +kernel
theorem dX0_copyFrom_72 : decode cX0_copyFrom 72 = .ok (.getfield 33, 3) := by decide +kernel
theorem dX0_copyFrom_75 : decode cX0_copyFrom 75 = .ok (.putfield 33, 3) := by decide +kernel
theorem dX0_copyFrom_78 : decode cX0_copyFrom 78 = .ok (.aload_n 0, 1) := by decide +kernel
theorem dX0_copyFrom_79 : decode cX0_copyFrom 79 = .ok (.aload_n 1, 1) := by decide +kernel
theorem dX0_copyFrom_80 : decode cX0_copyFrom 80 = .ok (.getfield 37, 3) := by decide +kernel
theorem dX0_copyFrom_83 : decode cX0_copyFrom 83 = .ok (.putfield 37, 3) := by decide +kernel
theorem dX0_copyFrom_86 : decode cX0_copyFrom 86 = .ok (.aload_n 0, 1) := by decide +kernel
theorem dX0_copyFrom_87 : decode cX0_copyFrom 87 = .ok (.aload_n 1, 1) := by decide +kernel
theorem dX0_copyFrom_88 : decode cX0_copyFrom 88 = .ok (.getfield 40, 3) := by decide +kernel
theorem dX0_copyFrom_91 : decode cX0_copyFrom 91 = .ok (.putfield 40, 3) := by decide +kernel
theorem dX0_copyFrom_94 : decode cX0_copyFrom 94 = .ok (.return_, 1) := by decide +kernel
theorem dX0_noteWithout_0 : decode cX0_noteWithout 0 = .ok (.aload_n 0, 1) := by decide +kernel
theorem dX0_noteWithout_1 : decode cX0_noteWithout 1 = .ok (.getfield 21, 3) := by decide +kernel
theorem dX0_noteWithout_4 : decode cX0_noteWithout 4 = .ok (.iload_n 1, 1) := by decide +kernel
theorem dX0_noteWithout_5 : decode cX0_noteWithout 5 = .ok (.dup2, 1) := by decide +kernel
theorem dX0_noteWithout_6 : decode cX0_noteWithout 6 = .ok (.iaload, 1) := by decide +kernel
theorem dX0_noteWithout_7 : decode cX0_noteWithout 7 = .ok (.iconst 1, 1) := by decide +kernel
theorem dX0_noteWithout_8 : decode cX0_noteWithout 8 = .ok (.iadd, 1) := by decide +kernel
theorem dX0_noteWithout_9 : decode cX0_noteWithout 9 = .ok (.iastore, 1) := by decide +kernel
theorem dX0_noteWithout_10 : decode cX0_noteWithout 10 = .ok (.iload_n 2, 1) := by decide +kernel
theorem dX0_noteWithout_11 : decode cX0_noteWithout 11 = .ok (.iconst 2, 1) := by decide +kernel
theorem dX0_noteWithout_12 : decode cX0_noteWithout 12 = .ok (.if_icmp .eq 8, 3) := by decide +kernel
theorem dX0_noteWithout_15 : decode cX0_noteWithout 15 = .ok (.iload_n 2, 1) := by decide +kernel
theorem dX0_noteWithout_16 : decode cX0_noteWithout 16 = .ok (.iconst 5, 1) := by decide +kernel
theorem dX0_noteWithout_17 : decode cX0_noteWithout 17 = .ok (.if_icmp .ne 13, 3) := by decide +kernel
theorem dX0_noteWithout_20 : decode cX0_noteWithout 20 = .ok (.aload_n 0, 1) := by decide +kernel
theorem dX0_noteWithout_21 : decode cX0_noteWithout 21 = .ok (.getfield 24, 3) := by decide +kernel
theorem dX0_noteWithout_24 : decode cX0_noteWithout 24 = .ok (.iload_n 1, 1) := by decide +kernel
theorem dX0_noteWithout_25 : decode cX0_noteWithout 25 = .ok (.dup2, 1) := by decide +kernel
theorem dX0_noteWithout_26 : decode cX0_noteWithout 26 = .ok (.iaload, 1) := by decide +kernel
theorem dX0_noteWithout_27 : decode cX0_noteWithout 27 = .ok (.iconst 1, 1) := by decide +kernel
theorem dX0_noteWithout_28 : decode cX0_noteWithout 28 = .ok (.iadd, 1) := by decide +kernel
theorem dX0_noteWithout_29 : decode cX0_noteWithout 29 = .ok (.iastore, 1) := by decide +kernel
theorem dX0_noteWithout_30 : decode cX0_noteWithout 30 = .ok (.return_, 1) := by decide +kernel
theorem dX0_noteFollowed_0 : decode cX0_noteFollowed 0 = .ok (.aload_n 0, 1) := by decide +kernel
theorem dX0_noteFollowed_1 : decode cX0_noteFollowed 1 = .ok (.dup, 1) := by decide +kernel
theorem dX0_noteFollowed_2 : decode cX0_noteFollowed 2 = .ok (.getfield 33, 3) := by decide +kernel
theorem dX0_noteFollowed_5 : decode cX0_noteFollowed 5 = .ok (.iconst 1, 1) := by decide +kernel
theorem dX0_noteFollowed_6 : decode cX0_noteFollowed 6 = .ok (.iadd, 1) := by decide +kernel
theorem dX0_noteFollowed_7 : decode cX0_noteFollowed 7 = .ok (.putfield 33, 3) := by decide +kernel
theorem dX0_noteFollowed_10 : decode cX0_noteFollowed 10 = .ok (.iload_n 1, 1) := by decide +kernel
theorem dX0_noteFollowed_11 : decode cX0_noteFollowed 11 = .ok (.iconst 2, 1) := by decide +kernel
theorem dX0_noteFollowed_12 : decode cX0_noteFollowed 12 = .ok (.if_icmp .ne 13, 3) := by decide +kernel
theorem dX0_noteFollowed_15 : decode cX0_noteFollowed 15 = .ok (.aload_n 0, 1) := by decide +kernel
theorem dX0_noteFollowed_16 : decode cX0_noteFollowed 16 = .ok (.dup, 1) := by decide +kernel
theorem dX0_noteFollowed_17 : decode cX0_noteFollowed 17 = .ok (.getfield 37, 3) := by decide +kernel
theorem dX0_noteFollowed_20 : decode cX0_noteFollowed 20 = .ok (.iconst 1, 1) := by decide +kernel
theorem dX0_noteFollowed_21 : decode cX0_noteFollowed 21 = .ok (.iadd, 1) := by decide +kernel
theorem dX0_noteFollowed_22 : decode cX0_noteFollowed 22 = .ok (.putfield 37, 3) := by decide +kernel
theorem dX0_noteFollowed_25 : decode cX0_noteFollowed 25 = .ok (.iload_n 1, 1) := by decide +kernel
theorem dX0_noteFollowed_26 : decode cX0_noteFollowed 26 = .ok (.iconst 1, 1) := by decide +kernel
theorem dX0_noteFollowed_27 : decode cX0_noteFollowed 27 = .ok (.if_icmp .ne 13, 3) := by decide +kernel
theorem dX0_noteFollowed_30 : decode cX0_noteFollowed 30 = .ok (.aload_n 0, 1) := by decide +kernel
theorem dX0_noteFollowed_31 : decode cX0_noteFollowed 31 = .ok (.dup, 1) := by decide +kernel
theorem dX0_noteFollowed_32 : decode cX0_noteFollowed 32 = .ok (.getfield 40, 3) := by decide +kernel
theorem dX0_noteFollowed_35 : decode cX0_noteFollowed 35 = .ok (.iconst 1, 1) := by decide +kernel
theorem dX0_noteFollowed_36 : decode cX0_noteFollowed 36 = .ok (.iadd, 1) := by decide +kernel
theorem dX0_noteFollowed_37 : decode cX0_noteFollowed 37 = .ok (.putfield 40, 3) := by decide +kernel
theorem dX0_noteFollowed_40 : decode cX0_noteFollowed 40 = .ok (.return_, 1) := by decide +kernel
theorem dX0_aliveByAccount_0 : decode cX0_aliveByAccount 0 = .ok (.iconst 0, 1) := by decide +kernel
theorem dX0_aliveByAccount_1 : decode cX0_aliveByAccount 1 = .ok (.istore_n 1, 1) := by decide +kernel
theorem dX0_aliveByAccount_2 : decode cX0_aliveByAccount 2 = .ok (.iconst 0, 1) := by decide +kernel
theorem dX0_aliveByAccount_3 : decode cX0_aliveByAccount 3 = .ok (.istore_n 2, 1) := by decide +kernel
theorem dX0_aliveByAccount_4 : decode cX0_aliveByAccount 4 = .ok (.iload_n 2, 1) := by decide +kernel
theorem dX0_aliveByAccount_5 : decode cX0_aliveByAccount 5 = .ok (.iconst 4, 1) := by decide +kernel
theorem dX0_aliveByAccount_6 : decode cX0_aliveByAccount 6 = .ok (.if_icmp .ge 32, 3) := by decide +kernel
theorem dX0_aliveByAccount_9 : decode cX0_aliveByAccount 9 = .ok (.iload_n 1, 1) := by decide +kernel
theorem dX0_aliveByAccount_10 : decode cX0_aliveByAccount 10 = .ok (.aload_n 0, 1) := by decide +kernel
theorem dX0_aliveByAccount_11 : decode cX0_aliveByAccount 11 = .ok (.getfield 9, 3) := by decide +kernel
theorem dX0_aliveByAccount_14 : decode cX0_aliveByAccount 14 = .ok (.iload_n 2, 1) := by decide +kernel
theorem dX0_aliveByAccount_15 : decode cX0_aliveByAccount 15 = .ok (.iaload, 1) := by decide +kernel
theorem dX0_aliveByAccount_16 : decode cX0_aliveByAccount 16 = .ok (.aload_n 0, 1) := by decide +kernel
theorem dX0_aliveByAccount_17 : decode cX0_aliveByAccount 17 = .ok (.getfield 18, 3) := by decide +kernel
theorem dX0_aliveByAccount_20 : decode cX0_aliveByAccount 20 = .ok (.iload_n 2, 1) := by decide +kernel
theorem dX0_aliveByAccount_21 : decode cX0_aliveByAccount 21 = .ok (.iaload, 1) := by decide +kernel
theorem dX0_aliveByAccount_22 : decode cX0_aliveByAccount 22 = .ok (.iadd, 1) := by decide +kernel
theorem dX0_aliveByAccount_23 : decode cX0_aliveByAccount 23 = .ok (.aload_n 0, 1) := by decide +kernel
theorem dX0_aliveByAccount_24 : decode cX0_aliveByAccount 24 = .ok (.getfield 15, 3) := by decide +kernel
theorem dX0_aliveByAccount_27 : decode cX0_aliveByAccount 27 = .ok (.iload_n 2, 1) := by decide +kernel
theorem dX0_aliveByAccount_28 : decode cX0_aliveByAccount 28 = .ok (.iaload, 1) := by decide +kernel
theorem dX0_aliveByAccount_29 : decode cX0_aliveByAccount 29 = .ok (.isub, 1) := by decide +kernel
theorem dX0_aliveByAccount_30 : decode cX0_aliveByAccount 30 = .ok (.iadd, 1) := by decide +kernel
theorem dX0_aliveByAccount_31 : decode cX0_aliveByAccount 31 = .ok (.istore_n 1, 1) := by decide +kernel
theorem dX0_aliveByAccount_32 : decode cX0_aliveByAccount 32 = .ok (.iinc 2 1, 3) := by decide +kernel
theorem dX0_aliveByAccount_35 : decode cX0_aliveByAccount 35 = .ok (.goto (-31), 3) := by decide +kernel
theorem dX0_aliveByAccount_38 : decode cX0_aliveByAccount 38 = .ok (.iload_n 1, 1) := by decide +kernel
theorem dX0_aliveByAccount_39 : decode cX0_aliveByAccount 39 = .ok (.ireturn, 1) := by decide +kernel
theorem dX1_init_0 : decode cX1_init 0 = .ok (.aload_n 0, 1) := by decide +kernel
theorem dX1_init_1 : decode cX1_init 1 = .ok (.invokespecial 3, 3) := by decide +kernel
theorem dX1_init_4 : decode cX1_init 4 = .ok (.aload_n 0, 1) := by decide +kernel
theorem dX1_init_5 : decode cX1_init 5 = .ok (.new 9, 3) := by decide +kernel
theorem dX1_init_8 : decode cX1_init 8 = .ok (.dup, 1) := by decide +kernel
theorem dX1_init_9 : decode cX1_init 9 = .ok (.invokespecial 11, 3) := by decide +kernel
theorem dX1_init_12 : decode cX1_init 12 = .ok (.putfield 12, 3) := by decide +kernel
theorem dX1_init_15 : decode cX1_init 15 = .ok (.aload_n 0, 1) := by decide +kernel
theorem dX1_init_16 : decode cX1_init 16 = .ok (.new 18, 3) := by decide +kernel
theorem dX1_init_19 : decode cX1_init 19 = .ok (.dup, 1) := by decide +kernel
theorem dX1_init_20 : decode cX1_init 20 = .ok (.invokespecial 20, 3) := by decide +kernel
theorem dX1_init_23 : decode cX1_init 23 = .ok (.putfield 21, 3) := by decide +kernel
theorem dX1_init_26 : decode cX1_init 26 = .ok (.aload_n 0, 1) := by decide +kernel
theorem dX1_init_27 : decode cX1_init 27 = .ok (.iconst 3, 1) := by decide +kernel
theorem dX1_init_28 : decode cX1_init 28 = .ok (.newarray .int, 2) := by decide +kernel
theorem dX1_init_30 : decode cX1_init 30 = .ok (.putfield 25, 3) := by decide +kernel
theorem dX1_init_33 : decode cX1_init 33 = .ok (.getstatic 29, 3) := by decide +kernel
theorem dX1_init_36 : decode cX1_init 36 = .ok (.iconst 0, 1) := by decide +kernel
theorem dX1_init_37 : decode cX1_init 37 = .ok (.aload_n 0, 1) := by decide +kernel
theorem dX1_init_38 : decode cX1_init 38 = .ok (.getfield 25, 3) := by decide +kernel
theorem dX1_init_41 : decode cX1_init 41 = .ok (.iconst 0, 1) := by decide +kernel
theorem dX1_init_42 : decode cX1_init 42 = .ok (.iconst 3, 1) := by decide +kernel
theorem dX1_init_43 : decode cX1_init 43 = .ok (.invokestatic 32, 3) := by decide +kernel
theorem dX1_init_46 : decode cX1_init 46 = .ok (.return_, 1) := by decide +kernel
theorem dX1_copyState_0 : decode cX1_copyState 0 = .ok (.aload_n 0, 1) := by decide +kernel
theorem dX1_copyState_1 : decode cX1_copyState 1 = .ok (.ifnull 7, 3) := by decide +kernel
theorem dX1_copyState_4 : decode cX1_copyState 4 = .ok (.aload_n 1, 1) := by decide +kernel
theorem dX1_copyState_5 : decode cX1_copyState 5 = .ok (.ifnonnull 4, 3) := by decide +kernel
theorem dX1_copyState_8 : decode cX1_copyState 8 = .ok (.return_, 1) := by decide +kernel
theorem dX1_copyState_9 : decode cX1_copyState 9 = .ok (.aload_n 1, 1) := by decide +kernel
theorem dX1_copyState_10 : decode cX1_copyState 10 = .ok (.getfield 12, 3) := by decide +kernel
theorem dX1_copyState_13 : decode cX1_copyState 13 = .ok (.aload_n 0, 1) := by decide +kernel
theorem dX1_copyState_14 : decode cX1_copyState 14 = .ok (.getfield 12, 3) := by decide +kernel
theorem dX1_copyState_17 : decode cX1_copyState 17 = .ok (.invokevirtual 38, 3) := by decide +kernel
theorem dX1_copyState_20 : decode cX1_copyState 20 = .ok (.aload_n 1, 1) := by decide +kernel
theorem dX1_copyState_21 : decode cX1_copyState 21 = .ok (.getfield 21, 3) := by decide +kernel
theorem dX1_copyState_24 : decode cX1_copyState 24 = .ok (.aload_n 0, 1) := by decide +kernel
theorem dX1_copyState_25 : decode cX1_copyState 25 = .ok (.getfield 21, 3) := by decide +kernel
theorem dX1_copyState_28 : decode cX1_copyState 28 = .ok (.invokevirtual 42, 3) := by decide +kernel
theorem dX1_copyState_31 : decode cX1_copyState 31 = .ok (.aload_n 0, 1) := by decide +kernel
theorem dX1_copyState_32 : decode cX1_copyState 32 = .ok (.getfield 25, 3) := by decide +kernel
theorem dX1_copyState_35 : decode cX1_copyState 35 = .ok (.iconst 0, 1) := by decide +kernel
theorem dX1_copyState_36 : decode cX1_copyState 36 = .ok (.aload_n 1, 1) := by decide +kernel
theorem dX1_copyState_37 : decode cX1_copyState 37 = .ok (.getfield 25, 3) := by decide +kernel
theorem dX1_copyState_40 : decode cX1_copyState 40 = .ok (.iconst 0, 1) := by decide +kernel
theorem dX1_copyState_41 : decode cX1_copyState 41 = .ok (.iconst 3, 1) := by decide +kernel
theorem dX1_copyState_42 : decode cX1_copyState 42 = .ok (.invokestatic 32, 3) := by decide +kernel
theorem dX1_copyState_45 : decode cX1_copyState 45 = .ok (.return_, 1) := by decide +kernel
theorem dX1_answerToRow_0 : decode cX1_answerToRow 0 = .ok (.aload_n 0, 1) := by decide +kernel
theorem dX1_answerToRow_1 : decode cX1_answerToRow 1 = .ok (.getfield 12, 3) := by decide +kernel
theorem dX1_answerToRow_4 : decode cX1_answerToRow 4 = .ok (.iload_n 1, 1) := by decide +kernel
theorem dX1_answerToRow_5 : decode cX1_answerToRow 5 = .ok (.aload_n 0, 1) := by decide +kernel
theorem dX1_answerToRow_6 : decode cX1_answerToRow 6 = .ok (.getfield 25, 3) := by decide +kernel
theorem dX1_answerToRow_9 : decode cX1_answerToRow 9 = .ok (.iconst 0, 1) := by decide +kernel
theorem dX1_answerToRow_10 : decode cX1_answerToRow 10 = .ok (.iaload, 1) := by decide +kernel
theorem dX1_answerToRow_11 : decode cX1_answerToRow 11 = .ok (.iconst 0, 1) := by decide +kernel
theorem dX1_answerToRow_12 : decode cX1_answerToRow 12 = .ok (.invokevirtual 45, 3) := by decide +kernel
theorem dX1_answerToRow_15 : decode cX1_answerToRow 15 = .ok (.istore_n 2, 1) := by decide +kernel
theorem dX1_answerToRow_16 : decode cX1_answerToRow 16 = .ok (.iload_n 2, 1) := by decide +kernel
theorem dX1_answerToRow_17 : decode cX1_answerToRow 17 = .ok (.iconst (-1), 1) := by decide +kernel
theorem dX1_answerToRow_18 : decode cX1_answerToRow 18 = .ok (.if_icmp .eq 5, 3) := by decide +kernel
theorem dX1_answerToRow_21 : decode cX1_answerToRow 21 = .ok (.iload_n 2, 1) := by decide +kernel
theorem dX1_answerToRow_22 : decode cX1_answerToRow 22 = .ok (.ireturn, 1) := by decide +kernel
theorem dX1_answerToRow_23 : decode cX1_answerToRow 23 = .ok (.bipush 100, 2) := by decide +kernel
theorem dX1_answerToRow_25 : decode cX1_answerToRow 25 = .ok (.aload_n 0, 1) := by decide +kernel
theorem dX1_answerToRow_26 : decode cX1_answerToRow 26 = .ok (.getfield 12, 3) := by decide +kernel
theorem dX1_answerToRow_29 : decode cX1_answerToRow 29 = .ok (.iload_n 1, 1) := by decide +kernel
theorem dX1_answerToRow_30 : decode cX1_answerToRow 30 = .ok (.iconst 2, 1) := by decide +kernel
theorem dX1_answerToRow_31 : decode cX1_answerToRow 31 = .ok (.invokevirtual 49, 3) := by decide +kernel
theorem dX1_answerToRow_34 : decode cX1_answerToRow 34 = .ok (.ifCond .ne 7, 3) := by decide +kernel
theorem dX1_answerToRow_37 : decode cX1_answerToRow 37 = .ok (.iconst 1, 1) := by decide +kernel
theorem dX1_answerToRow_38 : decode cX1_answerToRow 38 = .ok (.goto 4, 3) := by decide +kernel
theorem dX1_answerToRow_41 : decode cX1_answerToRow 41 = .ok (.iconst 2, 1) := by decide +kernel
theorem dX1_answerToRow_42 : decode cX1_answerToRow 42 = .ok (.iadd, 1) := by decide +kernel
theorem dX1_answerToRow_43 : decode cX1_answerToRow 43 = .ok (.ireturn, 1) := by decide +kernel
theorem dX1_serveRow_0 : decode cX1_serveRow 0 = .ok (.aload_n 0, 1) := by decide +kernel
theorem dX1_serveRow_1 : decode cX1_serveRow 1 = .ok (.iload_n 1, 1) := by decide +kernel
theorem dX1_serveRow_2 : decode cX1_serveRow 2 = .ok (.invokevirtual 53, 3) := by decide +kernel
theorem dX1_serveRow_5 : decode cX1_serveRow 5 = .ok (.istore_n 2, 1) := by decide +kernel
theorem dX1_serveRow_6 : decode cX1_serveRow 6 = .ok (.iload_n 2, 1) := by decide +kernel
theorem dX1_serveRow_7 : decode cX1_serveRow 7 = .ok (.bipush 100, 2) := by decide +kernel
theorem dX1_serveRow_9 : decode cX1_serveRow 9 = .ok (.if_icmp .lt 18, 3) := by decide +kernel
theorem dX1_serveRow_12 : decode cX1_serveRow 12 = .ok (.aload_n 0, 1) := by decide +kernel
theorem dX1_serveRow_13 : decode cX1_serveRow 13 = .ok (.getfield 21, 3) := by decide +kernel
theorem dX1_serveRow_16 : decode cX1_serveRow 16 = .ok (.iload_n 1, 1) := by decide +kernel
theorem dX1_serveRow_17 : decode cX1_serveRow 17 = .ok (.iload_n 2, 1) := by decide +kernel
theorem dX1_serveRow_18 : decode cX1_serveRow 18 = .ok (.bipush 100, 2) := by decide +kernel
theorem dX1_serveRow_20 : decode cX1_serveRow 20 = .ok (.isub, 1) := by decide +kernel
theorem dX1_serveRow_21 : decode cX1_serveRow 21 = .ok (.invokevirtual 57, 3) := by decide +kernel
theorem dX1_serveRow_24 : decode cX1_serveRow 24 = .ok (.goto 9, 3) := by decide +kernel
theorem dX1_serveRow_27 : decode cX1_serveRow 27 = .ok (.aload_n 0, 1) := by decide +kernel
theorem dX1_serveRow_28 : decode cX1_serveRow 28 = .ok (.iload_n 1, 1) := by decide +kernel
theorem dX1_serveRow_29 : decode cX1_serveRow 29 = .ok (.iload_n 2, 1) := by decide +kernel
theorem dX1_serveRow_30 : decode cX1_serveRow 30 = .ok (.invokevirtual 61, 3) := by decide +kernel
theorem dX1_serveRow_33 : decode cX1_serveRow 33 = .ok (.iload_n 2, 1) := by decide +kernel
theorem dX1_serveRow_34 : decode cX1_serveRow 34 = .ok (.ireturn, 1) := by decide +kernel
theorem dX1_serveWish_0 : decode cX1_serveWish 0 = .ok (.aload_n 0, 1) := by decide +kernel
theorem dX1_serveWish_1 : decode cX1_serveWish 1 = .ok (.iload_n 1, 1) := by decide +kernel
theorem dX1_serveWish_2 : decode cX1_serveWish 2 = .ok (.iload_n 2, 1) := by decide +kernel
theorem dX1_serveWish_3 : decode cX1_serveWish 3 = .ok (.invokevirtual 64, 3) := by decide +kernel
theorem dX1_serveWish_6 : decode cX1_serveWish 6 = .ok (.istore_n 3, 1) := by decide +kernel
theorem dX1_serveWish_7 : decode cX1_serveWish 7 = .ok (.iload_n 3, 1) := by decide +kernel
theorem dX1_serveWish_8 : decode cX1_serveWish 8 = .ok (.ifCond .eq 17, 3) := by decide +kernel
theorem dX1_serveWish_11 : decode cX1_serveWish 11 = .ok (.aload_n 0, 1) := by decide +kernel
theorem dX1_serveWish_12 : decode cX1_serveWish 12 = .ok (.getfield 21, 3) := by decide +kernel
theorem dX1_serveWish_15 : decode cX1_serveWish 15 = .ok (.iload_n 1, 1) := by decide +kernel
theorem dX1_serveWish_16 : decode cX1_serveWish 16 = .ok (.iload_n 3, 1) := by decide +kernel
theorem dX1_serveWish_17 : decode cX1_serveWish 17 = .ok (.invokevirtual 57, 3) := by decide +kernel
theorem dX1_serveWish_20 : decode cX1_serveWish 20 = .ok (.bipush 100, 2) := by decide +kernel
theorem dX1_serveWish_22 : decode cX1_serveWish 22 = .ok (.iload_n 3, 1) := by decide +kernel
theorem dX1_serveWish_23 : decode cX1_serveWish 23 = .ok (.iadd, 1) := by decide +kernel
theorem dX1_serveWish_24 : decode cX1_serveWish 24 = .ok (.ireturn, 1) := by decide +kernel
theorem dX1_serveWish_25 : decode cX1_serveWish 25 = .ok (.aload_n 0, 1) := by decide +kernel
theorem dX1_serveWish_26 : decode cX1_serveWish 26 = .ok (.iload_n 1, 1) := by decide +kernel
theorem dX1_serveWish_27 : decode cX1_serveWish 27 = .ok (.iload_n 2, 1) := by decide +kernel
theorem dX1_serveWish_28 : decode cX1_serveWish 28 = .ok (.invokevirtual 61, 3) := by decide +kernel
theorem dX1_serveWish_31 : decode cX1_serveWish 31 = .ok (.aload_n 0, 1) := by decide +kernel
theorem dX1_serveWish_32 : decode cX1_serveWish 32 = .ok (.getfield 12, 3) := by decide +kernel
theorem dX1_serveWish_35 : decode cX1_serveWish 35 = .ok (.iload_n 1, 1) := by decide +kernel
theorem dX1_serveWish_36 : decode cX1_serveWish 36 = .ok (.iload_n 2, 1) := by decide +kernel
theorem dX1_serveWish_37 : decode cX1_serveWish 37 = .ok (.invokevirtual 67, 3) := by decide +kernel
theorem dX1_serveWish_40 : decode cX1_serveWish 40 = .ok (.ireturn, 1) := by decide +kernel
theorem dX1_reasonAgainst_0 : decode cX1_reasonAgainst 0 = .ok (.aload_n 0, 1) := by decide +kernel
theorem dX1_reasonAgainst_1 : decode cX1_reasonAgainst 1 = .ok (.getfield 12, 3) := by decide +kernel
theorem dX1_reasonAgainst_4 : decode cX1_reasonAgainst 4 = .ok (.iload_n 1, 1) := by decide +kernel
theorem dX1_reasonAgainst_5 : decode cX1_reasonAgainst 5 = .ok (.iload_n 2, 1) := by decide +kernel
theorem dX1_reasonAgainst_6 : decode cX1_reasonAgainst 6 = .ok (.invokevirtual 70, 3) := by decide +kernel
theorem dX1_reasonAgainst_9 : decode cX1_reasonAgainst 9 = .ok (.lookupswitch 31 #[(1, 27), (3, 29)], 27) := by decide +kernel
theorem dX1_reasonAgainst_36 : decode cX1_reasonAgainst 36 = .ok (.iconst 3, 1) := by decide +kernel
theorem dX1_reasonAgainst_37 : decode cX1_reasonAgainst 37 = .ok (.ireturn, 1) := by decide +kernel
theorem dX1_reasonAgainst_38 : decode cX1_reasonAgainst 38 = .ok (.iconst 4, 1) := by decide +kernel
theorem dX1_reasonAgainst_39 : decode cX1_reasonAgainst 39 = .ok (.ireturn, 1) := by decide +kernel
theorem dX1_reasonAgainst_40 : decode cX1_reasonAgainst 40 = .ok (.aload_n 0, 1) := by decide +kernel
theorem dX1_reasonAgainst_41 : decode cX1_reasonAgainst 41 = .ok (.getfield 12, 3) := by decide +kernel
theorem dX1_reasonAgainst_44 : decode cX1_reasonAgainst 44 = .ok (.iload_n 1, 1) := by decide +kernel
theorem dX1_reasonAgainst_45 : decode cX1_reasonAgainst 45 = .ok (.iload_n 2, 1) := by decide +kernel
theorem dX1_reasonAgainst_46 : decode cX1_reasonAgainst 46 = .ok (.invokevirtual 73, 3) := by decide +kernel
theorem dX1_reasonAgainst_49 : decode cX1_reasonAgainst 49 = .ok (.ifCond .eq 7, 3) := by decide +kernel
theorem dX1_reasonAgainst_52 : decode cX1_reasonAgainst 52 = .ok (.iconst 0, 1) := by decide +kernel
theorem dX1_reasonAgainst_53 : decode cX1_reasonAgainst 53 = .ok (.goto 4, 3) := by decide +kernel
theorem dX1_reasonAgainst_56 : decode cX1_reasonAgainst 56 = .ok (.iconst 5, 1) := by decide +kernel
theorem dX1_reasonAgainst_57 : decode cX1_reasonAgainst 57 = .ok (.ireturn, 1) := by decide +kernel
theorem dX1_giveKey_0 : decode cX1_giveKey 0 = .ok (.aload_n 0, 1) := by decide +kernel
theorem dX1_giveKey_1 : decode cX1_giveKey 1 = .ok (.getfield 12, 3) := by decide +kernel
theorem dX1_giveKey_4 : decode cX1_giveKey 4 = .ok (.iload_n 1, 1) := by decide +kernel
theorem dX1_giveKey_5 : decode cX1_giveKey 5 = .ok (.iload_n 2, 1) := by decide +kernel
theorem dX1_giveKey_6 : decode cX1_giveKey 6 = .ok (.invokevirtual 77, 3) := by decide +kernel
theorem dX1_giveKey_9 : decode cX1_giveKey 9 = .ok (.aload_n 0, 1) := by decide +kernel
theorem dX1_giveKey_10 : decode cX1_giveKey 10 = .ok (.getfield 21, 3) := by decide +kernel
theorem dX1_giveKey_13 : decode cX1_giveKey 13 = .ok (.getfield 80, 3) := by decide +kernel
theorem dX1_giveKey_16 : decode cX1_giveKey 16 = .ok (.iload_n 1, 1) := by decide +kernel
theorem dX1_giveKey_17 : decode cX1_giveKey 17 = .ok (.dup2, 1) := by decide +kernel
theorem dX1_giveKey_18 : decode cX1_giveKey 18 = .ok (.iaload, 1) := by decide +kernel
theorem dX1_giveKey_19 : decode cX1_giveKey 19 = .ok (.iconst 1, 1) := by decide +kernel
theorem dX1_giveKey_20 : decode cX1_giveKey 20 = .ok (.iadd, 1) := by decide +kernel
theorem dX1_giveKey_21 : decode cX1_giveKey 21 = .ok (.iastore, 1) := by decide +kernel
theorem dX1_giveKey_22 : decode cX1_giveKey 22 = .ok (.return_, 1) := by decide +kernel
theorem dX1_canDelete_0 : decode cX1_canDelete 0 = .ok (.aload_n 0, 1) := by decide +kernel
theorem dX1_canDelete_1 : decode cX1_canDelete 1 = .ok (.getfield 12, 3) := by decide +kernel
theorem dX1_canDelete_4 : decode cX1_canDelete 4 = .ok (.iload_n 1, 1) := by decide +kernel
theorem dX1_canDelete_5 : decode cX1_canDelete 5 = .ok (.iload_n 2, 1) := by decide +kernel
theorem dX1_canDelete_6 : decode cX1_canDelete 6 = .ok (.invokevirtual 70, 3) := by decide +kernel
theorem dX1_canDelete_9 : decode cX1_canDelete 9 = .ok (.iconst 1, 1) := by decide +kernel
theorem dX1_canDelete_10 : decode cX1_canDelete 10 = .ok (.if_icmp .ne 7, 3) := by decide +kernel
theorem dX1_canDelete_13 : decode cX1_canDelete 13 = .ok (.iconst 1, 1) := by decide +kernel
theorem dX1_canDelete_14 : decode cX1_canDelete 14 = .ok (.goto 4, 3) := by decide +kernel
theorem dX1_canDelete_17 : decode cX1_canDelete 17 = .ok (.iconst 0, 1) := by decide +kernel
theorem dX1_canDelete_18 : decode cX1_canDelete 18 = .ok (.ireturn, 1) := by decide +kernel
theorem dX1_deleteRow_0 : decode cX1_deleteRow 0 = .ok (.aload_n 0, 1) := by decide +kernel
theorem dX1_deleteRow_1 : decode cX1_deleteRow 1 = .ok (.getfield 21, 3) := by decide +kernel
theorem dX1_deleteRow_4 : decode cX1_deleteRow 4 = .ok (.getfield 83, 3) := by decide +kernel
theorem dX1_deleteRow_7 : decode cX1_deleteRow 7 = .ok (.iload_n 1, 1) := by decide +kernel
theorem dX1_deleteRow_8 : decode cX1_deleteRow 8 = .ok (.dup2, 1) := by decide +kernel
theorem dX1_deleteRow_9 : decode cX1_deleteRow 9 = .ok (.iaload, 1) := by decide +kernel
theorem dX1_deleteRow_10 : decode cX1_deleteRow 10 = .ok (.iconst 1, 1) := by decide +kernel
theorem dX1_deleteRow_11 : decode cX1_deleteRow 11 = .ok (.iadd, 1) := by decide +kernel
theorem dX1_deleteRow_12 : decode cX1_deleteRow 12 = .ok (.iastore, 1) := by decide +kernel
theorem dX1_deleteRow_13 : decode cX1_deleteRow 13 = .ok (.aload_n 0, 1) := by decide +kernel
theorem dX1_deleteRow_14 : decode cX1_deleteRow 14 = .ok (.getfield 12, 3) := by decide +kernel
theorem dX1_deleteRow_17 : decode cX1_deleteRow 17 = .ok (.iload_n 1, 1) := by decide +kernel
theorem dX1_deleteRow_18 : decode cX1_deleteRow 18 = .ok (.iload_n 2, 1) := by decide +kernel
theorem dX1_deleteRow_19 : decode cX1_deleteRow 19 = .ok (.invokevirtual 67, 3) := by decide +kernel
theorem dX1_deleteRow_22 : decode cX1_deleteRow 22 = .ok (.aload_n 0, 1) := by decide +kernel
theorem dX1_deleteRow_23 : decode cX1_deleteRow 23 = .ok (.getfield 25, 3) := by decide +kernel
theorem dX1_deleteRow_26 : decode cX1_deleteRow 26 = .ok (.iconst 1, 1) := by decide +kernel
theorem dX1_deleteRow_27 : decode cX1_deleteRow 27 = .ok (.iaload, 1) := by decide +kernel
theorem dX1_deleteRow_28 : decode cX1_deleteRow 28 = .ok (.if_icmp .lt 14, 3) := by decide +kernel
theorem dX1_deleteRow_31 : decode cX1_deleteRow 31 = .ok (.aload_n 0, 1) := by decide +kernel
theorem dX1_deleteRow_32 : decode cX1_deleteRow 32 = .ok (.getfield 12, 3) := by decide +kernel
theorem dX1_deleteRow_35 : decode cX1_deleteRow 35 = .ok (.iload_n 1, 1) := by decide +kernel
theorem dX1_deleteRow_36 : decode cX1_deleteRow 36 = .ok (.iload_n 2, 1) := by decide +kernel
theorem dX1_deleteRow_37 : decode cX1_deleteRow 37 = .ok (.invokevirtual 86, 3) := by decide +kernel
theorem dX1_deleteRow_40 : decode cX1_deleteRow 40 = .ok (.iconst 1, 1) := by decide +kernel
theorem dX1_deleteRow_41 : decode cX1_deleteRow 41 = .ok (.ireturn, 1) := by decide +kernel
theorem dX1_deleteRow_42 : decode cX1_deleteRow 42 = .ok (.aload_n 0, 1) := by decide +kernel
theorem dX1_deleteRow_43 : decode cX1_deleteRow 43 = .ok (.getfield 12, 3) := by decide +kernel
theorem dX1_deleteRow_46 : decode cX1_deleteRow 46 = .ok (.iload_n 1, 1) := by decide +kernel
theorem dX1_deleteRow_47 : decode cX1_deleteRow 47 = .ok (.iload_n 2, 1) := by decide +kernel
theorem dX1_deleteRow_48 : decode cX1_deleteRow 48 = .ok (.invokevirtual 89, 3) := by decide +kernel
theorem dX1_deleteRow_51 : decode cX1_deleteRow 51 = .ok (.iconst 0, 1) := by decide +kernel
theorem dX1_deleteRow_52 : decode cX1_deleteRow 52 = .ok (.ireturn, 1) := by decide +kernel
theorem dX1_canBringBack_0 : decode cX1_canBringBack 0 = .ok (.aload_n 0, 1) := by decide +kernel
theorem dX1_canBringBack_1 : decode cX1_canBringBack 1 = .ok (.getfield 12, 3) := by decide +kernel
theorem dX1_canBringBack_4 : decode cX1_canBringBack 4 = .ok (.iload_n 1, 1) := by decide +kernel
theorem dX1_canBringBack_5 : decode cX1_canBringBack 5 = .ok (.iload_n 2, 1) := by decide +kernel
theorem dX1_canBringBack_6 : decode cX1_canBringBack 6 = .ok (.invokevirtual 70, 3) := by decide +kernel
theorem dX1_canBringBack_9 : decode cX1_canBringBack 9 = .ok (.iconst 2, 1) := by decide +kernel
theorem dX1_canBringBack_10 : decode cX1_canBringBack 10 = .ok (.if_icmp .ne 25, 3) := by decide +kernel
theorem dX1_canBringBack_13 : decode cX1_canBringBack 13 = .ok (.aload_n 0, 1) := by decide +kernel
theorem dX1_canBringBack_14 : decode cX1_canBringBack 14 = .ok (.getfield 12, 3) := by decide +kernel
theorem dX1_canBringBack_17 : decode cX1_canBringBack 17 = .ok (.iload_n 1, 1) := by decide +kernel
theorem dX1_canBringBack_18 : decode cX1_canBringBack 18 = .ok (.iload_n 2, 1) := by decide +kernel
theorem dX1_canBringBack_19 : decode cX1_canBringBack 19 = .ok (.invokevirtual 92, 3) := by decide +kernel
theorem dX1_canBringBack_22 : decode cX1_canBringBack 22 = .ok (.aload_n 0, 1) := by decide +kernel
theorem dX1_canBringBack_23 : decode cX1_canBringBack 23 = .ok (.getfield 25, 3) := by decide +kernel
theorem dX1_canBringBack_26 : decode cX1_canBringBack 26 = .ok (.iconst 2, 1) := by decide +kernel
theorem dX1_canBringBack_27 : decode cX1_canBringBack 27 = .ok (.iaload, 1) := by decide +kernel
theorem dX1_canBringBack_28 : decode cX1_canBringBack 28 = .ok (.if_icmp .gt 7, 3) := by decide +kernel
theorem dX1_canBringBack_31 : decode cX1_canBringBack 31 = .ok (.iconst 1, 1) := by decide +kernel
theorem dX1_canBringBack_32 : decode cX1_canBringBack 32 = .ok (.goto 4, 3) := by decide +kernel
theorem dX1_canBringBack_35 : decode cX1_canBringBack 35 = .ok (.iconst 0, 1) := by decide +kernel
theorem dX1_canBringBack_36 : decode cX1_canBringBack 36 = .ok (.ireturn, 1) := by decide +kernel
theorem dX1_bringRowBack_0 : decode cX1_bringRowBack 0 = .ok (.aload_n 0, 1) := by decide +kernel
theorem dX1_bringRowBack_1 : decode cX1_bringRowBack 1 = .ok (.getfield 12, 3) := by decide +kernel
theorem dX1_bringRowBack_4 : decode cX1_bringRowBack 4 = .ok (.iload_n 1, 1) := by decide +kernel
theorem dX1_bringRowBack_5 : decode cX1_bringRowBack 5 = .ok (.iload_n 2, 1) := by decide +kernel
theorem dX1_bringRowBack_6 : decode cX1_bringRowBack 6 = .ok (.invokevirtual 95, 3) := by decide +kernel
theorem dX1_bringRowBack_9 : decode cX1_bringRowBack 9 = .ok (.aload_n 0, 1) := by decide +kernel
theorem dX1_bringRowBack_10 : decode cX1_bringRowBack 10 = .ok (.getfield 21, 3) := by decide +kernel
theorem dX1_bringRowBack_13 : decode cX1_bringRowBack 13 = .ok (.getfield 98, 3) := by decide +kernel
theorem dX1_bringRowBack_16 : decode cX1_bringRowBack 16 = .ok (.iload_n 1, 1) := by decide +kernel
theorem dX1_bringRowBack_17 : decode cX1_bringRowBack 17 = .ok (.dup2, 1) := by decide +kernel
theorem dX1_bringRowBack_18 : decode cX1_bringRowBack 18 = .ok (.iaload, 1) := by decide +kernel
theorem dX1_bringRowBack_19 : decode cX1_bringRowBack 19 = .ok (.iconst 1, 1) := by decide +kernel
theorem dX1_bringRowBack_20 : decode cX1_bringRowBack 20 = .ok (.iadd, 1) := by decide +kernel
theorem dX1_bringRowBack_21 : decode cX1_bringRowBack 21 = .ok (.iastore, 1) := by decide +kernel
theorem dX1_bringRowBack_22 : decode cX1_bringRowBack 22 = .ok (.aload_n 0, 1) := by decide +kernel
theorem dX1_bringRowBack_23 : decode cX1_bringRowBack 23 = .ok (.getfield 12, 3) := by decide +kernel
theorem dX1_bringRowBack_26 : decode cX1_bringRowBack 26 = .ok (.iload_n 1, 1) := by decide +kernel
theorem dX1_bringRowBack_27 : decode cX1_bringRowBack 27 = .ok (.iload_n 2, 1) := by decide +kernel
theorem dX1_bringRowBack_28 : decode cX1_bringRowBack 28 = .ok (.invokevirtual 67, 3) := by decide +kernel
theorem dX1_bringRowBack_31 : decode cX1_bringRowBack 31 = .ok (.ireturn, 1) := by decide +kernel
theorem dX1_followReference_0 : decode cX1_followReference 0 = .ok (.aload_n 0, 1) := by decide +kernel
theorem dX1_followReference_1 : decode cX1_followReference 1 = .ok (.getfield 12, 3) := by decide +kernel
theorem dX1_followReference_4 : decode cX1_followReference 4 = .ok (.iload_n 1, 1) := by decide +kernel
theorem dX1_followReference_5 : decode cX1_followReference 5 = .ok (.iload_n 2, 1) := by decide +kernel
theorem dX1_followReference_6 : decode cX1_followReference 6 = .ok (.iload_n 3, 1) := by decide +kernel
theorem dX1_followReference_7 : decode cX1_followReference 7 = .ok (.invokevirtual 101, 3) := by decide +kernel
theorem dX1_followReference_10 : decode cX1_followReference 10 = .ok (.istore 4, 2) := by decide +kernel
theorem dX1_followReference_12 : decode cX1_followReference 12 = .ok (.aload_n 0, 1) := by decide +kernel
theorem dX1_followReference_13 : decode cX1_followReference 13 = .ok (.getfield 21, 3) := by decide +kernel
theorem dX1_followReference_16 : decode cX1_followReference 16 = .ok (.iload 4, 2) := by decide +kernel
theorem dX1_followReference_18 : decode cX1_followReference 18 = .ok (.invokevirtual 104, 3) := by decide +kernel
theorem dX1_followReference_21 : decode cX1_followReference 21 = .ok (.iload 4, 2) := by decide +kernel
theorem dX1_followReference_23 : decode cX1_followReference 23 = .ok (.ireturn, 1) := by decide +kernel
theorem dX1_keyOfRow_0 : decode cX1_keyOfRow 0 = .ok (.iconst 0, 1) := by decide +kernel
theorem dX1_keyOfRow_1 : decode cX1_keyOfRow 1 = .ok (.istore_n 3, 1) := by decide +kernel
theorem dX1_keyOfRow_2 : decode cX1_keyOfRow 2 = .ok (.iconst (-1), 1) := by decide +kernel
theorem dX1_keyOfRow_3 : decode cX1_keyOfRow 3 = .ok (.istore 4, 2) := by decide +kernel
theorem dX1_keyOfRow_5 : decode cX1_keyOfRow 5 = .ok (.iconst 1, 1) := by decide +kernel
theorem dX1_keyOfRow_6 : decode cX1_keyOfRow 6 = .ok (.istore 5, 2) := by decide +kernel
theorem dX1_keyOfRow_8 : decode cX1_keyOfRow 8 = .ok (.iload 5, 2) := by decide +kernel
theorem dX1_keyOfRow_10 : decode cX1_keyOfRow 10 = .ok (.iload_n 2, 1) := by decide +kernel
theorem dX1_keyOfRow_11 : decode cX1_keyOfRow 11 = .ok (.if_icmp .gt 41, 3) := by decide +kernel
theorem dX1_keyOfRow_14 : decode cX1_keyOfRow 14 = .ok (.aload_n 0, 1) := by decide +kernel
theorem dX1_keyOfRow_15 : decode cX1_keyOfRow 15 = .ok (.getfield 12, 3) := by decide +kernel
theorem dX1_keyOfRow_18 : decode cX1_keyOfRow 18 = .ok (.iload_n 1, 1) := by decide +kernel
theorem dX1_keyOfRow_19 : decode cX1_keyOfRow 19 = .ok (.aload_n 0, 1) := by decide +kernel
theorem dX1_keyOfRow_20 : decode cX1_keyOfRow 20 = .ok (.getfield 25, 3) := by decide +kernel
theorem dX1_keyOfRow_23 : decode cX1_keyOfRow 23 = .ok (.iconst 0, 1) := by decide +kernel
theorem dX1_keyOfRow_24 : decode cX1_keyOfRow 24 = .ok (.iaload, 1) := by decide +kernel
theorem dX1_keyOfRow_25 : decode cX1_keyOfRow 25 = .ok (.iload_n 3, 1) := by decide +kernel
theorem dX1_keyOfRow_26 : decode cX1_keyOfRow 26 = .ok (.invokevirtual 45, 3) := by decide +kernel
theorem dX1_keyOfRow_29 : decode cX1_keyOfRow 29 = .ok (.istore 4, 2) := by decide +kernel
theorem dX1_keyOfRow_31 : decode cX1_keyOfRow 31 = .ok (.iload 4, 2) := by decide +kernel
theorem dX1_keyOfRow_33 : decode cX1_keyOfRow 33 = .ok (.iconst (-1), 1) := by decide +kernel
theorem dX1_keyOfRow_34 : decode cX1_keyOfRow 34 = .ok (.if_icmp .ne 5, 3) := by decide +kernel
theorem dX1_keyOfRow_37 : decode cX1_keyOfRow 37 = .ok (.iconst (-1), 1) := by decide +kernel
theorem dX1_keyOfRow_38 : decode cX1_keyOfRow 38 = .ok (.ireturn, 1) := by decide +kernel
theorem dX1_keyOfRow_39 : decode cX1_keyOfRow 39 = .ok (.iload_n 3, 1) := by decide +kernel
theorem dX1_keyOfRow_40 : decode cX1_keyOfRow 40 = .ok (.iconst 1, 1) := by decide +kernel
theorem dX1_keyOfRow_41 : decode cX1_keyOfRow 41 = .ok (.iload 4, 2) := by decide +kernel
theorem dX1_keyOfRow_43 : decode cX1_keyOfRow 43 = .ok (.ishl, 1) := by decide +kernel
theorem dX1_keyOfRow_44 : decode cX1_keyOfRow 44 = .ok (.ior, 1) := by decide +kernel
theorem dX1_keyOfRow_45 : decode cX1_keyOfRow 45 = .ok (.istore_n 3, 1) := by decide +kernel
theorem dX1_keyOfRow_46 : decode cX1_keyOfRow 46 = .ok (.iinc 5 1, 3) := by decide +kernel
theorem dX1_keyOfRow_49 : decode cX1_keyOfRow 49 = .ok (.goto (-41), 3) := by decide +kernel
theorem dX1_keyOfRow_52 : decode cX1_keyOfRow 52 = .ok (.iload 4, 2) := by decide +kernel
theorem dX1_keyOfRow_54 : decode cX1_keyOfRow 54 = .ok (.ireturn, 1) := by decide +kernel
theorem dX1_propertyOfKind_0 : decode cX1_propertyOfKind 0 = .ok (.iload_n 2, 1) := by decide +kernel
theorem dX1_propertyOfKind_1 : decode cX1_propertyOfKind 1 = .ok (.tableswitch 154 0 9 #[55, 65, 75, 85, 95, 104, 114, 124, 134, 144], 55) := by decide +kernel
theorem dX1_propertyOfKind_56 : decode cX1_propertyOfKind 56 = .ok (.aload_n 0, 1) := by decide +kernel
theorem dX1_propertyOfKind_57 : decode cX1_propertyOfKind 57 = .ok (.getfield 12, 3) := by decide +kernel
theorem dX1_propertyOfKind_60 : decode cX1_propertyOfKind 60 = .ok (.getfield 108, 3) := by decide +kernel
theorem dX1_propertyOfKind_63 : decode cX1_propertyOfKind 63 = .ok (.iload_n 1, 1) := by decide +kernel
theorem dX1_propertyOfKind_64 : decode cX1_propertyOfKind 64 = .ok (.iaload, 1) := by decide +kernel
theorem dX1_propertyOfKind_65 : decode cX1_propertyOfKind 65 = .ok (.ireturn, 1) := by decide +kernel
theorem dX1_propertyOfKind_66 : decode cX1_propertyOfKind 66 = .ok (.aload_n 0, 1) := by decide +kernel
theorem dX1_propertyOfKind_67 : decode cX1_propertyOfKind 67 = .ok (.getfield 12, 3) := by decide +kernel
theorem dX1_propertyOfKind_70 : decode cX1_propertyOfKind 70 = .ok (.iload_n 1, 1) := by decide +kernel
theorem dX1_propertyOfKind_71 : decode cX1_propertyOfKind 71 = .ok (.iconst 0, 1) := by decide +kernel
theorem dX1_propertyOfKind_72 : decode cX1_propertyOfKind 72 = .ok (.invokevirtual 49, 3) := by decide +kernel
theorem dX1_propertyOfKind_75 : decode cX1_propertyOfKind 75 = .ok (.ireturn, 1) := by decide +kernel
theorem dX1_propertyOfKind_76 : decode cX1_propertyOfKind 76 = .ok (.aload_n 0, 1) := by decide +kernel
theorem dX1_propertyOfKind_77 : decode cX1_propertyOfKind 77 = .ok (.getfield 12, 3) := by decide +kernel
theorem dX1_propertyOfKind_80 : decode cX1_propertyOfKind 80 = .ok (.iload_n 1, 1) := by decide +kernel
theorem dX1_propertyOfKind_81 : decode cX1_propertyOfKind 81 = .ok (.iconst 1, 1) := by decide +kernel
theorem dX1_propertyOfKind_82 : decode cX1_propertyOfKind 82 = .ok (.invokevirtual 49, 3) := by decide +kernel
theorem dX1_propertyOfKind_85 : decode cX1_propertyOfKind 85 = .ok (.ireturn, 1) := by decide +kernel
theorem dX1_propertyOfKind_86 : decode cX1_propertyOfKind 86 = .ok (.aload_n 0, 1) := by decide +kernel
theorem dX1_propertyOfKind_87 : decode cX1_propertyOfKind 87 = .ok (.getfield 12, 3) := by decide +kernel
theorem dX1_propertyOfKind_90 : decode cX1_propertyOfKind 90 = .ok (.iload_n 1, 1) := by decide +kernel
theorem dX1_propertyOfKind_91 : decode cX1_propertyOfKind 91 = .ok (.iconst 2, 1) := by decide +kernel
theorem dX1_propertyOfKind_92 : decode cX1_propertyOfKind 92 = .ok (.invokevirtual 49, 3) := by decide +kernel
theorem dX1_propertyOfKind_95 : decode cX1_propertyOfKind 95 = .ok (.ireturn, 1) := by decide +kernel
theorem dX1_propertyOfKind_96 : decode cX1_propertyOfKind 96 = .ok (.aload_n 0, 1) := by decide +kernel
theorem dX1_propertyOfKind_97 : decode cX1_propertyOfKind 97 = .ok (.getfield 12, 3) := by decide +kernel
theorem dX1_propertyOfKind_100 : decode cX1_propertyOfKind 100 = .ok (.iload_n 1, 1) := by decide +kernel
theorem dX1_propertyOfKind_101 : decode cX1_propertyOfKind 101 = .ok (.invokevirtual 111, 3) := by decide +kernel
theorem dX1_propertyOfKind_104 : decode cX1_propertyOfKind 104 = .ok (.ireturn, 1) := by decide +kernel
theorem dX1_propertyOfKind_105 : decode cX1_propertyOfKind 105 = .ok (.aload_n 0, 1) := by decide +kernel
theorem dX1_propertyOfKind_106 : decode cX1_propertyOfKind 106 = .ok (.getfield 12, 3) := by decide +kernel
theorem dX1_propertyOfKind_109 : decode cX1_propertyOfKind 109 = .ok (.iload_n 1, 1) := by decide +kernel
theorem dX1_propertyOfKind_110 : decode cX1_propertyOfKind 110 = .ok (.iconst 3, 1) := by decide +kernel
theorem dX1_propertyOfKind_111 : decode cX1_propertyOfKind 111 = .ok (.invokevirtual 49, 3) := by decide +kernel
theorem dX1_propertyOfKind_114 : decode cX1_propertyOfKind 114 = .ok (.ireturn, 1) := by decide +kernel
theorem dX1_propertyOfKind_115 : decode cX1_propertyOfKind 115 = .ok (.aload_n 0, 1) := by decide +kernel
theorem dX1_propertyOfKind_116 : decode cX1_propertyOfKind 116 = .ok (.getfield 21, 3) := by decide +kernel
theorem dX1_propertyOfKind_119 : decode cX1_propertyOfKind 119 = .ok (.getfield 80, 3) := by decide +kernel
theorem dX1_propertyOfKind_122 : decode cX1_propertyOfKind 122 = .ok (.iload_n 1, 1) := by decide +kernel
theorem dX1_propertyOfKind_123 : decode cX1_propertyOfKind 123 = .ok (.iaload, 1) := by decide +kernel
theorem dX1_propertyOfKind_124 : decode cX1_propertyOfKind 124 = .ok (.ireturn, 1) := by decide +kernel
theorem dX1_propertyOfKind_125 : decode cX1_propertyOfKind 125 = .ok (.aload_n 0, 1) := by decide +kernel
theorem dX1_propertyOfKind_126 : decode cX1_propertyOfKind 126 = .ok (.getfield 21, 3) := by decide +kernel
theorem dX1_propertyOfKind_129 : decode cX1_propertyOfKind 129 = .ok (.getfield 83, 3) := by decide +kernel
theorem dX1_propertyOfKind_132 : decode cX1_propertyOfKind 132 = .ok (.iload_n 1, 1) := by decide +kernel
theorem dX1_propertyOfKind_133 : decode cX1_propertyOfKind 133 = .ok (.iaload, 1) := by decide +kernel
theorem dX1_propertyOfKind_134 : decode cX1_propertyOfKind 134 = .ok (.ireturn, 1) := by decide +kernel
theorem dX1_propertyOfKind_135 : decode cX1_propertyOfKind 135 = .ok (.aload_n 0, 1) := by decide +kernel
theorem dX1_propertyOfKind_136 : decode cX1_propertyOfKind 136 = .ok (.getfield 21, 3) := by decide +kernel
theorem dX1_propertyOfKind_139 : decode cX1_propertyOfKind 139 = .ok (.getfield 114, 3) := by decide +kernel
theorem dX1_propertyOfKind_142 : decode cX1_propertyOfKind 142 = .ok (.iload_n 1, 1) := by decide +kernel
theorem dX1_propertyOfKind_143 : decode cX1_propertyOfKind 143 = .ok (.iaload, 1) := by decide +kernel
theorem dX1_propertyOfKind_144 : decode cX1_propertyOfKind 144 = .ok (.ireturn, 1) := by decide +kernel
theorem dX1_propertyOfKind_145 : decode cX1_propertyOfKind 145 = .ok (.aload_n 0, 1) := by decide +kernel
theorem dX1_propertyOfKind_146 : decode cX1_propertyOfKind 146 = .ok (.getfield 21, 3) := by decide +kernel
theorem dX1_propertyOfKind_149 : decode cX1_propertyOfKind 149 = .ok (.getfield 117, 3) := by decide +kernel
theorem dX1_propertyOfKind_152 : decode cX1_propertyOfKind 152 = .ok (.iload_n 1, 1) := by decide +kernel
theorem dX1_propertyOfKind_153 : decode cX1_propertyOfKind 153 = .ok (.iaload, 1) := by decide +kernel
theorem dX1_propertyOfKind_154 : decode cX1_propertyOfKind 154 = .ok (.ireturn, 1) := by decide +kernel
theorem dX1_propertyOfKind_155 : decode cX1_propertyOfKind 155 = .ok (.aload_n 0, 1) := by decide +kernel
theorem dX1_propertyOfKind_156 : decode cX1_propertyOfKind 156 = .ok (.getfield 21, 3) := by decide +kernel
theorem dX1_propertyOfKind_159 : decode cX1_propertyOfKind 159 = .ok (.getfield 98, 3) := by decide +kernel
theorem dX1_propertyOfKind_162 : decode cX1_propertyOfKind 162 = .ok (.iload_n 1, 1) := by decide +kernel
theorem dX1_propertyOfKind_163 : decode cX1_propertyOfKind 163 = .ok (.iaload, 1) := by decide +kernel
theorem dX1_propertyOfKind_164 : decode cX1_propertyOfKind 164 = .ok (.ireturn, 1) := by decide +kernel
theorem dX2_init_0 : decode cX2_init 0 = .ok (.aload_n 0, 1) := by decide +kernel
theorem dX2_init_1 : decode cX2_init 1 = .ok (.invokespecial 3, 3) := by decide +kernel
theorem dX2_init_4 : decode cX2_init 4 = .ok (.aload_n 0, 1) := by decide +kernel
theorem dX2_init_5 : decode cX2_init 5 = .ok (.bipush 60, 2) := by decide +kernel
theorem dX2_init_7 : decode cX2_init 7 = .ok (.newarray .int, 2) := by decide +kernel
theorem dX2_init_9 : decode cX2_init 9 = .ok (.putfield 9, 3) := by decide +kernel
theorem dX2_init_12 : decode cX2_init 12 = .ok (.return_, 1) := by decide +kernel
theorem dX2_isFull_0 : decode cX2_isFull 0 = .ok (.aload_n 0, 1) := by decide +kernel
theorem dX2_isFull_1 : decode cX2_isFull 1 = .ok (.getfield 15, 3) := by decide +kernel
theorem dX2_isFull_4 : decode cX2_isFull 4 = .ok (.bipush 60, 2) := by decide +kernel
theorem dX2_isFull_6 : decode cX2_isFull 6 = .ok (.if_icmp .lt 7, 3) := by decide +kernel
theorem dX2_isFull_9 : decode cX2_isFull 9 = .ok (.iconst 1, 1) := by decide +kernel
theorem dX2_isFull_10 : decode cX2_isFull 10 = .ok (.goto 4, 3) := by decide +kernel
theorem dX2_isFull_13 : decode cX2_isFull 13 = .ok (.iconst 0, 1) := by decide +kernel
theorem dX2_isFull_14 : decode cX2_isFull 14 = .ok (.ireturn, 1) := by decide +kernel
theorem dX2_add_0 : decode cX2_add 0 = .ok (.aload_n 0, 1) := by decide +kernel
theorem dX2_add_1 : decode cX2_add 1 = .ok (.invokevirtual 19, 3) := by decide +kernel
theorem dX2_add_4 : decode cX2_add 4 = .ok (.ifCond .ne 23, 3) := by decide +kernel
theorem dX2_add_7 : decode cX2_add 7 = .ok (.aload_n 0, 1) := by decide +kernel
theorem dX2_add_8 : decode cX2_add 8 = .ok (.getfield 9, 3) := by decide +kernel
theorem dX2_add_11 : decode cX2_add 11 = .ok (.aload_n 0, 1) := by decide +kernel
theorem dX2_add_12 : decode cX2_add 12 = .ok (.getfield 15, 3) := by decide +kernel
theorem dX2_add_15 : decode cX2_add 15 = .ok (.iload_n 1, 1) := by decide +kernel
theorem dX2_add_16 : decode cX2_add 16 = .ok (.iastore, 1) := by decide +kernel
theorem dX2_add_17 : decode cX2_add 17 = .ok (.aload_n 0, 1) := by decide +kernel
theorem dX2_add_18 : decode cX2_add 18 = .ok (.dup, 1) := by decide +kernel
theorem dX2_add_19 : decode cX2_add 19 = .ok (.getfield 15, 3) := by decide +kernel
theorem dX2_add_22 : decode cX2_add 22 = .ok (.iconst 1, 1) := by decide +kernel
theorem dX2_add_23 : decode cX2_add 23 = .ok (.iadd, 1) := by decide +kernel
theorem dX2_add_24 : decode cX2_add 24 = .ok (.putfield 15, 3) := by decide +kernel
theorem dX2_add_27 : decode cX2_add 27 = .ok (.return_, 1) := by decide +kernel
theorem dX2_codeAt_0 : decode cX2_codeAt 0 = .ok (.iload_n 1, 1) := by decide +kernel
theorem dX2_codeAt_1 : decode cX2_codeAt 1 = .ok (.ifCond .lt 20, 3) := by decide +kernel
theorem dX2_codeAt_4 : decode cX2_codeAt 4 = .ok (.iload_n 1, 1) := by decide +kernel
theorem dX2_codeAt_5 : decode cX2_codeAt 5 = .ok (.aload_n 0, 1) := by decide +kernel
theorem dX2_codeAt_6 : decode cX2_codeAt 6 = .ok (.getfield 15, 3) := by decide +kernel
theorem dX2_codeAt_9 : decode cX2_codeAt 9 = .ok (.if_icmp .ge 12, 3) := by decide +kernel
theorem dX2_codeAt_12 : decode cX2_codeAt 12 = .ok (.aload_n 0, 1) := by decide +kernel
theorem dX2_codeAt_13 : decode cX2_codeAt 13 = .ok (.getfield 9, 3) := by decide +kernel
theorem dX2_codeAt_16 : decode cX2_codeAt 16 = .ok (.iload_n 1, 1) := by decide +kernel
theorem dX2_codeAt_17 : decode cX2_codeAt 17 = .ok (.iaload, 1) := by decide +kernel
theorem dX2_codeAt_18 : decode cX2_codeAt 18 = .ok (.goto 4, 3) := by decide +kernel
theorem dX2_codeAt_21 : decode cX2_codeAt 21 = .ok (.iconst (-1), 1) := by decide +kernel
theorem dX2_codeAt_22 : decode cX2_codeAt 22 = .ok (.ireturn, 1) := by decide +kernel
theorem dX2_errorAt_0 : decode cX2_errorAt 0 = .ok (.iconst 0, 1) := by decide +kernel
theorem dX2_errorAt_1 : decode cX2_errorAt 1 = .ok (.istore_n 1, 1) := by decide +kernel
theorem dX2_errorAt_2 : decode cX2_errorAt 2 = .ok (.iconst 0, 1) := by decide +kernel
theorem dX2_errorAt_3 : decode cX2_errorAt 3 = .ok (.istore_n 2, 1) := by decide +kernel
theorem dX2_errorAt_4 : decode cX2_errorAt 4 = .ok (.iload_n 2, 1) := by decide +kernel
theorem dX2_errorAt_5 : decode cX2_errorAt 5 = .ok (.aload_n 0, 1) := by decide +kernel
theorem dX2_errorAt_6 : decode cX2_errorAt 6 = .ok (.getfield 15, 3) := by decide +kernel
theorem dX2_errorAt_9 : decode cX2_errorAt 9 = .ok (.if_icmp .ge 27, 3) := by decide +kernel
theorem dX2_errorAt_12 : decode cX2_errorAt 12 = .ok (.iload_n 1, 1) := by decide +kernel
theorem dX2_errorAt_13 : decode cX2_errorAt 13 = .ok (.aload_n 0, 1) := by decide +kernel
theorem dX2_errorAt_14 : decode cX2_errorAt 14 = .ok (.iload_n 2, 1) := by decide +kernel
theorem dX2_errorAt_15 : decode cX2_errorAt 15 = .ok (.invokevirtual 23, 3) := by decide +kernel
theorem dX2_errorAt_18 : decode cX2_errorAt 18 = .ok (.invokestatic 27, 3) := by decide +kernel
theorem dX2_errorAt_21 : decode cX2_errorAt 21 = .ok (.istore_n 1, 1) := by decide +kernel
theorem dX2_errorAt_22 : decode cX2_errorAt 22 = .ok (.iload_n 1, 1) := by decide +kernel
theorem dX2_errorAt_23 : decode cX2_errorAt 23 = .ok (.bipush 9, 2) := by decide +kernel
theorem dX2_errorAt_25 : decode cX2_errorAt 25 = .ok (.if_icmp .ne 5, 3) := by decide +kernel
theorem dX2_errorAt_28 : decode cX2_errorAt 28 = .ok (.iload_n 2, 1) := by decide +kernel
theorem dX2_errorAt_29 : decode cX2_errorAt 29 = .ok (.ireturn, 1) := by decide +kernel
theorem dX2_errorAt_30 : decode cX2_errorAt 30 = .ok (.iinc 2 1, 3) := by decide +kernel
theorem dX2_errorAt_33 : decode cX2_errorAt 33 = .ok (.goto (-29), 3) := by decide +kernel
theorem dX2_errorAt_36 : decode cX2_errorAt 36 = .ok (.aload_n 0, 1) := by decide +kernel
theorem dX2_errorAt_37 : decode cX2_errorAt 37 = .ok (.getfield 15, 3) := by decide +kernel
theorem dX2_errorAt_40 : decode cX2_errorAt 40 = .ok (.ireturn, 1) := by decide +kernel
theorem dX2_tellsDays_0 : decode cX2_tellsDays 0 = .ok (.iconst 0, 1) := by decide +kernel
theorem dX2_tellsDays_1 : decode cX2_tellsDays 1 = .ok (.istore_n 1, 1) := by decide +kernel
theorem dX2_tellsDays_2 : decode cX2_tellsDays 2 = .ok (.iconst 0, 1) := by decide +kernel
theorem dX2_tellsDays_3 : decode cX2_tellsDays 3 = .ok (.istore_n 2, 1) := by decide +kernel
theorem dX2_tellsDays_4 : decode cX2_tellsDays 4 = .ok (.iload_n 2, 1) := by decide +kernel
theorem dX2_tellsDays_5 : decode cX2_tellsDays 5 = .ok (.aload_n 0, 1) := by decide +kernel
theorem dX2_tellsDays_6 : decode cX2_tellsDays 6 = .ok (.getfield 15, 3) := by decide +kernel
theorem dX2_tellsDays_9 : decode cX2_tellsDays 9 = .ok (.if_icmp .ge 19, 3) := by decide +kernel
theorem dX2_tellsDays_12 : decode cX2_tellsDays 12 = .ok (.iload_n 1, 1) := by decide +kernel
theorem dX2_tellsDays_13 : decode cX2_tellsDays 13 = .ok (.aload_n 0, 1) := by decide +kernel
theorem dX2_tellsDays_14 : decode cX2_tellsDays 14 = .ok (.iload_n 2, 1) := by decide +kernel
theorem dX2_tellsDays_15 : decode cX2_tellsDays 15 = .ok (.invokevirtual 23, 3) := by decide +kernel
theorem dX2_tellsDays_18 : decode cX2_tellsDays 18 = .ok (.invokestatic 27, 3) := by decide +kernel
theorem dX2_tellsDays_21 : decode cX2_tellsDays 21 = .ok (.istore_n 1, 1) := by decide +kernel
theorem dX2_tellsDays_22 : decode cX2_tellsDays 22 = .ok (.iinc 2 1, 3) := by decide +kernel
theorem dX2_tellsDays_25 : decode cX2_tellsDays 25 = .ok (.goto (-21), 3) := by decide +kernel
theorem dX2_tellsDays_28 : decode cX2_tellsDays 28 = .ok (.iload_n 1, 1) := by decide +kernel
theorem dX2_tellsDays_29 : decode cX2_tellsDays 29 = .ok (.invokestatic 31, 3) := by decide +kernel
theorem dX2_tellsDays_32 : decode cX2_tellsDays 32 = .ok (.ireturn, 1) := by decide +kernel
theorem dX2_mayEnd_0 : decode cX2_mayEnd 0 = .ok (.iload_n 0, 1) := by decide +kernel
theorem dX2_mayEnd_1 : decode cX2_mayEnd 1 = .ok (.bipush 8, 2) := by decide +kernel
theorem dX2_mayEnd_3 : decode cX2_mayEnd 3 = .ok (.if_icmp .eq 14, 3) := by decide +kernel
theorem dX2_mayEnd_6 : decode cX2_mayEnd 6 = .ok (.iload_n 0, 1) := by decide +kernel
theorem dX2_mayEnd_7 : decode cX2_mayEnd 7 = .ok (.iconst 5, 1) := by decide +kernel
theorem dX2_mayEnd_8 : decode cX2_mayEnd 8 = .ok (.if_icmp .eq 9, 3) := by decide +kernel
theorem dX2_mayEnd_11 : decode cX2_mayEnd 11 = .ok (.iload_n 0, 1) := by decide +kernel
theorem dX2_mayEnd_12 : decode cX2_mayEnd 12 = .ok (.bipush 7, 2) := by decide +kernel
theorem dX2_mayEnd_14 : decode cX2_mayEnd 14 = .ok (.if_icmp .ne 7, 3) := by decide +kernel
theorem dX2_mayEnd_17 : decode cX2_mayEnd 17 = .ok (.iconst 1, 1) := by decide +kernel
theorem dX2_mayEnd_18 : decode cX2_mayEnd 18 = .ok (.goto 4, 3) := by decide +kernel
theorem dX2_mayEnd_21 : decode cX2_mayEnd 21 = .ok (.iconst 0, 1) := by decide +kernel
theorem dX2_mayEnd_22 : decode cX2_mayEnd 22 = .ok (.ireturn, 1) := by decide +kernel
theorem dX2_stateBehind_0 : decode cX2_stateBehind 0 = .ok (.iload_n 1, 1) := by decide +kernel
theorem dX2_stateBehind_1 : decode cX2_stateBehind 1 = .ok (.bipush 59, 2) := by decide +kernel
theorem dX2_stateBehind_3 : decode cX2_stateBehind 3 = .ok (.if_icmp .ne 12, 3) := by decide +kernel
theorem dX2_stateBehind_6 : decode cX2_stateBehind 6 = .ok (.iload_n 0, 1) := by decide +kernel
theorem dX2_stateBehind_7 : decode cX2_stateBehind 7 = .ok (.invokestatic 31, 3) := by decide +kernel
theorem dX2_stateBehind_10 : decode cX2_stateBehind 10 = .ok (.ifCond .eq 5, 3) := by decide +kernel
theorem dX2_stateBehind_13 : decode cX2_stateBehind 13 = .ok (.iconst 0, 1) := by decide +kernel
theorem dX2_stateBehind_14 : decode cX2_stateBehind 14 = .ok (.ireturn, 1) := by decide +kernel
theorem dX2_stateBehind_15 : decode cX2_stateBehind 15 = .ok (.iload_n 0, 1) := by decide +kernel
theorem dX2_stateBehind_16 : decode cX2_stateBehind 16 = .ok (.tableswitch 184 0 7 #[48, 53, 73, 92, 105, 128, 148, 169], 48) := by decide +kernel
theorem dX2_stateBehind_64 : decode cX2_stateBehind 64 = .ok (.iload_n 1, 1) := by decide +kernel
theorem dX2_stateBehind_65 : decode cX2_stateBehind 65 = .ok (.invokestatic 35, 3) := by decide +kernel
theorem dX2_stateBehind_68 : decode cX2_stateBehind 68 = .ok (.ireturn, 1) := by decide +kernel
theorem dX2_stateBehind_69 : decode cX2_stateBehind 69 = .ok (.iload_n 1, 1) := by decide +kernel
theorem dX2_stateBehind_70 : decode cX2_stateBehind 70 = .ok (.bipush 48, 2) := by decide +kernel
theorem dX2_stateBehind_72 : decode cX2_stateBehind 72 = .ok (.if_icmp .lt 14, 3) := by decide +kernel
theorem dX2_stateBehind_75 : decode cX2_stateBehind 75 = .ok (.iload_n 1, 1) := by decide +kernel
theorem dX2_stateBehind_76 : decode cX2_stateBehind 76 = .ok (.bipush 51, 2) := by decide +kernel
theorem dX2_stateBehind_78 : decode cX2_stateBehind 78 = .ok (.if_icmp .gt 8, 3) := by decide +kernel
theorem dX2_stateBehind_81 : decode cX2_stateBehind 81 = .ok (.bipush 8, 2) := by decide +kernel
theorem dX2_stateBehind_83 : decode cX2_stateBehind 83 = .ok (.goto 5, 3) := by decide +kernel
theorem dX2_stateBehind_86 : decode cX2_stateBehind 86 = .ok (.bipush 9, 2) := by decide +kernel
theorem dX2_stateBehind_88 : decode cX2_stateBehind 88 = .ok (.ireturn, 1) := by decide +kernel
theorem dX2_stateBehind_89 : decode cX2_stateBehind 89 = .ok (.iload_n 1, 1) := by decide +kernel
theorem dX2_stateBehind_90 : decode cX2_stateBehind 90 = .ok (.bipush 48, 2) := by decide +kernel
theorem dX2_stateBehind_92 : decode cX2_stateBehind 92 = .ok (.if_icmp .lt 13, 3) := by decide +kernel
theorem dX2_stateBehind_95 : decode cX2_stateBehind 95 = .ok (.iload_n 1, 1) := by decide +kernel
theorem dX2_stateBehind_96 : decode cX2_stateBehind 96 = .ok (.bipush 51, 2) := by decide +kernel
theorem dX2_stateBehind_98 : decode cX2_stateBehind 98 = .ok (.if_icmp .gt 7, 3) := by decide +kernel
theorem dX2_stateBehind_101 : decode cX2_stateBehind 101 = .ok (.iconst 3, 1) := by decide +kernel
theorem dX2_stateBehind_102 : decode cX2_stateBehind 102 = .ok (.goto 5, 3) := by decide +kernel
theorem dX2_stateBehind_105 : decode cX2_stateBehind 105 = .ok (.bipush 9, 2) := by decide +kernel
theorem dX2_stateBehind_107 : decode cX2_stateBehind 107 = .ok (.ireturn, 1) := by decide +kernel
theorem dX2_stateBehind_108 : decode cX2_stateBehind 108 = .ok (.iload_n 1, 1) := by decide +kernel
theorem dX2_stateBehind_109 : decode cX2_stateBehind 109 = .ok (.bipush 46, 2) := by decide +kernel
theorem dX2_stateBehind_111 : decode cX2_stateBehind 111 = .ok (.if_icmp .ne 7, 3) := by decide +kernel
theorem dX2_stateBehind_114 : decode cX2_stateBehind 114 = .ok (.iconst 4, 1) := by decide +kernel
theorem dX2_stateBehind_115 : decode cX2_stateBehind 115 = .ok (.goto 5, 3) := by decide +kernel
theorem dX2_stateBehind_118 : decode cX2_stateBehind 118 = .ok (.bipush 9, 2) := by decide +kernel
theorem dX2_stateBehind_120 : decode cX2_stateBehind 120 = .ok (.ireturn, 1) := by decide +kernel
theorem dX2_stateBehind_121 : decode cX2_stateBehind 121 = .ok (.iload_n 1, 1) := by decide +kernel
theorem dX2_stateBehind_122 : decode cX2_stateBehind 122 = .ok (.bipush 49, 2) := by decide +kernel
theorem dX2_stateBehind_124 : decode cX2_stateBehind 124 = .ok (.if_icmp .ne 5, 3) := by decide +kernel
theorem dX2_stateBehind_127 : decode cX2_stateBehind 127 = .ok (.iconst 5, 1) := by decide +kernel
theorem dX2_stateBehind_128 : decode cX2_stateBehind 128 = .ok (.ireturn, 1) := by decide +kernel
theorem dX2_stateBehind_129 : decode cX2_stateBehind 129 = .ok (.iload_n 1, 1) := by decide +kernel
theorem dX2_stateBehind_130 : decode cX2_stateBehind 130 = .ok (.invokestatic 38, 3) := by decide +kernel
theorem dX2_stateBehind_133 : decode cX2_stateBehind 133 = .ok (.ifCond .eq 8, 3) := by decide +kernel
theorem dX2_stateBehind_136 : decode cX2_stateBehind 136 = .ok (.bipush 8, 2) := by decide +kernel
theorem dX2_stateBehind_138 : decode cX2_stateBehind 138 = .ok (.goto 5, 3) := by decide +kernel
theorem dX2_stateBehind_141 : decode cX2_stateBehind 141 = .ok (.bipush 9, 2) := by decide +kernel
theorem dX2_stateBehind_143 : decode cX2_stateBehind 143 = .ok (.ireturn, 1) := by decide +kernel
theorem dX2_stateBehind_144 : decode cX2_stateBehind 144 = .ok (.iload_n 1, 1) := by decide +kernel
theorem dX2_stateBehind_145 : decode cX2_stateBehind 145 = .ok (.bipush 48, 2) := by decide +kernel
theorem dX2_stateBehind_147 : decode cX2_stateBehind 147 = .ok (.if_icmp .lt 14, 3) := by decide +kernel
theorem dX2_stateBehind_150 : decode cX2_stateBehind 150 = .ok (.iload_n 1, 1) := by decide +kernel
theorem dX2_stateBehind_151 : decode cX2_stateBehind 151 = .ok (.bipush 53, 2) := by decide +kernel
theorem dX2_stateBehind_153 : decode cX2_stateBehind 153 = .ok (.if_icmp .gt 8, 3) := by decide +kernel
theorem dX2_stateBehind_156 : decode cX2_stateBehind 156 = .ok (.bipush 8, 2) := by decide +kernel
theorem dX2_stateBehind_158 : decode cX2_stateBehind 158 = .ok (.goto 5, 3) := by decide +kernel
theorem dX2_stateBehind_161 : decode cX2_stateBehind 161 = .ok (.bipush 9, 2) := by decide +kernel
theorem dX2_stateBehind_163 : decode cX2_stateBehind 163 = .ok (.ireturn, 1) := by decide +kernel
theorem dX2_stateBehind_164 : decode cX2_stateBehind 164 = .ok (.iload_n 1, 1) := by decide +kernel
theorem dX2_stateBehind_165 : decode cX2_stateBehind 165 = .ok (.invokestatic 38, 3) := by decide +kernel
theorem dX2_stateBehind_168 : decode cX2_stateBehind 168 = .ok (.ifCond .eq 14, 3) := by decide +kernel
theorem dX2_stateBehind_171 : decode cX2_stateBehind 171 = .ok (.iload_n 1, 1) := by decide +kernel
theorem dX2_stateBehind_172 : decode cX2_stateBehind 172 = .ok (.bipush 48, 2) := by decide +kernel
theorem dX2_stateBehind_174 : decode cX2_stateBehind 174 = .ok (.if_icmp .eq 8, 3) := by decide +kernel
theorem dX2_stateBehind_177 : decode cX2_stateBehind 177 = .ok (.bipush 7, 2) := by decide +kernel
theorem dX2_stateBehind_179 : decode cX2_stateBehind 179 = .ok (.goto 5, 3) := by decide +kernel
theorem dX2_stateBehind_182 : decode cX2_stateBehind 182 = .ok (.bipush 9, 2) := by decide +kernel
theorem dX2_stateBehind_184 : decode cX2_stateBehind 184 = .ok (.ireturn, 1) := by decide +kernel
theorem dX2_stateBehind_185 : decode cX2_stateBehind 185 = .ok (.iload_n 1, 1) := by decide +kernel
theorem dX2_stateBehind_186 : decode cX2_stateBehind 186 = .ok (.invokestatic 38, 3) := by decide +kernel
theorem dX2_stateBehind_189 : decode cX2_stateBehind 189 = .ok (.ifCond .eq 8, 3) := by decide +kernel
theorem dX2_stateBehind_192 : decode cX2_stateBehind 192 = .ok (.bipush 8, 2) := by decide +kernel
theorem dX2_stateBehind_194 : decode cX2_stateBehind 194 = .ok (.goto 5, 3) := by decide +kernel
theorem dX2_stateBehind_197 : decode cX2_stateBehind 197 = .ok (.bipush 9, 2) := by decide +kernel
theorem dX2_stateBehind_199 : decode cX2_stateBehind 199 = .ok (.ireturn, 1) := by decide +kernel
theorem dX2_stateBehind_200 : decode cX2_stateBehind 200 = .ok (.bipush 9, 2) := by decide +kernel
theorem dX2_stateBehind_202 : decode cX2_stateBehind 202 = .ok (.ireturn, 1) := by decide +kernel
theorem dX2_stateBehindVerb_0 : decode cX2_stateBehindVerb 0 = .ok (.iload_n 0, 1) := by decide +kernel
theorem dX2_stateBehindVerb_1 : decode cX2_stateBehindVerb 1 = .ok (.lookupswitch 58 #[(97, 51), (98, 53), (100, 53), (112, 51), (116, 55)], 51) := by decide +kernel
theorem dX2_stateBehindVerb_52 : decode cX2_stateBehindVerb 52 = .ok (.iconst 1, 1) := by decide +kernel
theorem dX2_stateBehindVerb_53 : decode cX2_stateBehindVerb 53 = .ok (.ireturn, 1) := by decide +kernel
theorem dX2_stateBehindVerb_54 : decode cX2_stateBehindVerb 54 = .ok (.iconst 2, 1) := by decide +kernel
theorem dX2_stateBehindVerb_55 : decode cX2_stateBehindVerb 55 = .ok (.ireturn, 1) := by decide +kernel
theorem dX2_stateBehindVerb_56 : decode cX2_stateBehindVerb 56 = .ok (.bipush 6, 2) := by decide +kernel
theorem dX2_stateBehindVerb_58 : decode cX2_stateBehindVerb 58 = .ok (.ireturn, 1) := by decide +kernel
theorem dX2_stateBehindVerb_59 : decode cX2_stateBehindVerb 59 = .ok (.bipush 9, 2) := by decide +kernel
theorem dX2_stateBehindVerb_61 : decode cX2_stateBehindVerb 61 = .ok (.ireturn, 1) := by decide +kernel
theorem dX2_isDigit_0 : decode cX2_isDigit 0 = .ok (.iload_n 0, 1) := by decide +kernel
theorem dX2_isDigit_1 : decode cX2_isDigit 1 = .ok (.bipush 48, 2) := by decide +kernel
theorem dX2_isDigit_3 : decode cX2_isDigit 3 = .ok (.if_icmp .lt 13, 3) := by decide +kernel
theorem dX2_isDigit_6 : decode cX2_isDigit 6 = .ok (.iload_n 0, 1) := by decide +kernel
theorem dX2_isDigit_7 : decode cX2_isDigit 7 = .ok (.bipush 57, 2) := by decide +kernel
theorem dX2_isDigit_9 : decode cX2_isDigit 9 = .ok (.if_icmp .gt 7, 3) := by decide +kernel
theorem dX2_isDigit_12 : decode cX2_isDigit 12 = .ok (.iconst 1, 1) := by decide +kernel
theorem dX2_isDigit_13 : decode cX2_isDigit 13 = .ok (.goto 4, 3) := by decide +kernel
theorem dX2_isDigit_16 : decode cX2_isDigit 16 = .ok (.iconst 0, 1) := by decide +kernel
theorem dX2_isDigit_17 : decode cX2_isDigit 17 = .ok (.ireturn, 1) := by decide +kernel
theorem dX2_beginsOrder_0 : decode cX2_beginsOrder 0 = .ok (.iload_n 1, 1) := by decide +kernel
theorem dX2_beginsOrder_1 : decode cX2_beginsOrder 1 = .ok (.ifCond .eq 15, 3) := by decide +kernel
theorem dX2_beginsOrder_4 : decode cX2_beginsOrder 4 = .ok (.aload_n 0, 1) := by decide +kernel
theorem dX2_beginsOrder_5 : decode cX2_beginsOrder 5 = .ok (.iload_n 1, 1) := by decide +kernel
theorem dX2_beginsOrder_6 : decode cX2_beginsOrder 6 = .ok (.iconst 1, 1) := by decide +kernel
theorem dX2_beginsOrder_7 : decode cX2_beginsOrder 7 = .ok (.isub, 1) := by decide +kernel
theorem dX2_beginsOrder_8 : decode cX2_beginsOrder 8 = .ok (.invokevirtual 23, 3) := by decide +kernel
theorem dX2_beginsOrder_11 : decode cX2_beginsOrder 11 = .ok (.bipush 59, 2) := by decide +kernel
theorem dX2_beginsOrder_13 : decode cX2_beginsOrder 13 = .ok (.if_icmp .ne 7, 3) := by decide +kernel
theorem dX2_beginsOrder_16 : decode cX2_beginsOrder 16 = .ok (.iconst 1, 1) := by decide +kernel
theorem dX2_beginsOrder_17 : decode cX2_beginsOrder 17 = .ok (.goto 4, 3) := by decide +kernel
theorem dX2_beginsOrder_20 : decode cX2_beginsOrder 20 = .ok (.iconst 0, 1) := by decide +kernel
theorem dX2_beginsOrder_21 : decode cX2_beginsOrder 21 = .ok (.ireturn, 1) := by decide +kernel
theorem dX2_numberAt_0 : decode cX2_numberAt 0 = .ok (.iconst 0, 1) := by decide +kernel
theorem dX2_numberAt_1 : decode cX2_numberAt 1 = .ok (.istore_n 2, 1) := by decide +kernel
theorem dX2_numberAt_2 : decode cX2_numberAt 2 = .ok (.iload_n 1, 1) := by decide +kernel
theorem dX2_numberAt_3 : decode cX2_numberAt 3 = .ok (.istore_n 3, 1) := by decide +kernel
theorem dX2_numberAt_4 : decode cX2_numberAt 4 = .ok (.iload_n 3, 1) := by decide +kernel
theorem dX2_numberAt_5 : decode cX2_numberAt 5 = .ok (.aload_n 0, 1) := by decide +kernel
theorem dX2_numberAt_6 : decode cX2_numberAt 6 = .ok (.getfield 15, 3) := by decide +kernel
theorem dX2_numberAt_9 : decode cX2_numberAt 9 = .ok (.if_icmp .ge 34, 3) := by decide +kernel
theorem dX2_numberAt_12 : decode cX2_numberAt 12 = .ok (.aload_n 0, 1) := by decide +kernel
theorem dX2_numberAt_13 : decode cX2_numberAt 13 = .ok (.iload_n 3, 1) := by decide +kernel
theorem dX2_numberAt_14 : decode cX2_numberAt 14 = .ok (.invokevirtual 23, 3) := by decide +kernel
theorem dX2_numberAt_17 : decode cX2_numberAt 17 = .ok (.invokestatic 38, 3) := by decide +kernel
theorem dX2_numberAt_20 : decode cX2_numberAt 20 = .ok (.ifCond .eq 23, 3) := by decide +kernel
theorem dX2_numberAt_23 : decode cX2_numberAt 23 = .ok (.iload_n 2, 1) := by decide +kernel
theorem dX2_numberAt_24 : decode cX2_numberAt 24 = .ok (.bipush 10, 2) := by decide +kernel
theorem dX2_numberAt_26 : decode cX2_numberAt 26 = .ok (.imul, 1) := by decide +kernel
theorem dX2_numberAt_27 : decode cX2_numberAt 27 = .ok (.aload_n 0, 1) := by decide +kernel
theorem dX2_numberAt_28 : decode cX2_numberAt 28 = .ok (.iload_n 3, 1) := by decide +kernel
theorem dX2_numberAt_29 : decode cX2_numberAt 29 = .ok (.invokevirtual 23, 3) := by decide +kernel
theorem dX2_numberAt_32 : decode cX2_numberAt 32 = .ok (.iadd, 1) := by decide +kernel
theorem dX2_numberAt_33 : decode cX2_numberAt 33 = .ok (.bipush 48, 2) := by decide +kernel
theorem dX2_numberAt_35 : decode cX2_numberAt 35 = .ok (.isub, 1) := by decide +kernel
theorem dX2_numberAt_36 : decode cX2_numberAt 36 = .ok (.istore_n 2, 1) := by decide +kernel
theorem dX2_numberAt_37 : decode cX2_numberAt 37 = .ok (.iinc 3 1, 3) := by decide +kernel
theorem dX2_numberAt_40 : decode cX2_numberAt 40 = .ok (.goto (-36), 3) := by decide +kernel
theorem dX2_numberAt_43 : decode cX2_numberAt 43 = .ok (.iload_n 2, 1) := by decide +kernel
theorem dX2_numberAt_44 : decode cX2_numberAt 44 = .ok (.ireturn, 1) := by decide +kernel
theorem dX3_init_0 : decode cX3_init 0 = .ok (.aload_n 0, 1) := by decide +kernel
theorem dX3_init_1 : decode cX3_init 1 = .ok (.invokespecial 3, 3) := by decide +kernel
theorem dX3_init_4 : decode cX3_init 4 = .ok (.aload_n 0, 1) := by decide +kernel
theorem dX3_init_5 : decode cX3_init 5 = .ok (.iconst 4, 1) := by decide +kernel
theorem dX3_init_6 : decode cX3_init 6 = .ok (.newarray .int, 2) := by decide +kernel
theorem dX3_init_8 : decode cX3_init 8 = .ok (.putfield 9, 3) := by decide +kernel
theorem dX3_init_11 : decode cX3_init 11 = .ok (.iconst 0, 1) := by decide +kernel
theorem dX3_init_12 : decode cX3_init 12 = .ok (.istore_n 1, 1) := by decide +kernel
theorem dX3_init_13 : decode cX3_init 13 = .ok (.iload_n 1, 1) := by decide +kernel
theorem dX3_init_14 : decode cX3_init 14 = .ok (.iconst 4, 1) := by decide +kernel
theorem dX3_init_15 : decode cX3_init 15 = .ok (.if_icmp .ge 16, 3) := by decide +kernel
theorem dX3_init_18 : decode cX3_init 18 = .ok (.aload_n 0, 1) := by decide +kernel
theorem dX3_init_19 : decode cX3_init 19 = .ok (.getfield 9, 3) := by decide +kernel
theorem dX3_init_22 : decode cX3_init 22 = .ok (.iload_n 1, 1) := by decide +kernel
theorem dX3_init_23 : decode cX3_init 23 = .ok (.iconst 5, 1) := by decide +kernel
theorem dX3_init_24 : decode cX3_init 24 = .ok (.iastore, 1) := by decide +kernel
theorem dX3_init_25 : decode cX3_init 25 = .ok (.iinc 1 1, 3) := by decide +kernel
theorem dX3_init_28 : decode cX3_init 28 = .ok (.goto (-15), 3) := by decide +kernel
theorem dX3_init_31 : decode cX3_init 31 = .ok (.aload_n 0, 1) := by decide +kernel
theorem dX3_init_32 : decode cX3_init 32 = .ok (.bipush 64, 2) := by decide +kernel
theorem dX3_init_34 : decode cX3_init 34 = .ok (.newarray .int, 2) := by decide +kernel
theorem dX3_init_36 : decode cX3_init 36 = .ok (.putfield 15, 3) := by decide +kernel
theorem dX3_init_39 : decode cX3_init 39 = .ok (.aload_n 0, 1) := by decide +kernel
theorem dX3_init_40 : decode cX3_init 40 = .ok (.bipush 64, 2) := by decide +kernel
theorem dX3_init_42 : decode cX3_init 42 = .ok (.newarray .int, 2) := by decide +kernel
theorem dX3_init_44 : decode cX3_init 44 = .ok (.putfield 18, 3) := by decide +kernel
theorem dX3_init_47 : decode cX3_init 47 = .ok (.aload_n 0, 1) := by decide +kernel
theorem dX3_init_48 : decode cX3_init 48 = .ok (.bipush 64, 2) := by decide +kernel
theorem dX3_init_50 : decode cX3_init 50 = .ok (.newarray .int, 2) := by decide +kernel
theorem dX3_init_52 : decode cX3_init 52 = .ok (.putfield 21, 3) := by decide +kernel
theorem dX3_init_55 : decode cX3_init 55 = .ok (.aload_n 0, 1) := by decide +kernel
theorem dX3_init_56 : decode cX3_init 56 = .ok (.bipush 64, 2) := by decide +kernel
theorem dX3_init_58 : decode cX3_init 58 = .ok (.newarray .int, 2) := by decide +kernel
theorem dX3_init_60 : decode cX3_init 60 = .ok (.putfield 24, 3) := by decide +kernel
theorem dX3_init_63 : decode cX3_init 63 = .ok (.return_, 1) := by decide +kernel
theorem dX3_copyFrom_0 : decode cX3_copyFrom 0 = .ok (.aload_n 0, 1) := by decide +kernel
theorem dX3_copyFrom_1 : decode cX3_copyFrom 1 = .ok (.aload_n 1, 1) := by decide +kernel
theorem dX3_copyFrom_2 : decode cX3_copyFrom 2 = .ok (.getfield 27, 3) := by decide +kernel
theorem dX3_copyFrom_5 : decode cX3_copyFrom 5 = .ok (.putfield 27, 3) := by decide +kernel
theorem dX3_copyFrom_8 : decode cX3_copyFrom 8 = .ok (.aload_n 1, 1) := by decide +kernel
theorem dX3_copyFrom_9 : decode cX3_copyFrom 9 = .ok (.getfield 9, 3) := by decide +kernel
theorem dX3_copyFrom_12 : decode cX3_copyFrom 12 = .ok (.iconst 0, 1) := by decide +kernel
theorem dX3_copyFrom_13 : decode cX3_copyFrom 13 = .ok (.aload_n 0, 1) := by decide +kernel
theorem dX3_copyFrom_14 : decode cX3_copyFrom 14 = .ok (.getfield 9, 3) := by decide +kernel
theorem dX3_copyFrom_17 : decode cX3_copyFrom 17 = .ok (.iconst 0, 1) := by decide +kernel
theorem dX3_copyFrom_18 : decode cX3_copyFrom 18 = .ok (.iconst 4, 1) := by decide +kernel
theorem dX3_copyFrom_19 : decode cX3_copyFrom 19 = .ok (.invokestatic 31, 3) := by decide +kernel
theorem dX3_copyFrom_22 : decode cX3_copyFrom 22 = .ok (.aload_n 1, 1) := by decide +kernel
theorem dX3_copyFrom_23 : decode cX3_copyFrom 23 = .ok (.getfield 15, 3) := by decide +kernel
theorem dX3_copyFrom_26 : decode cX3_copyFrom 26 = .ok (.iconst 0, 1) := by decide +kernel
theorem dX3_copyFrom_27 : decode cX3_copyFrom 27 = .ok (.aload_n 0, 1) := by decide +kernel
theorem dX3_copyFrom_28 : decode cX3_copyFrom 28 = .ok (.getfield 15, 3) := by decide +kernel
theorem dX3_copyFrom_31 : decode cX3_copyFrom 31 = .ok (.iconst 0, 1) := by decide +kernel
theorem dX3_copyFrom_32 : decode cX3_copyFrom 32 = .ok (.bipush 64, 2) := by decide +kernel
theorem dX3_copyFrom_34 : decode cX3_copyFrom 34 = .ok (.invokestatic 31, 3) := by decide +kernel
theorem dX3_copyFrom_37 : decode cX3_copyFrom 37 = .ok (.aload_n 1, 1) := by decide +kernel
theorem dX3_copyFrom_38 : decode cX3_copyFrom 38 = .ok (.getfield 18, 3) := by decide +kernel
theorem dX3_copyFrom_41 : decode cX3_copyFrom 41 = .ok (.iconst 0, 1) := by decide +kernel
theorem dX3_copyFrom_42 : decode cX3_copyFrom 42 = .ok (.aload_n 0, 1) := by decide +kernel
theorem dX3_copyFrom_43 : decode cX3_copyFrom 43 = .ok (.getfield 18, 3) := by decide +kernel
theorem dX3_copyFrom_46 : decode cX3_copyFrom 46 = .ok (.iconst 0, 1) := by decide +kernel
theorem dX3_copyFrom_47 : decode cX3_copyFrom 47 = .ok (.bipush 64, 2) := by decide +kernel
theorem dX3_copyFrom_49 : decode cX3_copyFrom 49 = .ok (.invokestatic 31, 3) := by decide +kernel
theorem dX3_copyFrom_52 : decode cX3_copyFrom 52 = .ok (.aload_n 1, 1) := by decide +kernel
theorem dX3_copyFrom_53 : decode cX3_copyFrom 53 = .ok (.getfield 21, 3) := by decide +kernel
theorem dX3_copyFrom_56 : decode cX3_copyFrom 56 = .ok (.iconst 0, 1) := by decide +kernel
theorem dX3_copyFrom_57 : decode cX3_copyFrom 57 = .ok (.aload_n 0, 1) := by decide +kernel
theorem dX3_copyFrom_58 : decode cX3_copyFrom 58 = .ok (.getfield 21, 3) := by decide +kernel
theorem dX3_copyFrom_61 : decode cX3_copyFrom 61 = .ok (.iconst 0, 1) := by decide +kernel
theorem dX3_copyFrom_62 : decode cX3_copyFrom 62 = .ok (.bipush 64, 2) := by decide +kernel
theorem dX3_copyFrom_64 : decode cX3_copyFrom 64 = .ok (.invokestatic 31, 3) := by decide +kernel
theorem dX3_copyFrom_67 : decode cX3_copyFrom 67 = .ok (.aload_n 1, 1) := by decide +kernel
theorem dX3_copyFrom_68 : decode cX3_copyFrom 68 = .ok (.getfield 24, 3) := by decide +kernel
theorem dX3_copyFrom_71 : decode cX3_copyFrom 71 = .ok (.iconst 0, 1) := by decide +kernel
theorem dX3_copyFrom_72 : decode cX3_copyFrom 72 = .ok (.aload_n 0, 1) := by decide +kernel
theorem dX3_copyFrom_73 : decode cX3_copyFrom 73 = .ok (.getfield 24, 3) := by decide +kernel
theorem dX3_copyFrom_76 : decode cX3_copyFrom 76 = .ok (.iconst 0, 1) := by decide +kernel
theorem dX3_copyFrom_77 : decode cX3_copyFrom 77 = .ok (.bipush 64, 2) := by decide +kernel
theorem dX3_copyFrom_79 : decode cX3_copyFrom 79 = .ok (.invokestatic 31, 3) := by decide +kernel
theorem dX3_copyFrom_82 : decode cX3_copyFrom 82 = .ok (.return_, 1) := by decide +kernel
theorem dX3_statusOf_0 : decode cX3_statusOf 0 = .ok (.aload_n 0, 1) := by decide +kernel
theorem dX3_statusOf_1 : decode cX3_statusOf 1 = .ok (.getfield 15, 3) := by decide +kernel
theorem dX3_statusOf_4 : decode cX3_statusOf 4 = .ok (.iload_n 1, 1) := by decide +kernel
theorem dX3_statusOf_5 : decode cX3_statusOf 5 = .ok (.bipush 16, 2) := by decide +kernel
theorem dX3_statusOf_7 : decode cX3_statusOf 7 = .ok (.imul, 1) := by decide +kernel
theorem dX3_statusOf_8 : decode cX3_statusOf 8 = .ok (.iload_n 2, 1) := by decide +kernel
theorem dX3_statusOf_9 : decode cX3_statusOf 9 = .ok (.iadd, 1) := by decide +kernel
theorem dX3_statusOf_10 : decode cX3_statusOf 10 = .ok (.iaload, 1) := by decide +kernel
theorem dX3_statusOf_11 : decode cX3_statusOf 11 = .ok (.ireturn, 1) := by decide +kernel
theorem dX3_roundOf_0 : decode cX3_roundOf 0 = .ok (.aload_n 0, 1) := by decide +kernel
theorem dX3_roundOf_1 : decode cX3_roundOf 1 = .ok (.getfield 18, 3) := by decide +kernel
theorem dX3_roundOf_4 : decode cX3_roundOf 4 = .ok (.iload_n 1, 1) := by decide +kernel
theorem dX3_roundOf_5 : decode cX3_roundOf 5 = .ok (.bipush 16, 2) := by decide +kernel
theorem dX3_roundOf_7 : decode cX3_roundOf 7 = .ok (.imul, 1) := by decide +kernel
theorem dX3_roundOf_8 : decode cX3_roundOf 8 = .ok (.iload_n 2, 1) := by decide +kernel
theorem dX3_roundOf_9 : decode cX3_roundOf 9 = .ok (.iadd, 1) := by decide +kernel
theorem dX3_roundOf_10 : decode cX3_roundOf 10 = .ok (.iaload, 1) := by decide +kernel
theorem dX3_roundOf_11 : decode cX3_roundOf 11 = .ok (.ireturn, 1) := by decide +kernel
theorem dX3_daysLain_0 : decode cX3_daysLain 0 = .ok (.aload_n 0, 1) := by decide +kernel
theorem dX3_daysLain_1 : decode cX3_daysLain 1 = .ok (.getfield 27, 3) := by decide +kernel
theorem dX3_daysLain_4 : decode cX3_daysLain 4 = .ok (.aload_n 0, 1) := by decide +kernel
theorem dX3_daysLain_5 : decode cX3_daysLain 5 = .ok (.getfield 24, 3) := by decide +kernel
theorem dX3_daysLain_8 : decode cX3_daysLain 8 = .ok (.iload_n 1, 1) := by decide +kernel
theorem dX3_daysLain_9 : decode cX3_daysLain 9 = .ok (.bipush 16, 2) := by decide +kernel
theorem dX3_daysLain_11 : decode cX3_daysLain 11 = .ok (.imul, 1) := by decide +kernel
theorem dX3_daysLain_12 : decode cX3_daysLain 12 = .ok (.iload_n 2, 1) := by decide +kernel
theorem dX3_daysLain_13 : decode cX3_daysLain 13 = .ok (.iadd, 1) := by decide +kernel
theorem dX3_daysLain_14 : decode cX3_daysLain 14 = .ok (.iaload, 1) := by decide +kernel
theorem dX3_daysLain_15 : decode cX3_daysLain 15 = .ok (.isub, 1) := by decide +kernel
theorem dX3_daysLain_16 : decode cX3_daysLain 16 = .ok (.ireturn, 1) := by decide +kernel
theorem dX3_daysToRipe_0 : decode cX3_daysToRipe 0 = .ok (.iconst 0, 1) := by decide +kernel
theorem dX3_daysToRipe_1 : decode cX3_daysToRipe 1 = .ok (.aload_n 0, 1) := by decide +kernel
theorem dX3_daysToRipe_2 : decode cX3_daysToRipe 2 = .ok (.getfield 9, 3) := by decide +kernel
theorem dX3_daysToRipe_5 : decode cX3_daysToRipe 5 = .ok (.iload_n 1, 1) := by decide +kernel
theorem dX3_daysToRipe_6 : decode cX3_daysToRipe 6 = .ok (.iaload, 1) := by decide +kernel
theorem dX3_daysToRipe_7 : decode cX3_daysToRipe 7 = .ok (.aload_n 0, 1) := by decide +kernel
theorem dX3_daysToRipe_8 : decode cX3_daysToRipe 8 = .ok (.iload_n 1, 1) := by decide +kernel
theorem dX3_daysToRipe_9 : decode cX3_daysToRipe 9 = .ok (.iload_n 2, 1) := by decide +kernel
theorem dX3_daysToRipe_10 : decode cX3_daysToRipe 10 = .ok (.invokevirtual 37, 3) := by decide +kernel
theorem dX3_daysToRipe_13 : decode cX3_daysToRipe 13 = .ok (.isub, 1) := by decide +kernel
theorem dX3_daysToRipe_14 : decode cX3_daysToRipe 14 = .ok (.invokestatic 41, 3) := by decide +kernel
theorem dX3_daysToRipe_17 : decode cX3_daysToRipe 17 = .ok (.ireturn, 1) := by decide +kernel
theorem dX3_isRipe_0 : decode cX3_isRipe 0 = .ok (.iload_n 1, 1) := by decide +kernel
theorem dX3_isRipe_1 : decode cX3_isRipe 1 = .ok (.bipush 16, 2) := by decide +kernel
theorem dX3_isRipe_3 : decode cX3_isRipe 3 = .ok (.imul, 1) := by decide +kernel
theorem dX3_isRipe_4 : decode cX3_isRipe 4 = .ok (.iload_n 2, 1) := by decide +kernel
theorem dX3_isRipe_5 : decode cX3_isRipe 5 = .ok (.iadd, 1) := by decide +kernel
theorem dX3_isRipe_6 : decode cX3_isRipe 6 = .ok (.istore_n 3, 1) := by decide +kernel
theorem dX3_isRipe_7 : decode cX3_isRipe 7 = .ok (.aload_n 0, 1) := by decide +kernel
theorem dX3_isRipe_8 : decode cX3_isRipe 8 = .ok (.getfield 15, 3) := by decide +kernel
theorem dX3_isRipe_11 : decode cX3_isRipe 11 = .ok (.iload_n 3, 1) := by decide +kernel
theorem dX3_isRipe_12 : decode cX3_isRipe 12 = .ok (.iaload, 1) := by decide +kernel
theorem dX3_isRipe_13 : decode cX3_isRipe 13 = .ok (.iconst 2, 1) := by decide +kernel
theorem dX3_isRipe_14 : decode cX3_isRipe 14 = .ok (.if_icmp .ne 27, 3) := by decide +kernel
theorem dX3_isRipe_17 : decode cX3_isRipe 17 = .ok (.aload_n 0, 1) := by decide +kernel
theorem dX3_isRipe_18 : decode cX3_isRipe 18 = .ok (.getfield 27, 3) := by decide +kernel
theorem dX3_isRipe_21 : decode cX3_isRipe 21 = .ok (.aload_n 0, 1) := by decide +kernel
theorem dX3_isRipe_22 : decode cX3_isRipe 22 = .ok (.getfield 24, 3) := by decide +kernel
theorem dX3_isRipe_25 : decode cX3_isRipe 25 = .ok (.iload_n 3, 1) := by decide +kernel
theorem dX3_isRipe_26 : decode cX3_isRipe 26 = .ok (.iaload, 1) := by decide +kernel
theorem dX3_isRipe_27 : decode cX3_isRipe 27 = .ok (.isub, 1) := by decide +kernel
theorem dX3_isRipe_28 : decode cX3_isRipe 28 = .ok (.aload_n 0, 1) := by decide +kernel
theorem dX3_isRipe_29 : decode cX3_isRipe 29 = .ok (.getfield 9, 3) := by decide +kernel
theorem dX3_isRipe_32 : decode cX3_isRipe 32 = .ok (.iload_n 1, 1) := by decide +kernel
theorem dX3_isRipe_33 : decode cX3_isRipe 33 = .ok (.iaload, 1) := by decide +kernel
theorem dX3_isRipe_34 : decode cX3_isRipe 34 = .ok (.if_icmp .lt 7, 3) := by decide +kernel
theorem dX3_isRipe_37 : decode cX3_isRipe 37 = .ok (.iconst 1, 1) := by decide +kernel
theorem dX3_isRipe_38 : decode cX3_isRipe 38 = .ok (.goto 4, 3) := by decide +kernel
theorem dX3_isRipe_41 : decode cX3_isRipe 41 = .ok (.iconst 0, 1) := by decide +kernel
theorem dX3_isRipe_42 : decode cX3_isRipe 42 = .ok (.ireturn, 1) := by decide +kernel
theorem dX3_canBeGiven_0 : decode cX3_canBeGiven 0 = .ok (.aload_n 0, 1) := by decide +kernel
theorem dX3_canBeGiven_1 : decode cX3_canBeGiven 1 = .ok (.iload_n 1, 1) := by decide +kernel
theorem dX3_canBeGiven_2 : decode cX3_canBeGiven 2 = .ok (.iload_n 2, 1) := by decide +kernel
theorem dX3_canBeGiven_3 : decode cX3_canBeGiven 3 = .ok (.invokevirtual 46, 3) := by decide +kernel
theorem dX3_canBeGiven_6 : decode cX3_canBeGiven 6 = .ok (.ifCond .eq 12, 3) := by decide +kernel
theorem dX3_canBeGiven_9 : decode cX3_canBeGiven 9 = .ok (.aload_n 0, 1) := by decide +kernel
theorem dX3_canBeGiven_10 : decode cX3_canBeGiven 10 = .ok (.iload_n 1, 1) := by decide +kernel
theorem dX3_canBeGiven_11 : decode cX3_canBeGiven 11 = .ok (.iload_n 2, 1) := by decide +kernel
theorem dX3_canBeGiven_12 : decode cX3_canBeGiven 12 = .ok (.invokevirtual 49, 3) := by decide +kernel
theorem dX3_canBeGiven_15 : decode cX3_canBeGiven 15 = .ok (.ifCond .eq 7, 3) := by decide +kernel
theorem dX3_canBeGiven_18 : decode cX3_canBeGiven 18 = .ok (.iconst 1, 1) := by decide +kernel
theorem dX3_canBeGiven_19 : decode cX3_canBeGiven 19 = .ok (.goto 4, 3) := by decide +kernel
theorem dX3_canBeGiven_22 : decode cX3_canBeGiven 22 = .ok (.iconst 0, 1) := by decide +kernel
theorem dX3_canBeGiven_23 : decode cX3_canBeGiven 23 = .ok (.ireturn, 1) := by decide +kernel
theorem dX3_give_0 : decode cX3_give 0 = .ok (.aload_n 0, 1) := by decide +kernel
theorem dX3_give_1 : decode cX3_give 1 = .ok (.iload_n 1, 1) := by decide +kernel
theorem dX3_give_2 : decode cX3_give 2 = .ok (.iload_n 2, 1) := by decide +kernel
theorem dX3_give_3 : decode cX3_give 3 = .ok (.invokevirtual 53, 3) := by decide +kernel
theorem dX3_give_6 : decode cX3_give 6 = .ok (.aload_n 0, 1) := by decide +kernel
theorem dX3_give_7 : decode cX3_give 7 = .ok (.getfield 18, 3) := by decide +kernel
theorem dX3_give_10 : decode cX3_give 10 = .ok (.iload_n 1, 1) := by decide +kernel
theorem dX3_give_11 : decode cX3_give 11 = .ok (.bipush 16, 2) := by decide +kernel
theorem dX3_give_13 : decode cX3_give 13 = .ok (.imul, 1) := by decide +kernel
theorem dX3_give_14 : decode cX3_give 14 = .ok (.iload_n 2, 1) := by decide +kernel
theorem dX3_give_15 : decode cX3_give 15 = .ok (.iadd, 1) := by decide +kernel
theorem dX3_give_16 : decode cX3_give 16 = .ok (.dup2, 1) := by decide +kernel
theorem dX3_give_17 : decode cX3_give 17 = .ok (.iaload, 1) := by decide +kernel
theorem dX3_give_18 : decode cX3_give 18 = .ok (.iconst 1, 1) := by decide +kernel
theorem dX3_give_19 : decode cX3_give 19 = .ok (.iadd, 1) := by decide +kernel
theorem dX3_give_20 : decode cX3_give 20 = .ok (.iastore, 1) := by decide +kernel
theorem dX3_give_21 : decode cX3_give 21 = .ok (.aload_n 0, 1) := by decide +kernel
theorem dX3_give_22 : decode cX3_give 22 = .ok (.getfield 15, 3) := by decide +kernel
theorem dX3_give_25 : decode cX3_give 25 = .ok (.iload_n 1, 1) := by decide +kernel
theorem dX3_give_26 : decode cX3_give 26 = .ok (.bipush 16, 2) := by decide +kernel
theorem dX3_give_28 : decode cX3_give 28 = .ok (.imul, 1) := by decide +kernel
theorem dX3_give_29 : decode cX3_give 29 = .ok (.iload_n 2, 1) := by decide +kernel
theorem dX3_give_30 : decode cX3_give 30 = .ok (.iadd, 1) := by decide +kernel
theorem dX3_give_31 : decode cX3_give 31 = .ok (.iconst 1, 1) := by decide +kernel
theorem dX3_give_32 : decode cX3_give 32 = .ok (.iastore, 1) := by decide +kernel
theorem dX3_give_33 : decode cX3_give 33 = .ok (.return_, 1) := by decide +kernel
theorem dX3_revive_0 : decode cX3_revive 0 = .ok (.aload_n 0, 1) := by decide +kernel
theorem dX3_revive_1 : decode cX3_revive 1 = .ok (.iload_n 1, 1) := by decide +kernel
theorem dX3_revive_2 : decode cX3_revive 2 = .ok (.iload_n 2, 1) := by decide +kernel
theorem dX3_revive_3 : decode cX3_revive 3 = .ok (.invokevirtual 53, 3) := by decide +kernel
theorem dX3_revive_6 : decode cX3_revive 6 = .ok (.aload_n 0, 1) := by decide +kernel
theorem dX3_revive_7 : decode cX3_revive 7 = .ok (.getfield 15, 3) := by decide +kernel
theorem dX3_revive_10 : decode cX3_revive 10 = .ok (.iload_n 1, 1) := by decide +kernel
theorem dX3_revive_11 : decode cX3_revive 11 = .ok (.bipush 16, 2) := by decide +kernel
theorem dX3_revive_13 : decode cX3_revive 13 = .ok (.imul, 1) := by decide +kernel
theorem dX3_revive_14 : decode cX3_revive 14 = .ok (.iload_n 2, 1) := by decide +kernel
theorem dX3_revive_15 : decode cX3_revive 15 = .ok (.iadd, 1) := by decide +kernel
theorem dX3_revive_16 : decode cX3_revive 16 = .ok (.iconst 1, 1) := by decide +kernel
theorem dX3_revive_17 : decode cX3_revive 17 = .ok (.iastore, 1) := by decide +kernel
theorem dX3_revive_18 : decode cX3_revive 18 = .ok (.return_, 1) := by decide +kernel
theorem dX3_wearOut_0 : decode cX3_wearOut 0 = .ok (.aload_n 0, 1) := by decide +kernel
theorem dX3_wearOut_1 : decode cX3_wearOut 1 = .ok (.getfield 15, 3) := by decide +kernel
theorem dX3_wearOut_4 : decode cX3_wearOut 4 = .ok (.iload_n 1, 1) := by decide +kernel
theorem dX3_wearOut_5 : decode cX3_wearOut 5 = .ok (.bipush 16, 2) := by decide +kernel
theorem dX3_wearOut_7 : decode cX3_wearOut 7 = .ok (.imul, 1) := by decide +kernel
theorem dX3_wearOut_8 : decode cX3_wearOut 8 = .ok (.iload_n 2, 1) := by decide +kernel
theorem dX3_wearOut_9 : decode cX3_wearOut 9 = .ok (.iadd, 1) := by decide +kernel
theorem dX3_wearOut_10 : decode cX3_wearOut 10 = .ok (.iconst 3, 1) := by decide +kernel
theorem dX3_wearOut_11 : decode cX3_wearOut 11 = .ok (.iastore, 1) := by decide +kernel
theorem dX3_wearOut_12 : decode cX3_wearOut 12 = .ok (.return_, 1) := by decide +kernel
theorem dX3_layOnTop_0 : decode cX3_layOnTop 0 = .ok (.iload_n 1, 1) := by decide +kernel
theorem dX3_layOnTop_1 : decode cX3_layOnTop 1 = .ok (.bipush 16, 2) := by decide +kernel
theorem dX3_layOnTop_3 : decode cX3_layOnTop 3 = .ok (.imul, 1) := by decide +kernel
theorem dX3_layOnTop_4 : decode cX3_layOnTop 4 = .ok (.istore_n 3, 1) := by decide +kernel
theorem dX3_layOnTop_5 : decode cX3_layOnTop 5 = .ok (.iload_n 3, 1) := by decide +kernel
theorem dX3_layOnTop_6 : decode cX3_layOnTop 6 = .ok (.iload_n 1, 1) := by decide +kernel
theorem dX3_layOnTop_7 : decode cX3_layOnTop 7 = .ok (.iconst 1, 1) := by decide +kernel
theorem dX3_layOnTop_8 : decode cX3_layOnTop 8 = .ok (.iadd, 1) := by decide +kernel
theorem dX3_layOnTop_9 : decode cX3_layOnTop 9 = .ok (.bipush 16, 2) := by decide +kernel
theorem dX3_layOnTop_11 : decode cX3_layOnTop 11 = .ok (.imul, 1) := by decide +kernel
theorem dX3_layOnTop_12 : decode cX3_layOnTop 12 = .ok (.if_icmp .ge 19, 3) := by decide +kernel
theorem dX3_layOnTop_15 : decode cX3_layOnTop 15 = .ok (.aload_n 0, 1) := by decide +kernel
theorem dX3_layOnTop_16 : decode cX3_layOnTop 16 = .ok (.getfield 21, 3) := by decide +kernel
theorem dX3_layOnTop_19 : decode cX3_layOnTop 19 = .ok (.iload_n 3, 1) := by decide +kernel
theorem dX3_layOnTop_20 : decode cX3_layOnTop 20 = .ok (.dup2, 1) := by decide +kernel
theorem dX3_layOnTop_21 : decode cX3_layOnTop 21 = .ok (.iaload, 1) := by decide +kernel
theorem dX3_layOnTop_22 : decode cX3_layOnTop 22 = .ok (.iconst 1, 1) := by decide +kernel
theorem dX3_layOnTop_23 : decode cX3_layOnTop 23 = .ok (.iadd, 1) := by decide +kernel
theorem dX3_layOnTop_24 : decode cX3_layOnTop 24 = .ok (.iastore, 1) := by decide +kernel
theorem dX3_layOnTop_25 : decode cX3_layOnTop 25 = .ok (.iinc 3 1, 3) := by decide +kernel
theorem dX3_layOnTop_28 : decode cX3_layOnTop 28 = .ok (.goto (-23), 3) := by decide +kernel
theorem dX3_layOnTop_31 : decode cX3_layOnTop 31 = .ok (.iload_n 1, 1) := by decide +kernel
theorem dX3_layOnTop_32 : decode cX3_layOnTop 32 = .ok (.bipush 16, 2) := by decide +kernel
theorem dX3_layOnTop_34 : decode cX3_layOnTop 34 = .ok (.imul, 1) := by decide +kernel
theorem dX3_layOnTop_35 : decode cX3_layOnTop 35 = .ok (.iload_n 2, 1) := by decide +kernel
theorem dX3_layOnTop_36 : decode cX3_layOnTop 36 = .ok (.iadd, 1) := by decide +kernel
theorem dX3_layOnTop_37 : decode cX3_layOnTop 37 = .ok (.istore_n 3, 1) := by decide +kernel
theorem dX3_layOnTop_38 : decode cX3_layOnTop 38 = .ok (.aload_n 0, 1) := by decide +kernel
theorem dX3_layOnTop_39 : decode cX3_layOnTop 39 = .ok (.getfield 15, 3) := by decide +kernel
theorem dX3_layOnTop_42 : decode cX3_layOnTop 42 = .ok (.iload_n 3, 1) := by decide +kernel
theorem dX3_layOnTop_43 : decode cX3_layOnTop 43 = .ok (.iconst 2, 1) := by decide +kernel
theorem dX3_layOnTop_44 : decode cX3_layOnTop 44 = .ok (.iastore, 1) := by decide +kernel
theorem dX3_layOnTop_45 : decode cX3_layOnTop 45 = .ok (.aload_n 0, 1) := by decide +kernel
theorem dX3_layOnTop_46 : decode cX3_layOnTop 46 = .ok (.getfield 21, 3) := by decide +kernel
theorem dX3_layOnTop_49 : decode cX3_layOnTop 49 = .ok (.iload_n 3, 1) := by decide +kernel
theorem dX3_layOnTop_50 : decode cX3_layOnTop 50 = .ok (.iconst 0, 1) := by decide +kernel
theorem dX3_layOnTop_51 : decode cX3_layOnTop 51 = .ok (.iastore, 1) := by decide +kernel
theorem dX3_layOnTop_52 : decode cX3_layOnTop 52 = .ok (.aload_n 0, 1) := by decide +kernel
theorem dX3_layOnTop_53 : decode cX3_layOnTop 53 = .ok (.getfield 24, 3) := by decide +kernel
theorem dX3_layOnTop_56 : decode cX3_layOnTop 56 = .ok (.iload_n 3, 1) := by decide +kernel
theorem dX3_layOnTop_57 : decode cX3_layOnTop 57 = .ok (.aload_n 0, 1) := by decide +kernel
theorem dX3_layOnTop_58 : decode cX3_layOnTop 58 = .ok (.getfield 27, 3) := by decide +kernel
theorem dX3_layOnTop_61 : decode cX3_layOnTop 61 = .ok (.iastore, 1) := by decide +kernel
theorem dX3_layOnTop_62 : decode cX3_layOnTop 62 = .ok (.return_, 1) := by decide +kernel
theorem dX3_takeOut_0 : decode cX3_takeOut 0 = .ok (.iload_n 1, 1) := by decide +kernel
theorem dX3_takeOut_1 : decode cX3_takeOut 1 = .ok (.bipush 16, 2) := by decide +kernel
theorem dX3_takeOut_3 : decode cX3_takeOut 3 = .ok (.imul, 1) := by decide +kernel
theorem dX3_takeOut_4 : decode cX3_takeOut 4 = .ok (.iload_n 2, 1) := by decide +kernel
theorem dX3_takeOut_5 : decode cX3_takeOut 5 = .ok (.iadd, 1) := by decide +kernel
theorem dX3_takeOut_6 : decode cX3_takeOut 6 = .ok (.istore_n 3, 1) := by decide +kernel
theorem dX3_takeOut_7 : decode cX3_takeOut 7 = .ok (.aload_n 0, 1) := by decide +kernel
theorem dX3_takeOut_8 : decode cX3_takeOut 8 = .ok (.getfield 15, 3) := by decide +kernel
theorem dX3_takeOut_11 : decode cX3_takeOut 11 = .ok (.iload_n 3, 1) := by decide +kernel
theorem dX3_takeOut_12 : decode cX3_takeOut 12 = .ok (.iaload, 1) := by decide +kernel
theorem dX3_takeOut_13 : decode cX3_takeOut 13 = .ok (.iconst 2, 1) := by decide +kernel
theorem dX3_takeOut_14 : decode cX3_takeOut 14 = .ok (.if_icmp .eq 4, 3) := by decide +kernel
theorem dX3_takeOut_17 : decode cX3_takeOut 17 = .ok (.return_, 1) := by decide +kernel
theorem dX3_takeOut_18 : decode cX3_takeOut 18 = .ok (.iload_n 1, 1) := by decide +kernel
theorem dX3_takeOut_19 : decode cX3_takeOut 19 = .ok (.bipush 16, 2) := by decide +kernel
theorem dX3_takeOut_21 : decode cX3_takeOut 21 = .ok (.imul, 1) := by decide +kernel
theorem dX3_takeOut_22 : decode cX3_takeOut 22 = .ok (.istore 4, 2) := by decide +kernel
theorem dX3_takeOut_24 : decode cX3_takeOut 24 = .ok (.iload 4, 2) := by decide +kernel
theorem dX3_takeOut_26 : decode cX3_takeOut 26 = .ok (.iload_n 1, 1) := by decide +kernel
theorem dX3_takeOut_27 : decode cX3_takeOut 27 = .ok (.iconst 1, 1) := by decide +kernel
theorem dX3_takeOut_28 : decode cX3_takeOut 28 = .ok (.iadd, 1) := by decide +kernel
theorem dX3_takeOut_29 : decode cX3_takeOut 29 = .ok (.bipush 16, 2) := by decide +kernel
theorem dX3_takeOut_31 : decode cX3_takeOut 31 = .ok (.imul, 1) := by decide +kernel
theorem dX3_takeOut_32 : decode cX3_takeOut 32 = .ok (.if_icmp .ge 36, 3) := by decide +kernel
theorem dX3_takeOut_35 : decode cX3_takeOut 35 = .ok (.aload_n 0, 1) := by decide +kernel
theorem dX3_takeOut_36 : decode cX3_takeOut 36 = .ok (.getfield 21, 3) := by decide +kernel
theorem dX3_takeOut_39 : decode cX3_takeOut 39 = .ok (.iload 4, 2) := by decide +kernel
theorem dX3_takeOut_41 : decode cX3_takeOut 41 = .ok (.iaload, 1) := by decide +kernel
theorem dX3_takeOut_42 : decode cX3_takeOut 42 = .ok (.aload_n 0, 1) := by decide +kernel
theorem dX3_takeOut_43 : decode cX3_takeOut 43 = .ok (.getfield 21, 3) := by decide +kernel
theorem dX3_takeOut_46 : decode cX3_takeOut 46 = .ok (.iload_n 3, 1) := by decide +kernel
theorem dX3_takeOut_47 : decode cX3_takeOut 47 = .ok (.iaload, 1) := by decide +kernel
theorem dX3_takeOut_48 : decode cX3_takeOut 48 = .ok (.if_icmp .le 14, 3) := by decide +kernel
theorem dX3_takeOut_51 : decode cX3_takeOut 51 = .ok (.aload_n 0, 1) := by decide +kernel
theorem dX3_takeOut_52 : decode cX3_takeOut 52 = .ok (.getfield 21, 3) := by decide +kernel
theorem dX3_takeOut_55 : decode cX3_takeOut 55 = .ok (.iload 4, 2) := by decide +kernel
theorem dX3_takeOut_57 : decode cX3_takeOut 57 = .ok (.dup2, 1) := by decide +kernel
theorem dX3_takeOut_58 : decode cX3_takeOut 58 = .ok (.iaload, 1) := by decide +kernel
theorem dX3_takeOut_59 : decode cX3_takeOut 59 = .ok (.iconst 1, 1) := by decide +kernel
theorem dX3_takeOut_60 : decode cX3_takeOut 60 = .ok (.isub, 1) := by decide +kernel
theorem dX3_takeOut_61 : decode cX3_takeOut 61 = .ok (.iastore, 1) := by decide +kernel
theorem dX3_takeOut_62 : decode cX3_takeOut 62 = .ok (.iinc 4 1, 3) := by decide +kernel
theorem dX3_takeOut_65 : decode cX3_takeOut 65 = .ok (.goto (-41), 3) := by decide +kernel
theorem dX3_takeOut_68 : decode cX3_takeOut 68 = .ok (.return_, 1) := by decide +kernel
theorem dX3_turnPile_0 : decode cX3_turnPile 0 = .ok (.aload_n 0, 1) := by decide +kernel
theorem dX3_turnPile_1 : decode cX3_turnPile 1 = .ok (.iload_n 1, 1) := by decide +kernel
theorem dX3_turnPile_2 : decode cX3_turnPile 2 = .ok (.iconst 2, 1) := by decide +kernel
theorem dX3_turnPile_3 : decode cX3_turnPile 3 = .ok (.invokevirtual 57, 3) := by decide +kernel
theorem dX3_turnPile_6 : decode cX3_turnPile 6 = .ok (.iconst 1, 1) := by decide +kernel
theorem dX3_turnPile_7 : decode cX3_turnPile 7 = .ok (.isub, 1) := by decide +kernel
theorem dX3_turnPile_8 : decode cX3_turnPile 8 = .ok (.istore_n 2, 1) := by decide +kernel
theorem dX3_turnPile_9 : decode cX3_turnPile 9 = .ok (.iload_n 1, 1) := by decide +kernel
theorem dX3_turnPile_10 : decode cX3_turnPile 10 = .ok (.bipush 16, 2) := by decide +kernel
theorem dX3_turnPile_12 : decode cX3_turnPile 12 = .ok (.imul, 1) := by decide +kernel
theorem dX3_turnPile_13 : decode cX3_turnPile 13 = .ok (.istore_n 3, 1) := by decide +kernel
theorem dX3_turnPile_14 : decode cX3_turnPile 14 = .ok (.iload_n 3, 1) := by decide +kernel
theorem dX3_turnPile_15 : decode cX3_turnPile 15 = .ok (.iload_n 1, 1) := by decide +kernel
theorem dX3_turnPile_16 : decode cX3_turnPile 16 = .ok (.iconst 1, 1) := by decide +kernel
theorem dX3_turnPile_17 : decode cX3_turnPile 17 = .ok (.iadd, 1) := by decide +kernel
theorem dX3_turnPile_18 : decode cX3_turnPile 18 = .ok (.bipush 16, 2) := by decide +kernel
theorem dX3_turnPile_20 : decode cX3_turnPile 20 = .ok (.imul, 1) := by decide +kernel
theorem dX3_turnPile_21 : decode cX3_turnPile 21 = .ok (.if_icmp .ge 23, 3) := by decide +kernel
theorem dX3_turnPile_24 : decode cX3_turnPile 24 = .ok (.aload_n 0, 1) := by decide +kernel
theorem dX3_turnPile_25 : decode cX3_turnPile 25 = .ok (.getfield 21, 3) := by decide +kernel
theorem dX3_turnPile_28 : decode cX3_turnPile 28 = .ok (.iload_n 3, 1) := by decide +kernel
theorem dX3_turnPile_29 : decode cX3_turnPile 29 = .ok (.iload_n 2, 1) := by decide +kernel
theorem dX3_turnPile_30 : decode cX3_turnPile 30 = .ok (.aload_n 0, 1) := by decide +kernel
theorem dX3_turnPile_31 : decode cX3_turnPile 31 = .ok (.getfield 21, 3) := by decide +kernel
theorem dX3_turnPile_34 : decode cX3_turnPile 34 = .ok (.iload_n 3, 1) := by decide +kernel
theorem dX3_turnPile_35 : decode cX3_turnPile 35 = .ok (.iaload, 1) := by decide +kernel
theorem dX3_turnPile_36 : decode cX3_turnPile 36 = .ok (.isub, 1) := by decide +kernel
theorem dX3_turnPile_37 : decode cX3_turnPile 37 = .ok (.iastore, 1) := by decide +kernel
theorem dX3_turnPile_38 : decode cX3_turnPile 38 = .ok (.iinc 3 1, 3) := by decide +kernel
theorem dX3_turnPile_41 : decode cX3_turnPile 41 = .ok (.goto (-27), 3) := by decide +kernel
theorem dX3_turnPile_44 : decode cX3_turnPile 44 = .ok (.return_, 1) := by decide +kernel
theorem dX3_keyAt_0 : decode cX3_keyAt 0 = .ok (.iconst 0, 1) := by decide +kernel
theorem dX3_keyAt_1 : decode cX3_keyAt 1 = .ok (.istore_n 3, 1) := by decide +kernel
theorem dX3_keyAt_2 : decode cX3_keyAt 2 = .ok (.iload_n 3, 1) := by decide +kernel
theorem dX3_keyAt_3 : decode cX3_keyAt 3 = .ok (.bipush 16, 2) := by decide +kernel
theorem dX3_keyAt_5 : decode cX3_keyAt 5 = .ok (.if_icmp .ge 36, 3) := by decide +kernel
theorem dX3_keyAt_8 : decode cX3_keyAt 8 = .ok (.aload_n 0, 1) := by decide +kernel
theorem dX3_keyAt_9 : decode cX3_keyAt 9 = .ok (.iload_n 1, 1) := by decide +kernel
theorem dX3_keyAt_10 : decode cX3_keyAt 10 = .ok (.iload_n 3, 1) := by decide +kernel
theorem dX3_keyAt_11 : decode cX3_keyAt 11 = .ok (.invokevirtual 46, 3) := by decide +kernel
theorem dX3_keyAt_14 : decode cX3_keyAt 14 = .ok (.iconst 2, 1) := by decide +kernel
theorem dX3_keyAt_15 : decode cX3_keyAt 15 = .ok (.if_icmp .ne 20, 3) := by decide +kernel
theorem dX3_keyAt_18 : decode cX3_keyAt 18 = .ok (.aload_n 0, 1) := by decide +kernel
theorem dX3_keyAt_19 : decode cX3_keyAt 19 = .ok (.getfield 21, 3) := by decide +kernel
theorem dX3_keyAt_22 : decode cX3_keyAt 22 = .ok (.iload_n 1, 1) := by decide +kernel
theorem dX3_keyAt_23 : decode cX3_keyAt 23 = .ok (.bipush 16, 2) := by decide +kernel
theorem dX3_keyAt_25 : decode cX3_keyAt 25 = .ok (.imul, 1) := by decide +kernel
theorem dX3_keyAt_26 : decode cX3_keyAt 26 = .ok (.iload_n 3, 1) := by decide +kernel
theorem dX3_keyAt_27 : decode cX3_keyAt 27 = .ok (.iadd, 1) := by decide +kernel
theorem dX3_keyAt_28 : decode cX3_keyAt 28 = .ok (.iaload, 1) := by decide +kernel
theorem dX3_keyAt_29 : decode cX3_keyAt 29 = .ok (.iload_n 2, 1) := by decide +kernel
theorem dX3_keyAt_30 : decode cX3_keyAt 30 = .ok (.if_icmp .ne 5, 3) := by decide +kernel
theorem dX3_keyAt_33 : decode cX3_keyAt 33 = .ok (.iload_n 3, 1) := by decide +kernel
theorem dX3_keyAt_34 : decode cX3_keyAt 34 = .ok (.ireturn, 1) := by decide +kernel
theorem dX3_keyAt_35 : decode cX3_keyAt 35 = .ok (.iinc 3 1, 3) := by decide +kernel
theorem dX3_keyAt_38 : decode cX3_keyAt 38 = .ok (.goto (-36), 3) := by decide +kernel
theorem dX3_keyAt_41 : decode cX3_keyAt 41 = .ok (.iconst (-1), 1) := by decide +kernel
theorem dX3_keyAt_42 : decode cX3_keyAt 42 = .ok (.ireturn, 1) := by decide +kernel
theorem dX3_draw_0 : decode cX3_draw 0 = .ok (.iconst (-1), 1) := by decide +kernel
theorem dX3_draw_1 : decode cX3_draw 1 = .ok (.istore 4, 2) := by decide +kernel
theorem dX3_draw_3 : decode cX3_draw 3 = .ok (.iconst 0, 1) := by decide +kernel
theorem dX3_draw_4 : decode cX3_draw 4 = .ok (.istore 5, 2) := by decide +kernel
theorem dX3_draw_6 : decode cX3_draw 6 = .ok (.iconst 0, 1) := by decide +kernel
theorem dX3_draw_7 : decode cX3_draw 7 = .ok (.istore 6, 2) := by decide +kernel
theorem dX3_draw_9 : decode cX3_draw 9 = .ok (.iload 6, 2) := by decide +kernel
theorem dX3_draw_11 : decode cX3_draw 11 = .ok (.bipush 16, 2) := by decide +kernel
theorem dX3_draw_13 : decode cX3_draw 13 = .ok (.if_icmp .ge 62, 3) := by decide +kernel
theorem dX3_draw_16 : decode cX3_draw 16 = .ok (.iload_n 3, 1) := by decide +kernel
theorem dX3_draw_17 : decode cX3_draw 17 = .ok (.iconst 1, 1) := by decide +kernel
theorem dX3_draw_18 : decode cX3_draw 18 = .ok (.iload 6, 2) := by decide +kernel
theorem dX3_draw_20 : decode cX3_draw 20 = .ok (.ishl, 1) := by decide +kernel
theorem dX3_draw_21 : decode cX3_draw 21 = .ok (.iand, 1) := by decide +kernel
theorem dX3_draw_22 : decode cX3_draw 22 = .ok (.ifCond .ne 47, 3) := by decide +kernel
theorem dX3_draw_25 : decode cX3_draw 25 = .ok (.aload_n 0, 1) := by decide +kernel
theorem dX3_draw_26 : decode cX3_draw 26 = .ok (.iload_n 1, 1) := by decide +kernel
theorem dX3_draw_27 : decode cX3_draw 27 = .ok (.iload 6, 2) := by decide +kernel
theorem dX3_draw_29 : decode cX3_draw 29 = .ok (.invokevirtual 60, 3) := by decide +kernel
theorem dX3_draw_32 : decode cX3_draw 32 = .ok (.ifCond .ne 6, 3) := by decide +kernel
theorem dX3_draw_35 : decode cX3_draw 35 = .ok (.goto 34, 3) := by decide +kernel
theorem dX3_draw_38 : decode cX3_draw 38 = .ok (.aload_n 0, 1) := by decide +kernel
theorem dX3_draw_39 : decode cX3_draw 39 = .ok (.iload_n 1, 1) := by decide +kernel
theorem dX3_draw_40 : decode cX3_draw 40 = .ok (.iload 6, 2) := by decide +kernel
theorem dX3_draw_42 : decode cX3_draw 42 = .ok (.iload_n 2, 1) := by decide +kernel
theorem dX3_draw_43 : decode cX3_draw 43 = .ok (.invokevirtual 63, 3) := by decide +kernel
theorem dX3_draw_46 : decode cX3_draw 46 = .ok (.istore 7, 2) := by decide +kernel
theorem dX3_draw_48 : decode cX3_draw 48 = .ok (.iload 4, 2) := by decide +kernel
theorem dX3_draw_50 : decode cX3_draw 50 = .ok (.iconst (-1), 1) := by decide +kernel
theorem dX3_draw_51 : decode cX3_draw 51 = .ok (.if_icmp .eq 10, 3) := by decide +kernel
theorem dX3_draw_54 : decode cX3_draw 54 = .ok (.iload 7, 2) := by decide +kernel
theorem dX3_draw_56 : decode cX3_draw 56 = .ok (.iload 5, 2) := by decide +kernel
theorem dX3_draw_58 : decode cX3_draw 58 = .ok (.if_icmp .ge 11, 3) := by decide +kernel
theorem dX3_draw_61 : decode cX3_draw 61 = .ok (.iload 6, 2) := by decide +kernel
theorem dX3_draw_63 : decode cX3_draw 63 = .ok (.istore 4, 2) := by decide +kernel
theorem dX3_draw_65 : decode cX3_draw 65 = .ok (.iload 7, 2) := by decide +kernel
theorem dX3_draw_67 : decode cX3_draw 67 = .ok (.istore 5, 2) := by decide +kernel
theorem dX3_draw_69 : decode cX3_draw 69 = .ok (.iinc 6 1, 3) := by decide +kernel
theorem dX3_draw_72 : decode cX3_draw 72 = .ok (.goto (-63), 3) := by decide +kernel
theorem dX3_draw_75 : decode cX3_draw 75 = .ok (.iload 4, 2) := by decide +kernel
theorem dX3_draw_77 : decode cX3_draw 77 = .ok (.ireturn, 1) := by decide +kernel
theorem dX3_rankByRule_0 : decode cX3_rankByRule 0 = .ok (.iload_n 1, 1) := by decide +kernel
theorem dX3_rankByRule_1 : decode cX3_rankByRule 1 = .ok (.bipush 16, 2) := by decide +kernel
theorem dX3_rankByRule_3 : decode cX3_rankByRule 3 = .ok (.imul, 1) := by decide +kernel
theorem dX3_rankByRule_4 : decode cX3_rankByRule 4 = .ok (.iload_n 2, 1) := by decide +kernel
theorem dX3_rankByRule_5 : decode cX3_rankByRule 5 = .ok (.iadd, 1) := by decide +kernel
theorem dX3_rankByRule_6 : decode cX3_rankByRule 6 = .ok (.istore 4, 2) := by decide +kernel
theorem dX3_rankByRule_8 : decode cX3_rankByRule 8 = .ok (.aload_n 0, 1) := by decide +kernel
theorem dX3_rankByRule_9 : decode cX3_rankByRule 9 = .ok (.getfield 15, 3) := by decide +kernel
theorem dX3_rankByRule_12 : decode cX3_rankByRule 12 = .ok (.iload 4, 2) := by decide +kernel
theorem dX3_rankByRule_14 : decode cX3_rankByRule 14 = .ok (.iaload, 1) := by decide +kernel
theorem dX3_rankByRule_15 : decode cX3_rankByRule 15 = .ok (.ifCond .ne 7, 3) := by decide +kernel
theorem dX3_rankByRule_18 : decode cX3_rankByRule 18 = .ok (.iconst 1, 1) := by decide +kernel
theorem dX3_rankByRule_19 : decode cX3_rankByRule 19 = .ok (.goto 4, 3) := by decide +kernel
theorem dX3_rankByRule_22 : decode cX3_rankByRule 22 = .ok (.iconst 0, 1) := by decide +kernel
theorem dX3_rankByRule_23 : decode cX3_rankByRule 23 = .ok (.istore 5, 2) := by decide +kernel
theorem dX3_rankByRule_25 : decode cX3_rankByRule 25 = .ok (.iload_n 3, 1) := by decide +kernel
theorem dX3_rankByRule_26 : decode cX3_rankByRule 26 = .ok (.tableswitch 68 0 2 #[26, 46, 66], 26) := by decide +kernel
theorem dX3_rankByRule_52 : decode cX3_rankByRule 52 = .ok (.iload 5, 2) := by decide +kernel
theorem dX3_rankByRule_54 : decode cX3_rankByRule 54 = .ok (.ifCond .eq 7, 3) := by decide +kernel
theorem dX3_rankByRule_57 : decode cX3_rankByRule 57 = .ok (.iload_n 2, 1) := by decide +kernel
theorem dX3_rankByRule_58 : decode cX3_rankByRule 58 = .ok (.goto 13, 3) := by decide +kernel
theorem dX3_rankByRule_61 : decode cX3_rankByRule 61 = .ok (.bipush 16, 2) := by decide +kernel
theorem dX3_rankByRule_63 : decode cX3_rankByRule 63 = .ok (.aload_n 0, 1) := by decide +kernel
theorem dX3_rankByRule_64 : decode cX3_rankByRule 64 = .ok (.getfield 21, 3) := by decide +kernel
theorem dX3_rankByRule_67 : decode cX3_rankByRule 67 = .ok (.iload 4, 2) := by decide +kernel
theorem dX3_rankByRule_69 : decode cX3_rankByRule 69 = .ok (.iaload, 1) := by decide +kernel
theorem dX3_rankByRule_70 : decode cX3_rankByRule 70 = .ok (.iadd, 1) := by decide +kernel
theorem dX3_rankByRule_71 : decode cX3_rankByRule 71 = .ok (.ireturn, 1) := by decide +kernel
theorem dX3_rankByRule_72 : decode cX3_rankByRule 72 = .ok (.iload 5, 2) := by decide +kernel
theorem dX3_rankByRule_74 : decode cX3_rankByRule 74 = .ok (.ifCond .eq 10, 3) := by decide +kernel
theorem dX3_rankByRule_77 : decode cX3_rankByRule 77 = .ok (.bipush 16, 2) := by decide +kernel
theorem dX3_rankByRule_79 : decode cX3_rankByRule 79 = .ok (.iload_n 2, 1) := by decide +kernel
theorem dX3_rankByRule_80 : decode cX3_rankByRule 80 = .ok (.iadd, 1) := by decide +kernel
theorem dX3_rankByRule_81 : decode cX3_rankByRule 81 = .ok (.goto 10, 3) := by decide +kernel
theorem dX3_rankByRule_84 : decode cX3_rankByRule 84 = .ok (.aload_n 0, 1) := by decide +kernel
theorem dX3_rankByRule_85 : decode cX3_rankByRule 85 = .ok (.getfield 21, 3) := by decide +kernel
theorem dX3_rankByRule_88 : decode cX3_rankByRule 88 = .ok (.iload 4, 2) := by decide +kernel
theorem dX3_rankByRule_90 : decode cX3_rankByRule 90 = .ok (.iaload, 1) := by decide +kernel
theorem dX3_rankByRule_91 : decode cX3_rankByRule 91 = .ok (.ireturn, 1) := by decide +kernel
theorem dX3_rankByRule_92 : decode cX3_rankByRule 92 = .ok (.iload_n 2, 1) := by decide +kernel
theorem dX3_rankByRule_93 : decode cX3_rankByRule 93 = .ok (.ireturn, 1) := by decide +kernel
theorem dX3_rankByRule_94 : decode cX3_rankByRule 94 = .ok (.aload_n 0, 1) := by decide +kernel
theorem dX3_rankByRule_95 : decode cX3_rankByRule 95 = .ok (.getfield 18, 3) := by decide +kernel
theorem dX3_rankByRule_98 : decode cX3_rankByRule 98 = .ok (.iload 4, 2) := by decide +kernel
theorem dX3_rankByRule_100 : decode cX3_rankByRule 100 = .ok (.iaload, 1) := by decide +kernel
theorem dX3_rankByRule_101 : decode cX3_rankByRule 101 = .ok (.bipush 16, 2) := by decide +kernel
theorem dX3_rankByRule_103 : decode cX3_rankByRule 103 = .ok (.imul, 1) := by decide +kernel
theorem dX3_rankByRule_104 : decode cX3_rankByRule 104 = .ok (.iload_n 2, 1) := by decide +kernel
theorem dX3_rankByRule_105 : decode cX3_rankByRule 105 = .ok (.iadd, 1) := by decide +kernel
theorem dX3_rankByRule_106 : decode cX3_rankByRule 106 = .ok (.ireturn, 1) := by decide +kernel
theorem dX3_judge_0 : decode cX3_judge 0 = .ok (.aload_n 0, 1) := by decide +kernel
theorem dX3_judge_1 : decode cX3_judge 1 = .ok (.iload_n 1, 1) := by decide +kernel
theorem dX3_judge_2 : decode cX3_judge 2 = .ok (.iload_n 2, 1) := by decide +kernel
theorem dX3_judge_3 : decode cX3_judge 3 = .ok (.invokevirtual 46, 3) := by decide +kernel
theorem dX3_judge_6 : decode cX3_judge 6 = .ok (.iconst 1, 1) := by decide +kernel
theorem dX3_judge_7 : decode cX3_judge 7 = .ok (.if_icmp .ne 13, 3) := by decide +kernel
theorem dX3_judge_10 : decode cX3_judge 10 = .ok (.iload_n 3, 1) := by decide +kernel
theorem dX3_judge_11 : decode cX3_judge 11 = .ok (.aload_n 0, 1) := by decide +kernel
theorem dX3_judge_12 : decode cX3_judge 12 = .ok (.iload_n 1, 1) := by decide +kernel
theorem dX3_judge_13 : decode cX3_judge 13 = .ok (.iload_n 2, 1) := by decide +kernel
theorem dX3_judge_14 : decode cX3_judge 14 = .ok (.invokevirtual 67, 3) := by decide +kernel
theorem dX3_judge_17 : decode cX3_judge 17 = .ok (.if_icmp .le 5, 3) := by decide +kernel
theorem dX3_judge_20 : decode cX3_judge 20 = .ok (.iconst 1, 1) := by decide +kernel
theorem dX3_judge_21 : decode cX3_judge 21 = .ok (.ireturn, 1) := by decide +kernel
theorem dX3_judge_22 : decode cX3_judge 22 = .ok (.iload_n 3, 1) := by decide +kernel
theorem dX3_judge_23 : decode cX3_judge 23 = .ok (.aload_n 0, 1) := by decide +kernel
theorem dX3_judge_24 : decode cX3_judge 24 = .ok (.iload_n 1, 1) := by decide +kernel
theorem dX3_judge_25 : decode cX3_judge 25 = .ok (.iload_n 2, 1) := by decide +kernel
theorem dX3_judge_26 : decode cX3_judge 26 = .ok (.invokevirtual 67, 3) := by decide +kernel
theorem dX3_judge_29 : decode cX3_judge 29 = .ok (.if_icmp .ge 7, 3) := by decide +kernel
theorem dX3_judge_32 : decode cX3_judge 32 = .ok (.iconst 2, 1) := by decide +kernel
theorem dX3_judge_33 : decode cX3_judge 33 = .ok (.goto 4, 3) := by decide +kernel
theorem dX3_judge_36 : decode cX3_judge 36 = .ok (.iconst 0, 1) := by decide +kernel
theorem dX3_judge_37 : decode cX3_judge 37 = .ok (.ireturn, 1) := by decide +kernel
theorem dX3_canPass_0 : decode cX3_canPass 0 = .ok (.iload_n 1, 1) := by decide +kernel
theorem dX3_canPass_1 : decode cX3_canPass 1 = .ok (.sipush 9999, 3) := by decide +kernel
theorem dX3_canPass_4 : decode cX3_canPass 4 = .ok (.aload_n 0, 1) := by decide +kernel
theorem dX3_canPass_5 : decode cX3_canPass 5 = .ok (.getfield 27, 3) := by decide +kernel
theorem dX3_canPass_8 : decode cX3_canPass 8 = .ok (.isub, 1) := by decide +kernel
theorem dX3_canPass_9 : decode cX3_canPass 9 = .ok (.if_icmp .gt 7, 3) := by decide +kernel
theorem dX3_canPass_12 : decode cX3_canPass 12 = .ok (.iconst 1, 1) := by decide +kernel
theorem dX3_canPass_13 : decode cX3_canPass 13 = .ok (.goto 4, 3) := by decide +kernel
theorem dX3_canPass_16 : decode cX3_canPass 16 = .ok (.iconst 0, 1) := by decide +kernel
theorem dX3_canPass_17 : decode cX3_canPass 17 = .ok (.ireturn, 1) := by decide +kernel
theorem dX3_letPass_0 : decode cX3_letPass 0 = .ok (.aload_n 0, 1) := by decide +kernel
theorem dX3_letPass_1 : decode cX3_letPass 1 = .ok (.dup, 1) := by decide +kernel
theorem dX3_letPass_2 : decode cX3_letPass 2 = .ok (.getfield 27, 3) := by decide +kernel
theorem dX3_letPass_5 : decode cX3_letPass 5 = .ok (.iload_n 1, 1) := by decide +kernel
theorem dX3_letPass_6 : decode cX3_letPass 6 = .ok (.iadd, 1) := by decide +kernel
theorem dX3_letPass_7 : decode cX3_letPass 7 = .ok (.putfield 27, 3) := by decide +kernel
theorem dX3_letPass_10 : decode cX3_letPass 10 = .ok (.return_, 1) := by decide +kernel
theorem dX3_howMany_0 : decode cX3_howMany 0 = .ok (.iconst 0, 1) := by decide +kernel
theorem dX3_howMany_1 : decode cX3_howMany 1 = .ok (.istore_n 3, 1) := by decide +kernel
theorem dX3_howMany_2 : decode cX3_howMany 2 = .ok (.iconst 0, 1) := by decide +kernel
theorem dX3_howMany_3 : decode cX3_howMany 3 = .ok (.istore 4, 2) := by decide +kernel
theorem dX3_howMany_5 : decode cX3_howMany 5 = .ok (.iload 4, 2) := by decide +kernel
theorem dX3_howMany_7 : decode cX3_howMany 7 = .ok (.bipush 16, 2) := by decide +kernel
theorem dX3_howMany_9 : decode cX3_howMany 9 = .ok (.if_icmp .ge 23, 3) := by decide +kernel
theorem dX3_howMany_12 : decode cX3_howMany 12 = .ok (.aload_n 0, 1) := by decide +kernel
theorem dX3_howMany_13 : decode cX3_howMany 13 = .ok (.iload_n 1, 1) := by decide +kernel
theorem dX3_howMany_14 : decode cX3_howMany 14 = .ok (.iload 4, 2) := by decide +kernel
theorem dX3_howMany_16 : decode cX3_howMany 16 = .ok (.invokevirtual 46, 3) := by decide +kernel
theorem dX3_howMany_19 : decode cX3_howMany 19 = .ok (.iload_n 2, 1) := by decide +kernel
theorem dX3_howMany_20 : decode cX3_howMany 20 = .ok (.if_icmp .ne 6, 3) := by decide +kernel
theorem dX3_howMany_23 : decode cX3_howMany 23 = .ok (.iinc 3 1, 3) := by decide +kernel
theorem dX3_howMany_26 : decode cX3_howMany 26 = .ok (.iinc 4 1, 3) := by decide +kernel
theorem dX3_howMany_29 : decode cX3_howMany 29 = .ok (.goto (-24), 3) := by decide +kernel
theorem dX3_howMany_32 : decode cX3_howMany 32 = .ok (.iload_n 3, 1) := by decide +kernel
theorem dX3_howMany_33 : decode cX3_howMany 33 = .ok (.ireturn, 1) := by decide +kernel
theorem dX3_howManyOfAll_0 : decode cX3_howManyOfAll 0 = .ok (.iconst 0, 1) := by decide +kernel
theorem dX3_howManyOfAll_1 : decode cX3_howManyOfAll 1 = .ok (.istore_n 2, 1) := by decide +kernel
theorem dX3_howManyOfAll_2 : decode cX3_howManyOfAll 2 = .ok (.iconst 0, 1) := by decide +kernel
theorem dX3_howManyOfAll_3 : decode cX3_howManyOfAll 3 = .ok (.istore_n 3, 1) := by decide +kernel
theorem dX3_howManyOfAll_4 : decode cX3_howManyOfAll 4 = .ok (.iload_n 3, 1) := by decide +kernel
theorem dX3_howManyOfAll_5 : decode cX3_howManyOfAll 5 = .ok (.iconst 4, 1) := by decide +kernel
theorem dX3_howManyOfAll_6 : decode cX3_howManyOfAll 6 = .ok (.if_icmp .ge 18, 3) := by decide +kernel
theorem dX3_howManyOfAll_9 : decode cX3_howManyOfAll 9 = .ok (.iload_n 2, 1) := by decide +kernel
theorem dX3_howManyOfAll_10 : decode cX3_howManyOfAll 10 = .ok (.aload_n 0, 1) := by decide +kernel
theorem dX3_howManyOfAll_11 : decode cX3_howManyOfAll 11 = .ok (.iload_n 3, 1) := by decide +kernel
theorem dX3_howManyOfAll_12 : decode cX3_howManyOfAll 12 = .ok (.iload_n 1, 1) := by decide +kernel
theorem dX3_howManyOfAll_13 : decode cX3_howManyOfAll 13 = .ok (.invokevirtual 57, 3) := by decide +kernel
theorem dX3_howManyOfAll_16 : decode cX3_howManyOfAll 16 = .ok (.iadd, 1) := by decide +kernel
theorem dX3_howManyOfAll_17 : decode cX3_howManyOfAll 17 = .ok (.istore_n 2, 1) := by decide +kernel
theorem dX3_howManyOfAll_18 : decode cX3_howManyOfAll 18 = .ok (.iinc 3 1, 3) := by decide +kernel
theorem dX3_howManyOfAll_21 : decode cX3_howManyOfAll 21 = .ok (.goto (-17), 3) := by decide +kernel
theorem dX3_howManyOfAll_24 : decode cX3_howManyOfAll 24 = .ok (.iload_n 2, 1) := by decide +kernel
theorem dX3_howManyOfAll_25 : decode cX3_howManyOfAll 25 = .ok (.ireturn, 1) := by decide +kernel
theorem dX3_howManyRipe_0 : decode cX3_howManyRipe 0 = .ok (.iconst 0, 1) := by decide +kernel
theorem dX3_howManyRipe_1 : decode cX3_howManyRipe 1 = .ok (.istore_n 2, 1) := by decide +kernel
theorem dX3_howManyRipe_2 : decode cX3_howManyRipe 2 = .ok (.iconst 0, 1) := by decide +kernel
theorem dX3_howManyRipe_3 : decode cX3_howManyRipe 3 = .ok (.istore_n 3, 1) := by decide +kernel
theorem dX3_howManyRipe_4 : decode cX3_howManyRipe 4 = .ok (.iload_n 3, 1) := by decide +kernel
theorem dX3_howManyRipe_5 : decode cX3_howManyRipe 5 = .ok (.bipush 16, 2) := by decide +kernel
theorem dX3_howManyRipe_7 : decode cX3_howManyRipe 7 = .ok (.if_icmp .ge 21, 3) := by decide +kernel
theorem dX3_howManyRipe_10 : decode cX3_howManyRipe 10 = .ok (.aload_n 0, 1) := by decide +kernel
theorem dX3_howManyRipe_11 : decode cX3_howManyRipe 11 = .ok (.iload_n 1, 1) := by decide +kernel
theorem dX3_howManyRipe_12 : decode cX3_howManyRipe 12 = .ok (.iload_n 3, 1) := by decide +kernel
theorem dX3_howManyRipe_13 : decode cX3_howManyRipe 13 = .ok (.invokevirtual 49, 3) := by decide +kernel
theorem dX3_howManyRipe_16 : decode cX3_howManyRipe 16 = .ok (.ifCond .eq 6, 3) := by decide +kernel
theorem dX3_howManyRipe_19 : decode cX3_howManyRipe 19 = .ok (.iinc 2 1, 3) := by decide +kernel
theorem dX3_howManyRipe_22 : decode cX3_howManyRipe 22 = .ok (.iinc 3 1, 3) := by decide +kernel
theorem dX3_howManyRipe_25 : decode cX3_howManyRipe 25 = .ok (.goto (-21), 3) := by decide +kernel
theorem dX3_howManyRipe_28 : decode cX3_howManyRipe 28 = .ok (.iload_n 2, 1) := by decide +kernel
theorem dX3_howManyRipe_29 : decode cX3_howManyRipe 29 = .ok (.ireturn, 1) := by decide +kernel
theorem dX3_howManyRipeOfAll_0 : decode cX3_howManyRipeOfAll 0 = .ok (.iconst 0, 1) := by decide +kernel
theorem dX3_howManyRipeOfAll_1 : decode cX3_howManyRipeOfAll 1 = .ok (.istore_n 1, 1) := by decide +kernel
theorem dX3_howManyRipeOfAll_2 : decode cX3_howManyRipeOfAll 2 = .ok (.iconst 0, 1) := by decide +kernel
theorem dX3_howManyRipeOfAll_3 : decode cX3_howManyRipeOfAll 3 = .ok (.istore_n 2, 1) := by decide +kernel
theorem dX3_howManyRipeOfAll_4 : decode cX3_howManyRipeOfAll 4 = .ok (.iload_n 2, 1) := by decide +kernel
theorem dX3_howManyRipeOfAll_5 : decode cX3_howManyRipeOfAll 5 = .ok (.iconst 4, 1) := by decide +kernel
theorem dX3_howManyRipeOfAll_6 : decode cX3_howManyRipeOfAll 6 = .ok (.if_icmp .ge 17, 3) := by decide +kernel
theorem dX3_howManyRipeOfAll_9 : decode cX3_howManyRipeOfAll 9 = .ok (.iload_n 1, 1) := by decide +kernel
theorem dX3_howManyRipeOfAll_10 : decode cX3_howManyRipeOfAll 10 = .ok (.aload_n 0, 1) := by decide +kernel
theorem dX3_howManyRipeOfAll_11 : decode cX3_howManyRipeOfAll 11 = .ok (.iload_n 2, 1) := by decide +kernel
theorem dX3_howManyRipeOfAll_12 : decode cX3_howManyRipeOfAll 12 = .ok (.invokevirtual 70, 3) := by decide +kernel
theorem dX3_howManyRipeOfAll_15 : decode cX3_howManyRipeOfAll 15 = .ok (.iadd, 1) := by decide +kernel
theorem dX3_howManyRipeOfAll_16 : decode cX3_howManyRipeOfAll 16 = .ok (.istore_n 1, 1) := by decide +kernel
theorem dX3_howManyRipeOfAll_17 : decode cX3_howManyRipeOfAll 17 = .ok (.iinc 2 1, 3) := by decide +kernel
theorem dX3_howManyRipeOfAll_20 : decode cX3_howManyRipeOfAll 20 = .ok (.goto (-16), 3) := by decide +kernel
theorem dX3_howManyRipeOfAll_23 : decode cX3_howManyRipeOfAll 23 = .ok (.iload_n 1, 1) := by decide +kernel
theorem dX3_howManyRipeOfAll_24 : decode cX3_howManyRipeOfAll 24 = .ok (.ireturn, 1) := by decide +kernel
theorem dX3_greatestRound_0 : decode cX3_greatestRound 0 = .ok (.iconst 0, 1) := by decide +kernel
theorem dX3_greatestRound_1 : decode cX3_greatestRound 1 = .ok (.istore_n 1, 1) := by decide +kernel
theorem dX3_greatestRound_2 : decode cX3_greatestRound 2 = .ok (.iconst 0, 1) := by decide +kernel
theorem dX3_greatestRound_3 : decode cX3_greatestRound 3 = .ok (.istore_n 2, 1) := by decide +kernel
theorem dX3_greatestRound_4 : decode cX3_greatestRound 4 = .ok (.iload_n 2, 1) := by decide +kernel
theorem dX3_greatestRound_5 : decode cX3_greatestRound 5 = .ok (.bipush 64, 2) := by decide +kernel
theorem dX3_greatestRound_7 : decode cX3_greatestRound 7 = .ok (.if_icmp .ge 20, 3) := by decide +kernel
theorem dX3_greatestRound_10 : decode cX3_greatestRound 10 = .ok (.iload_n 1, 1) := by decide +kernel
theorem dX3_greatestRound_11 : decode cX3_greatestRound 11 = .ok (.aload_n 0, 1) := by decide +kernel
theorem dX3_greatestRound_12 : decode cX3_greatestRound 12 = .ok (.getfield 18, 3) := by decide +kernel
theorem dX3_greatestRound_15 : decode cX3_greatestRound 15 = .ok (.iload_n 2, 1) := by decide +kernel
theorem dX3_greatestRound_16 : decode cX3_greatestRound 16 = .ok (.iaload, 1) := by decide +kernel
theorem dX3_greatestRound_17 : decode cX3_greatestRound 17 = .ok (.invokestatic 41, 3) := by decide +kernel
theorem dX3_greatestRound_20 : decode cX3_greatestRound 20 = .ok (.istore_n 1, 1) := by decide +kernel
theorem dX3_greatestRound_21 : decode cX3_greatestRound 21 = .ok (.iinc 2 1, 3) := by decide +kernel
theorem dX3_greatestRound_24 : decode cX3_greatestRound 24 = .ok (.goto (-20), 3) := by decide +kernel
theorem dX3_greatestRound_27 : decode cX3_greatestRound 27 = .ok (.iload_n 1, 1) := by decide +kernel
theorem dX3_greatestRound_28 : decode cX3_greatestRound 28 = .ok (.ireturn, 1) := by decide +kernel
theorem dX3_propertyOfKey_0 : decode cX3_propertyOfKey 0 = .ok (.iload_n 3, 1) := by decide +kernel
theorem dX3_propertyOfKey_1 : decode cX3_propertyOfKey 1 = .ok (.ifCond .ne 10, 3) := by decide +kernel
theorem dX3_propertyOfKey_4 : decode cX3_propertyOfKey 4 = .ok (.aload_n 0, 1) := by decide +kernel
theorem dX3_propertyOfKey_5 : decode cX3_propertyOfKey 5 = .ok (.iload_n 1, 1) := by decide +kernel
theorem dX3_propertyOfKey_6 : decode cX3_propertyOfKey 6 = .ok (.iload_n 2, 1) := by decide +kernel
theorem dX3_propertyOfKey_7 : decode cX3_propertyOfKey 7 = .ok (.invokevirtual 46, 3) := by decide +kernel
theorem dX3_propertyOfKey_10 : decode cX3_propertyOfKey 10 = .ok (.ireturn, 1) := by decide +kernel
theorem dX3_propertyOfKey_11 : decode cX3_propertyOfKey 11 = .ok (.iload_n 3, 1) := by decide +kernel
theorem dX3_propertyOfKey_12 : decode cX3_propertyOfKey 12 = .ok (.iconst 1, 1) := by decide +kernel
theorem dX3_propertyOfKey_13 : decode cX3_propertyOfKey 13 = .ok (.if_icmp .ne 10, 3) := by decide +kernel
theorem dX3_propertyOfKey_16 : decode cX3_propertyOfKey 16 = .ok (.aload_n 0, 1) := by decide +kernel
theorem dX3_propertyOfKey_17 : decode cX3_propertyOfKey 17 = .ok (.iload_n 1, 1) := by decide +kernel
theorem dX3_propertyOfKey_18 : decode cX3_propertyOfKey 18 = .ok (.iload_n 2, 1) := by decide +kernel
theorem dX3_propertyOfKey_19 : decode cX3_propertyOfKey 19 = .ok (.invokevirtual 67, 3) := by decide +kernel
theorem dX3_propertyOfKey_22 : decode cX3_propertyOfKey 22 = .ok (.ireturn, 1) := by decide +kernel
theorem dX3_propertyOfKey_23 : decode cX3_propertyOfKey 23 = .ok (.aload_n 0, 1) := by decide +kernel
theorem dX3_propertyOfKey_24 : decode cX3_propertyOfKey 24 = .ok (.iload_n 1, 1) := by decide +kernel
theorem dX3_propertyOfKey_25 : decode cX3_propertyOfKey 25 = .ok (.iload_n 2, 1) := by decide +kernel
theorem dX3_propertyOfKey_26 : decode cX3_propertyOfKey 26 = .ok (.invokevirtual 46, 3) := by decide +kernel
theorem dX3_propertyOfKey_29 : decode cX3_propertyOfKey 29 = .ok (.iconst 2, 1) := by decide +kernel
theorem dX3_propertyOfKey_30 : decode cX3_propertyOfKey 30 = .ok (.if_icmp .eq 5, 3) := by decide +kernel
theorem dX3_propertyOfKey_33 : decode cX3_propertyOfKey 33 = .ok (.iconst (-1), 1) := by decide +kernel
theorem dX3_propertyOfKey_34 : decode cX3_propertyOfKey 34 = .ok (.ireturn, 1) := by decide +kernel
theorem dX3_propertyOfKey_35 : decode cX3_propertyOfKey 35 = .ok (.iload_n 3, 1) := by decide +kernel
theorem dX3_propertyOfKey_36 : decode cX3_propertyOfKey 36 = .ok (.iconst 2, 1) := by decide +kernel
theorem dX3_propertyOfKey_37 : decode cX3_propertyOfKey 37 = .ok (.if_icmp .ne 15, 3) := by decide +kernel
theorem dX3_propertyOfKey_40 : decode cX3_propertyOfKey 40 = .ok (.aload_n 0, 1) := by decide +kernel
theorem dX3_propertyOfKey_41 : decode cX3_propertyOfKey 41 = .ok (.getfield 21, 3) := by decide +kernel
theorem dX3_propertyOfKey_44 : decode cX3_propertyOfKey 44 = .ok (.iload_n 1, 1) := by decide +kernel
theorem dX3_propertyOfKey_45 : decode cX3_propertyOfKey 45 = .ok (.bipush 16, 2) := by decide +kernel
theorem dX3_propertyOfKey_47 : decode cX3_propertyOfKey 47 = .ok (.imul, 1) := by decide +kernel
theorem dX3_propertyOfKey_48 : decode cX3_propertyOfKey 48 = .ok (.iload_n 2, 1) := by decide +kernel
theorem dX3_propertyOfKey_49 : decode cX3_propertyOfKey 49 = .ok (.iadd, 1) := by decide +kernel
theorem dX3_propertyOfKey_50 : decode cX3_propertyOfKey 50 = .ok (.iaload, 1) := by decide +kernel
theorem dX3_propertyOfKey_51 : decode cX3_propertyOfKey 51 = .ok (.ireturn, 1) := by decide +kernel
theorem dX3_propertyOfKey_52 : decode cX3_propertyOfKey 52 = .ok (.iload_n 3, 1) := by decide +kernel
theorem dX3_propertyOfKey_53 : decode cX3_propertyOfKey 53 = .ok (.iconst 3, 1) := by decide +kernel
theorem dX3_propertyOfKey_54 : decode cX3_propertyOfKey 54 = .ok (.if_icmp .ne 12, 3) := by decide +kernel
theorem dX3_propertyOfKey_57 : decode cX3_propertyOfKey 57 = .ok (.aload_n 0, 1) := by decide +kernel
theorem dX3_propertyOfKey_58 : decode cX3_propertyOfKey 58 = .ok (.iload_n 1, 1) := by decide +kernel
theorem dX3_propertyOfKey_59 : decode cX3_propertyOfKey 59 = .ok (.iload_n 2, 1) := by decide +kernel
theorem dX3_propertyOfKey_60 : decode cX3_propertyOfKey 60 = .ok (.invokevirtual 37, 3) := by decide +kernel
theorem dX3_propertyOfKey_63 : decode cX3_propertyOfKey 63 = .ok (.goto 9, 3) := by decide +kernel
theorem dX3_propertyOfKey_66 : decode cX3_propertyOfKey 66 = .ok (.aload_n 0, 1) := by decide +kernel
theorem dX3_propertyOfKey_67 : decode cX3_propertyOfKey 67 = .ok (.iload_n 1, 1) := by decide +kernel
theorem dX3_propertyOfKey_68 : decode cX3_propertyOfKey 68 = .ok (.iload_n 2, 1) := by decide +kernel
theorem dX3_propertyOfKey_69 : decode cX3_propertyOfKey 69 = .ok (.invokevirtual 74, 3) := by decide +kernel
theorem dX3_propertyOfKey_72 : decode cX3_propertyOfKey 72 = .ok (.ireturn, 1) := by decide +kernel
theorem dX3_daysToKey_0 : decode cX3_daysToKey 0 = .ok (.aload_n 0, 1) := by decide +kernel
theorem dX3_daysToKey_1 : decode cX3_daysToKey 1 = .ok (.iload_n 1, 1) := by decide +kernel
theorem dX3_daysToKey_2 : decode cX3_daysToKey 2 = .ok (.iconst 0, 1) := by decide +kernel
theorem dX3_daysToKey_3 : decode cX3_daysToKey 3 = .ok (.invokevirtual 57, 3) := by decide +kernel
theorem dX3_daysToKey_6 : decode cX3_daysToKey 6 = .ok (.ifCond .le 5, 3) := by decide +kernel
theorem dX3_daysToKey_9 : decode cX3_daysToKey 9 = .ok (.iconst 0, 1) := by decide +kernel
theorem dX3_daysToKey_10 : decode cX3_daysToKey 10 = .ok (.ireturn, 1) := by decide +kernel
theorem dX3_daysToKey_11 : decode cX3_daysToKey 11 = .ok (.iconst (-1), 1) := by decide +kernel
theorem dX3_daysToKey_12 : decode cX3_daysToKey 12 = .ok (.istore_n 2, 1) := by decide +kernel
theorem dX3_daysToKey_13 : decode cX3_daysToKey 13 = .ok (.iconst 0, 1) := by decide +kernel
theorem dX3_daysToKey_14 : decode cX3_daysToKey 14 = .ok (.istore_n 3, 1) := by decide +kernel
theorem dX3_daysToKey_15 : decode cX3_daysToKey 15 = .ok (.iload_n 3, 1) := by decide +kernel
theorem dX3_daysToKey_16 : decode cX3_daysToKey 16 = .ok (.bipush 16, 2) := by decide +kernel
theorem dX3_daysToKey_18 : decode cX3_daysToKey 18 = .ok (.if_icmp .ge 44, 3) := by decide +kernel
theorem dX3_daysToKey_21 : decode cX3_daysToKey 21 = .ok (.aload_n 0, 1) := by decide +kernel
theorem dX3_daysToKey_22 : decode cX3_daysToKey 22 = .ok (.iload_n 1, 1) := by decide +kernel
theorem dX3_daysToKey_23 : decode cX3_daysToKey 23 = .ok (.iload_n 3, 1) := by decide +kernel
theorem dX3_daysToKey_24 : decode cX3_daysToKey 24 = .ok (.invokevirtual 46, 3) := by decide +kernel
theorem dX3_daysToKey_27 : decode cX3_daysToKey 27 = .ok (.iconst 2, 1) := by decide +kernel
theorem dX3_daysToKey_28 : decode cX3_daysToKey 28 = .ok (.if_icmp .eq 6, 3) := by decide +kernel
theorem dX3_daysToKey_31 : decode cX3_daysToKey 31 = .ok (.goto 25, 3) := by decide +kernel
theorem dX3_daysToKey_34 : decode cX3_daysToKey 34 = .ok (.aload_n 0, 1) := by decide +kernel
theorem dX3_daysToKey_35 : decode cX3_daysToKey 35 = .ok (.iload_n 1, 1) := by decide +kernel
theorem dX3_daysToKey_36 : decode cX3_daysToKey 36 = .ok (.iload_n 3, 1) := by decide +kernel
theorem dX3_daysToKey_37 : decode cX3_daysToKey 37 = .ok (.invokevirtual 74, 3) := by decide +kernel
theorem dX3_daysToKey_40 : decode cX3_daysToKey 40 = .ok (.istore 4, 2) := by decide +kernel
theorem dX3_daysToKey_42 : decode cX3_daysToKey 42 = .ok (.iload_n 2, 1) := by decide +kernel
theorem dX3_daysToKey_43 : decode cX3_daysToKey 43 = .ok (.iconst (-1), 1) := by decide +kernel
theorem dX3_daysToKey_44 : decode cX3_daysToKey 44 = .ok (.if_icmp .eq 9, 3) := by decide +kernel
theorem dX3_daysToKey_47 : decode cX3_daysToKey 47 = .ok (.iload 4, 2) := by decide +kernel
theorem dX3_daysToKey_49 : decode cX3_daysToKey 49 = .ok (.iload_n 2, 1) := by decide +kernel
theorem dX3_daysToKey_50 : decode cX3_daysToKey 50 = .ok (.if_icmp .ge 6, 3) := by decide +kernel
theorem dX3_daysToKey_53 : decode cX3_daysToKey 53 = .ok (.iload 4, 2) := by decide +kernel
theorem dX3_daysToKey_55 : decode cX3_daysToKey 55 = .ok (.istore_n 2, 1) := by decide +kernel
theorem dX3_daysToKey_56 : decode cX3_daysToKey 56 = .ok (.iinc 3 1, 3) := by decide +kernel
theorem dX3_daysToKey_59 : decode cX3_daysToKey 59 = .ok (.goto (-44), 3) := by decide +kernel
theorem dX3_daysToKey_62 : decode cX3_daysToKey 62 = .ok (.iload_n 2, 1) := by decide +kernel
theorem dX3_daysToKey_63 : decode cX3_daysToKey 63 = .ok (.ireturn, 1) := by decide +kernel
theorem dX3_longestSeason_0 : decode cX3_longestSeason 0 = .ok (.aload_n 0, 1) := by decide +kernel
theorem dX3_longestSeason_1 : decode cX3_longestSeason 1 = .ok (.iload_n 1, 1) := by decide +kernel
theorem dX3_longestSeason_2 : decode cX3_longestSeason 2 = .ok (.iconst 0, 1) := by decide +kernel
theorem dX3_longestSeason_3 : decode cX3_longestSeason 3 = .ok (.invokevirtual 57, 3) := by decide +kernel
theorem dX3_longestSeason_6 : decode cX3_longestSeason 6 = .ok (.ifCond .le 6, 3) := by decide +kernel
theorem dX3_longestSeason_9 : decode cX3_longestSeason 9 = .ok (.bipush 99, 2) := by decide +kernel
theorem dX3_longestSeason_11 : decode cX3_longestSeason 11 = .ok (.ireturn, 1) := by decide +kernel
theorem dX3_longestSeason_12 : decode cX3_longestSeason 12 = .ok (.iconst (-1), 1) := by decide +kernel
theorem dX3_longestSeason_13 : decode cX3_longestSeason 13 = .ok (.istore_n 2, 1) := by decide +kernel
theorem dX3_longestSeason_14 : decode cX3_longestSeason 14 = .ok (.iconst 0, 1) := by decide +kernel
theorem dX3_longestSeason_15 : decode cX3_longestSeason 15 = .ok (.istore_n 3, 1) := by decide +kernel
theorem dX3_longestSeason_16 : decode cX3_longestSeason 16 = .ok (.iload_n 3, 1) := by decide +kernel
theorem dX3_longestSeason_17 : decode cX3_longestSeason 17 = .ok (.bipush 16, 2) := by decide +kernel
theorem dX3_longestSeason_19 : decode cX3_longestSeason 19 = .ok (.if_icmp .ge 30, 3) := by decide +kernel
theorem dX3_longestSeason_22 : decode cX3_longestSeason 22 = .ok (.aload_n 0, 1) := by decide +kernel
theorem dX3_longestSeason_23 : decode cX3_longestSeason 23 = .ok (.iload_n 1, 1) := by decide +kernel
theorem dX3_longestSeason_24 : decode cX3_longestSeason 24 = .ok (.iload_n 3, 1) := by decide +kernel
theorem dX3_longestSeason_25 : decode cX3_longestSeason 25 = .ok (.invokevirtual 46, 3) := by decide +kernel
theorem dX3_longestSeason_28 : decode cX3_longestSeason 28 = .ok (.iconst 2, 1) := by decide +kernel
theorem dX3_longestSeason_29 : decode cX3_longestSeason 29 = .ok (.if_icmp .ne 14, 3) := by decide +kernel
theorem dX3_longestSeason_32 : decode cX3_longestSeason 32 = .ok (.iload_n 2, 1) := by decide +kernel
theorem dX3_longestSeason_33 : decode cX3_longestSeason 33 = .ok (.aload_n 0, 1) := by decide +kernel
theorem dX3_longestSeason_34 : decode cX3_longestSeason 34 = .ok (.iload_n 1, 1) := by decide +kernel
theorem dX3_longestSeason_35 : decode cX3_longestSeason 35 = .ok (.iload_n 3, 1) := by decide +kernel
theorem dX3_longestSeason_36 : decode cX3_longestSeason 36 = .ok (.invokevirtual 37, 3) := by decide +kernel
theorem dX3_longestSeason_39 : decode cX3_longestSeason 39 = .ok (.invokestatic 41, 3) := by decide +kernel
theorem dX3_longestSeason_42 : decode cX3_longestSeason 42 = .ok (.istore_n 2, 1) := by decide +kernel
theorem dX3_longestSeason_43 : decode cX3_longestSeason 43 = .ok (.iinc 3 1, 3) := by decide +kernel
theorem dX3_longestSeason_46 : decode cX3_longestSeason 46 = .ok (.goto (-30), 3) := by decide +kernel
theorem dX3_longestSeason_49 : decode cX3_longestSeason 49 = .ok (.iload_n 2, 1) := by decide +kernel
theorem dX3_longestSeason_50 : decode cX3_longestSeason 50 = .ok (.bipush 99, 2) := by decide +kernel
theorem dX3_longestSeason_52 : decode cX3_longestSeason 52 = .ok (.invokestatic 77, 3) := by decide +kernel
theorem dX3_longestSeason_55 : decode cX3_longestSeason 55 = .ok (.ireturn, 1) := by decide +kernel
theorem dX3_scarcestKind_0 : decode cX3_scarcestKind 0 = .ok (.iconst 0, 1) := by decide +kernel
theorem dX3_scarcestKind_1 : decode cX3_scarcestKind 1 = .ok (.istore_n 1, 1) := by decide +kernel
theorem dX3_scarcestKind_2 : decode cX3_scarcestKind 2 = .ok (.bipush 17, 2) := by decide +kernel
theorem dX3_scarcestKind_4 : decode cX3_scarcestKind 4 = .ok (.istore_n 2, 1) := by decide +kernel
theorem dX3_scarcestKind_5 : decode cX3_scarcestKind 5 = .ok (.iconst 0, 1) := by decide +kernel
theorem dX3_scarcestKind_6 : decode cX3_scarcestKind 6 = .ok (.istore_n 3, 1) := by decide +kernel
theorem dX3_scarcestKind_7 : decode cX3_scarcestKind 7 = .ok (.iload_n 3, 1) := by decide +kernel
theorem dX3_scarcestKind_8 : decode cX3_scarcestKind 8 = .ok (.iconst 4, 1) := by decide +kernel
theorem dX3_scarcestKind_9 : decode cX3_scarcestKind 9 = .ok (.if_icmp .ge 34, 3) := by decide +kernel
theorem dX3_scarcestKind_12 : decode cX3_scarcestKind 12 = .ok (.aload_n 0, 1) := by decide +kernel
theorem dX3_scarcestKind_13 : decode cX3_scarcestKind 13 = .ok (.iload_n 3, 1) := by decide +kernel
theorem dX3_scarcestKind_14 : decode cX3_scarcestKind 14 = .ok (.iconst 0, 1) := by decide +kernel
theorem dX3_scarcestKind_15 : decode cX3_scarcestKind 15 = .ok (.invokevirtual 57, 3) := by decide +kernel
theorem dX3_scarcestKind_18 : decode cX3_scarcestKind 18 = .ok (.aload_n 0, 1) := by decide +kernel
theorem dX3_scarcestKind_19 : decode cX3_scarcestKind 19 = .ok (.iload_n 3, 1) := by decide +kernel
theorem dX3_scarcestKind_20 : decode cX3_scarcestKind 20 = .ok (.invokevirtual 70, 3) := by decide +kernel
theorem dX3_scarcestKind_23 : decode cX3_scarcestKind 23 = .ok (.iadd, 1) := by decide +kernel
theorem dX3_scarcestKind_24 : decode cX3_scarcestKind 24 = .ok (.istore 4, 2) := by decide +kernel
theorem dX3_scarcestKind_26 : decode cX3_scarcestKind 26 = .ok (.iload 4, 2) := by decide +kernel
theorem dX3_scarcestKind_28 : decode cX3_scarcestKind 28 = .ok (.iload_n 2, 1) := by decide +kernel
theorem dX3_scarcestKind_29 : decode cX3_scarcestKind 29 = .ok (.if_icmp .ge 8, 3) := by decide +kernel
theorem dX3_scarcestKind_32 : decode cX3_scarcestKind 32 = .ok (.iload_n 3, 1) := by decide +kernel
theorem dX3_scarcestKind_33 : decode cX3_scarcestKind 33 = .ok (.istore_n 1, 1) := by decide +kernel
theorem dX3_scarcestKind_34 : decode cX3_scarcestKind 34 = .ok (.iload 4, 2) := by decide +kernel
theorem dX3_scarcestKind_36 : decode cX3_scarcestKind 36 = .ok (.istore_n 2, 1) := by decide +kernel
theorem dX3_scarcestKind_37 : decode cX3_scarcestKind 37 = .ok (.iinc 3 1, 3) := by decide +kernel
theorem dX3_scarcestKind_40 : decode cX3_scarcestKind 40 = .ok (.goto (-33), 3) := by decide +kernel
theorem dX3_scarcestKind_43 : decode cX3_scarcestKind 43 = .ok (.iload_n 1, 1) := by decide +kernel
theorem dX3_scarcestKind_44 : decode cX3_scarcestKind 44 = .ok (.ireturn, 1) := by decide +kernel
theorem dX3_shareOfRipe_0 : decode cX3_shareOfRipe 0 = .ok (.aload_n 0, 1) := by decide +kernel
theorem dX3_shareOfRipe_1 : decode cX3_shareOfRipe 1 = .ok (.iconst 2, 1) := by decide +kernel
theorem dX3_shareOfRipe_2 : decode cX3_shareOfRipe 2 = .ok (.invokevirtual 80, 3) := by decide +kernel
theorem dX3_shareOfRipe_5 : decode cX3_shareOfRipe 5 = .ok (.istore_n 1, 1) := by decide +kernel
theorem dX3_shareOfRipe_6 : decode cX3_shareOfRipe 6 = .ok (.iload_n 1, 1) := by decide +kernel
theorem dX3_shareOfRipe_7 : decode cX3_shareOfRipe 7 = .ok (.ifCond .ne 7, 3) := by decide +kernel
theorem dX3_shareOfRipe_10 : decode cX3_shareOfRipe 10 = .ok (.dconst 1, 1) := by decide +kernel
theorem dX3_shareOfRipe_11 : decode cX3_shareOfRipe 11 = .ok (.goto 11, 3) := by decide +kernel
theorem dX3_shareOfRipe_14 : decode cX3_shareOfRipe 14 = .ok (.aload_n 0, 1) := by decide +kernel
theorem dX3_shareOfRipe_15 : decode cX3_shareOfRipe 15 = .ok (.invokevirtual 83, 3) := by decide +kernel
theorem dX3_shareOfRipe_18 : decode cX3_shareOfRipe 18 = .ok (.i2d, 1) := by decide +kernel
theorem dX3_shareOfRipe_19 : decode cX3_shareOfRipe 19 = .ok (.iload_n 1, 1) := by decide +kernel
theorem dX3_shareOfRipe_20 : decode cX3_shareOfRipe 20 = .ok (.i2d, 1) := by decide +kernel
theorem dX3_shareOfRipe_21 : decode cX3_shareOfRipe 21 = .ok (.ddiv, 1) := by decide +kernel
theorem dX3_shareOfRipe_22 : decode cX3_shareOfRipe 22 = .ok (.dreturn, 1) := by decide +kernel
theorem dX3_meanDays_0 : decode cX3_meanDays 0 = .ok (.iconst 0, 1) := by decide +kernel
theorem dX3_meanDays_1 : decode cX3_meanDays 1 = .ok (.istore_n 2, 1) := by decide +kernel
theorem dX3_meanDays_2 : decode cX3_meanDays 2 = .ok (.iconst 0, 1) := by decide +kernel
theorem dX3_meanDays_3 : decode cX3_meanDays 3 = .ok (.istore_n 3, 1) := by decide +kernel
theorem dX3_meanDays_4 : decode cX3_meanDays 4 = .ok (.iconst 0, 1) := by decide +kernel
theorem dX3_meanDays_5 : decode cX3_meanDays 5 = .ok (.istore 4, 2) := by decide +kernel
theorem dX3_meanDays_7 : decode cX3_meanDays 7 = .ok (.iload 4, 2) := by decide +kernel
theorem dX3_meanDays_9 : decode cX3_meanDays 9 = .ok (.bipush 16, 2) := by decide +kernel
theorem dX3_meanDays_11 : decode cX3_meanDays 11 = .ok (.if_icmp .ge 33, 3) := by decide +kernel
theorem dX3_meanDays_14 : decode cX3_meanDays 14 = .ok (.aload_n 0, 1) := by decide +kernel
theorem dX3_meanDays_15 : decode cX3_meanDays 15 = .ok (.iload_n 1, 1) := by decide +kernel
theorem dX3_meanDays_16 : decode cX3_meanDays 16 = .ok (.iload 4, 2) := by decide +kernel
theorem dX3_meanDays_18 : decode cX3_meanDays 18 = .ok (.invokevirtual 46, 3) := by decide +kernel
theorem dX3_meanDays_21 : decode cX3_meanDays 21 = .ok (.iconst 2, 1) := by decide +kernel
theorem dX3_meanDays_22 : decode cX3_meanDays 22 = .ok (.if_icmp .ne 16, 3) := by decide +kernel
theorem dX3_meanDays_25 : decode cX3_meanDays 25 = .ok (.iinc 2 1, 3) := by decide +kernel
theorem dX3_meanDays_28 : decode cX3_meanDays 28 = .ok (.iload_n 3, 1) := by decide +kernel
theorem dX3_meanDays_29 : decode cX3_meanDays 29 = .ok (.aload_n 0, 1) := by decide +kernel
theorem dX3_meanDays_30 : decode cX3_meanDays 30 = .ok (.iload_n 1, 1) := by decide +kernel
theorem dX3_meanDays_31 : decode cX3_meanDays 31 = .ok (.iload 4, 2) := by decide +kernel
theorem dX3_meanDays_33 : decode cX3_meanDays 33 = .ok (.invokevirtual 37, 3) := by decide +kernel
theorem dX3_meanDays_36 : decode cX3_meanDays 36 = .ok (.iadd, 1) := by decide +kernel
theorem dX3_meanDays_37 : decode cX3_meanDays 37 = .ok (.istore_n 3, 1) := by decide +kernel
theorem dX3_meanDays_38 : decode cX3_meanDays 38 = .ok (.iinc 4 1, 3) := by decide +kernel
theorem dX3_meanDays_41 : decode cX3_meanDays 41 = .ok (.goto (-34), 3) := by decide +kernel
theorem dX3_meanDays_44 : decode cX3_meanDays 44 = .ok (.iload_n 2, 1) := by decide +kernel
theorem dX3_meanDays_45 : decode cX3_meanDays 45 = .ok (.ifCond .ne 7, 3) := by decide +kernel
theorem dX3_meanDays_48 : decode cX3_meanDays 48 = .ok (.fconst 0, 1) := by decide +kernel
theorem dX3_meanDays_49 : decode cX3_meanDays 49 = .ok (.goto 8, 3) := by decide +kernel
theorem dX3_meanDays_52 : decode cX3_meanDays 52 = .ok (.iload_n 3, 1) := by decide +kernel
theorem dX3_meanDays_53 : decode cX3_meanDays 53 = .ok (.i2f, 1) := by decide +kernel
theorem dX3_meanDays_54 : decode cX3_meanDays 54 = .ok (.iload_n 2, 1) := by decide +kernel
theorem dX3_meanDays_55 : decode cX3_meanDays 55 = .ok (.i2f, 1) := by decide +kernel
theorem dX3_meanDays_56 : decode cX3_meanDays 56 = .ok (.fdiv, 1) := by decide +kernel
theorem dX3_meanDays_57 : decode cX3_meanDays 57 = .ok (.freturn, 1) := by decide +kernel
theorem dX4_init_0 : decode cX4_init 0 = .ok (.aload_n 0, 1) := by decide +kernel
theorem dX4_init_1 : decode cX4_init 1 = .ok (.invokespecial 3, 3) := by decide +kernel
theorem dX4_init_4 : decode cX4_init 4 = .ok (.aload_n 0, 1) := by decide +kernel
theorem dX4_init_5 : decode cX4_init 5 = .ok (.bipush 6, 2) := by decide +kernel
theorem dX4_init_7 : decode cX4_init 7 = .ok (.anewarray 9, 3) := by decide +kernel
theorem dX4_init_10 : decode cX4_init 10 = .ok (.putfield 11, 3) := by decide +kernel
theorem dX4_init_13 : decode cX4_init 13 = .ok (.iconst 0, 1) := by decide +kernel
theorem dX4_init_14 : decode cX4_init 14 = .ok (.istore_n 1, 1) := by decide +kernel
theorem dX4_init_15 : decode cX4_init 15 = .ok (.iload_n 1, 1) := by decide +kernel
theorem dX4_init_16 : decode cX4_init 16 = .ok (.bipush 6, 2) := by decide +kernel
theorem dX4_init_18 : decode cX4_init 18 = .ok (.if_icmp .ge 22, 3) := by decide +kernel
theorem dX4_init_21 : decode cX4_init 21 = .ok (.aload_n 0, 1) := by decide +kernel
theorem dX4_init_22 : decode cX4_init 22 = .ok (.getfield 11, 3) := by decide +kernel
theorem dX4_init_25 : decode cX4_init 25 = .ok (.iload_n 1, 1) := by decide +kernel
theorem dX4_init_26 : decode cX4_init 26 = .ok (.new 9, 3) := by decide +kernel
theorem dX4_init_29 : decode cX4_init 29 = .ok (.dup, 1) := by decide +kernel
theorem dX4_init_30 : decode cX4_init 30 = .ok (.invokespecial 17, 3) := by decide +kernel
theorem dX4_init_33 : decode cX4_init 33 = .ok (.aastore, 1) := by decide +kernel
theorem dX4_init_34 : decode cX4_init 34 = .ok (.iinc 1 1, 3) := by decide +kernel
theorem dX4_init_37 : decode cX4_init 37 = .ok (.goto (-22), 3) := by decide +kernel
theorem dX4_init_40 : decode cX4_init 40 = .ok (.return_, 1) := by decide +kernel
theorem dX4_push_0 : decode cX4_push 0 = .ok (.aload_n 0, 1) := by decide +kernel
theorem dX4_push_1 : decode cX4_push 1 = .ok (.getfield 18, 3) := by decide +kernel
theorem dX4_push_4 : decode cX4_push 4 = .ok (.bipush 6, 2) := by decide +kernel
theorem dX4_push_6 : decode cX4_push 6 = .ok (.if_icmp .lt 7, 3) := by decide +kernel
theorem dX4_push_9 : decode cX4_push 9 = .ok (.aload_n 0, 1) := by decide +kernel
theorem dX4_push_10 : decode cX4_push 10 = .ok (.invokevirtual 22, 3) := by decide +kernel
theorem dX4_push_13 : decode cX4_push 13 = .ok (.aload_n 1, 1) := by decide +kernel
theorem dX4_push_14 : decode cX4_push 14 = .ok (.aload_n 0, 1) := by decide +kernel
theorem dX4_push_15 : decode cX4_push 15 = .ok (.getfield 11, 3) := by decide +kernel
theorem dX4_push_18 : decode cX4_push 18 = .ok (.aload_n 0, 1) := by decide +kernel
theorem dX4_push_19 : decode cX4_push 19 = .ok (.getfield 18, 3) := by decide +kernel
theorem dX4_push_22 : decode cX4_push 22 = .ok (.aaload, 1) := by decide +kernel
theorem dX4_push_23 : decode cX4_push 23 = .ok (.invokestatic 25, 3) := by decide +kernel
theorem dX4_push_26 : decode cX4_push 26 = .ok (.aload_n 0, 1) := by decide +kernel
theorem dX4_push_27 : decode cX4_push 27 = .ok (.dup, 1) := by decide +kernel
theorem dX4_push_28 : decode cX4_push 28 = .ok (.getfield 18, 3) := by decide +kernel
theorem dX4_push_31 : decode cX4_push 31 = .ok (.iconst 1, 1) := by decide +kernel
theorem dX4_push_32 : decode cX4_push 32 = .ok (.iadd, 1) := by decide +kernel
theorem dX4_push_33 : decode cX4_push 33 = .ok (.putfield 18, 3) := by decide +kernel
theorem dX4_push_36 : decode cX4_push 36 = .ok (.return_, 1) := by decide +kernel
theorem dX4_dropOldest_0 : decode cX4_dropOldest 0 = .ok (.aload_n 0, 1) := by decide +kernel
theorem dX4_dropOldest_1 : decode cX4_dropOldest 1 = .ok (.getfield 11, 3) := by decide +kernel
theorem dX4_dropOldest_4 : decode cX4_dropOldest 4 = .ok (.iconst 0, 1) := by decide +kernel
theorem dX4_dropOldest_5 : decode cX4_dropOldest 5 = .ok (.aaload, 1) := by decide +kernel
theorem dX4_dropOldest_6 : decode cX4_dropOldest 6 = .ok (.astore_n 1, 1) := by decide +kernel
theorem dX4_dropOldest_7 : decode cX4_dropOldest 7 = .ok (.iconst 1, 1) := by decide +kernel
theorem dX4_dropOldest_8 : decode cX4_dropOldest 8 = .ok (.istore_n 2, 1) := by decide +kernel
theorem dX4_dropOldest_9 : decode cX4_dropOldest 9 = .ok (.iload_n 2, 1) := by decide +kernel
theorem dX4_dropOldest_10 : decode cX4_dropOldest 10 = .ok (.bipush 6, 2) := by decide +kernel
theorem dX4_dropOldest_12 : decode cX4_dropOldest 12 = .ok (.if_icmp .ge 23, 3) := by decide +kernel
theorem dX4_dropOldest_15 : decode cX4_dropOldest 15 = .ok (.aload_n 0, 1) := by decide +kernel
theorem dX4_dropOldest_16 : decode cX4_dropOldest 16 = .ok (.getfield 11, 3) := by decide +kernel
theorem dX4_dropOldest_19 : decode cX4_dropOldest 19 = .ok (.iload_n 2, 1) := by decide +kernel
theorem dX4_dropOldest_20 : decode cX4_dropOldest 20 = .ok (.iconst 1, 1) := by decide +kernel
theorem dX4_dropOldest_21 : decode cX4_dropOldest 21 = .ok (.isub, 1) := by decide +kernel
theorem dX4_dropOldest_22 : decode cX4_dropOldest 22 = .ok (.aload_n 0, 1) := by decide +kernel
theorem dX4_dropOldest_23 : decode cX4_dropOldest 23 = .ok (.getfield 11, 3) := by decide +kernel
theorem dX4_dropOldest_26 : decode cX4_dropOldest 26 = .ok (.iload_n 2, 1) := by decide +kernel
theorem dX4_dropOldest_27 : decode cX4_dropOldest 27 = .ok (.aaload, 1) := by decide +kernel
theorem dX4_dropOldest_28 : decode cX4_dropOldest 28 = .ok (.aastore, 1) := by decide +kernel
theorem dX4_dropOldest_29 : decode cX4_dropOldest 29 = .ok (.iinc 2 1, 3) := by decide +kernel
theorem dX4_dropOldest_32 : decode cX4_dropOldest 32 = .ok (.goto (-23), 3) := by decide +kernel
theorem dX4_dropOldest_35 : decode cX4_dropOldest 35 = .ok (.aload_n 0, 1) := by decide +kernel
theorem dX4_dropOldest_36 : decode cX4_dropOldest 36 = .ok (.getfield 11, 3) := by decide +kernel
theorem dX4_dropOldest_39 : decode cX4_dropOldest 39 = .ok (.iconst 5, 1) := by decide +kernel
theorem dX4_dropOldest_40 : decode cX4_dropOldest 40 = .ok (.aload_n 1, 1) := by decide +kernel
theorem dX4_dropOldest_41 : decode cX4_dropOldest 41 = .ok (.aastore, 1) := by decide +kernel
theorem dX4_dropOldest_42 : decode cX4_dropOldest 42 = .ok (.aload_n 0, 1) := by decide +kernel
theorem dX4_dropOldest_43 : decode cX4_dropOldest 43 = .ok (.iconst 5, 1) := by decide +kernel
theorem dX4_dropOldest_44 : decode cX4_dropOldest 44 = .ok (.putfield 18, 3) := by decide +kernel
theorem dX4_dropOldest_47 : decode cX4_dropOldest 47 = .ok (.return_, 1) := by decide +kernel
theorem dX4_popInto_0 : decode cX4_popInto 0 = .ok (.aload_n 0, 1) := by decide +kernel
theorem dX4_popInto_1 : decode cX4_popInto 1 = .ok (.getfield 18, 3) := by decide +kernel
theorem dX4_popInto_4 : decode cX4_popInto 4 = .ok (.ifCond .gt 4, 3) := by decide +kernel
theorem dX4_popInto_7 : decode cX4_popInto 7 = .ok (.return_, 1) := by decide +kernel
theorem dX4_popInto_8 : decode cX4_popInto 8 = .ok (.aload_n 0, 1) := by decide +kernel
theorem dX4_popInto_9 : decode cX4_popInto 9 = .ok (.dup, 1) := by decide +kernel
theorem dX4_popInto_10 : decode cX4_popInto 10 = .ok (.getfield 18, 3) := by decide +kernel
theorem dX4_popInto_13 : decode cX4_popInto 13 = .ok (.iconst 1, 1) := by decide +kernel
theorem dX4_popInto_14 : decode cX4_popInto 14 = .ok (.isub, 1) := by decide +kernel
theorem dX4_popInto_15 : decode cX4_popInto 15 = .ok (.putfield 18, 3) := by decide +kernel
theorem dX4_popInto_18 : decode cX4_popInto 18 = .ok (.aload_n 0, 1) := by decide +kernel
theorem dX4_popInto_19 : decode cX4_popInto 19 = .ok (.getfield 11, 3) := by decide +kernel
theorem dX4_popInto_22 : decode cX4_popInto 22 = .ok (.aload_n 0, 1) := by decide +kernel
theorem dX4_popInto_23 : decode cX4_popInto 23 = .ok (.getfield 18, 3) := by decide +kernel
theorem dX4_popInto_26 : decode cX4_popInto 26 = .ok (.aaload, 1) := by decide +kernel
theorem dX4_popInto_27 : decode cX4_popInto 27 = .ok (.aload_n 1, 1) := by decide +kernel
theorem dX4_popInto_28 : decode cX4_popInto 28 = .ok (.invokestatic 25, 3) := by decide +kernel
theorem dX4_popInto_31 : decode cX4_popInto 31 = .ok (.return_, 1) := by decide +kernel
theorem dX5_init_0 : decode cX5_init 0 = .ok (.aload_n 0, 1) := by decide +kernel
theorem dX5_init_1 : decode cX5_init 1 = .ok (.invokespecial 1, 3) := by decide +kernel
theorem dX5_init_4 : decode cX5_init 4 = .ok (.aload_n 0, 1) := by decide +kernel
theorem dX5_init_5 : decode cX5_init 5 = .ok (.new 7, 3) := by decide +kernel
theorem dX5_init_8 : decode cX5_init 8 = .ok (.dup, 1) := by decide +kernel
theorem dX5_init_9 : decode cX5_init 9 = .ok (.invokespecial 9, 3) := by decide +kernel
theorem dX5_init_12 : decode cX5_init 12 = .ok (.putfield 10, 3) := by decide +kernel
theorem dX5_init_15 : decode cX5_init 15 = .ok (.aload_n 0, 1) := by decide +kernel
theorem dX5_init_16 : decode cX5_init 16 = .ok (.new 16, 3) := by decide +kernel
theorem dX5_init_19 : decode cX5_init 19 = .ok (.dup, 1) := by decide +kernel
theorem dX5_init_20 : decode cX5_init 20 = .ok (.invokespecial 18, 3) := by decide +kernel
theorem dX5_init_23 : decode cX5_init 23 = .ok (.putfield 19, 3) := by decide +kernel
theorem dX5_init_26 : decode cX5_init 26 = .ok (.aload_n 0, 1) := by decide +kernel
theorem dX5_init_27 : decode cX5_init 27 = .ok (.iconst 2, 1) := by decide +kernel
theorem dX5_init_28 : decode cX5_init 28 = .ok (.anewarray 7, 3) := by decide +kernel
theorem dX5_init_31 : decode cX5_init 31 = .ok (.putfield 23, 3) := by decide +kernel
theorem dX5_init_34 : decode cX5_init 34 = .ok (.iconst 0, 1) := by decide +kernel
theorem dX5_init_35 : decode cX5_init 35 = .ok (.istore_n 1, 1) := by decide +kernel
theorem dX5_init_36 : decode cX5_init 36 = .ok (.iload_n 1, 1) := by decide +kernel
theorem dX5_init_37 : decode cX5_init 37 = .ok (.iconst 2, 1) := by decide +kernel
theorem dX5_init_38 : decode cX5_init 38 = .ok (.if_icmp .ge 22, 3) := by decide +kernel
theorem dX5_init_41 : decode cX5_init 41 = .ok (.aload_n 0, 1) := by decide +kernel
theorem dX5_init_42 : decode cX5_init 42 = .ok (.getfield 23, 3) := by decide +kernel
theorem dX5_init_45 : decode cX5_init 45 = .ok (.iload_n 1, 1) := by decide +kernel
theorem dX5_init_46 : decode cX5_init 46 = .ok (.new 7, 3) := by decide +kernel
theorem dX5_init_49 : decode cX5_init 49 = .ok (.dup, 1) := by decide +kernel
theorem dX5_init_50 : decode cX5_init 50 = .ok (.invokespecial 9, 3) := by decide +kernel
theorem dX5_init_53 : decode cX5_init 53 = .ok (.aastore, 1) := by decide +kernel
theorem dX5_init_54 : decode cX5_init 54 = .ok (.iinc 1 1, 3) := by decide +kernel
theorem dX5_init_57 : decode cX5_init 57 = .ok (.goto (-21), 3) := by decide +kernel
theorem dX5_init_60 : decode cX5_init 60 = .ok (.aload_n 0, 1) := by decide +kernel
theorem dX5_init_61 : decode cX5_init 61 = .ok (.iconst 2, 1) := by decide +kernel
theorem dX5_init_62 : decode cX5_init 62 = .ok (.newarray .boolean, 2) := by decide +kernel
theorem dX5_init_64 : decode cX5_init 64 = .ok (.putfield 27, 3) := by decide +kernel
theorem dX5_init_67 : decode cX5_init 67 = .ok (.aload_n 0, 1) := by decide +kernel
theorem dX5_init_68 : decode cX5_init 68 = .ok (.new 31, 3) := by decide +kernel
theorem dX5_init_71 : decode cX5_init 71 = .ok (.dup, 1) := by decide +kernel
theorem dX5_init_72 : decode cX5_init 72 = .ok (.invokespecial 33, 3) := by decide +kernel
theorem dX5_init_75 : decode cX5_init 75 = .ok (.putfield 34, 3) := by decide +kernel
theorem dX5_init_78 : decode cX5_init 78 = .ok (.return_, 1) := by decide +kernel
theorem dX5_ask_0 : decode cX5_ask 0 = .ok (.iload_n 1, 1) := by decide +kernel
theorem dX5_ask_1 : decode cX5_ask 1 = .ok (.invokestatic 38, 3) := by decide +kernel
theorem dX5_ask_4 : decode cX5_ask 4 = .ok (.aload_n 0, 1) := by decide +kernel
theorem dX5_ask_5 : decode cX5_ask 5 = .ok (.getfield 19, 3) := by decide +kernel
theorem dX5_ask_8 : decode cX5_ask 8 = .ok (.aload_n 0, 1) := by decide +kernel
theorem dX5_ask_9 : decode cX5_ask 9 = .ok (.getfield 10, 3) := by decide +kernel
theorem dX5_ask_12 : decode cX5_ask 12 = .ok (.invokevirtual 42, 3) := by decide +kernel
theorem dX5_ask_15 : decode cX5_ask 15 = .ok (.aload_n 0, 1) := by decide +kernel
theorem dX5_ask_16 : decode cX5_ask 16 = .ok (.getfield 10, 3) := by decide +kernel
theorem dX5_ask_19 : decode cX5_ask 19 = .ok (.iload_n 1, 1) := by decide +kernel
theorem dX5_ask_20 : decode cX5_ask 20 = .ok (.invokevirtual 46, 3) := by decide +kernel
theorem dX5_ask_23 : decode cX5_ask 23 = .ok (.ireturn, 1) := by decide +kernel
theorem dX5_want_0 : decode cX5_want 0 = .ok (.iload_n 1, 1) := by decide +kernel
theorem dX5_want_1 : decode cX5_want 1 = .ok (.iload_n 2, 1) := by decide +kernel
theorem dX5_want_2 : decode cX5_want 2 = .ok (.invokestatic 50, 3) := by decide +kernel
theorem dX5_want_5 : decode cX5_want 5 = .ok (.aload_n 0, 1) := by decide +kernel
theorem dX5_want_6 : decode cX5_want 6 = .ok (.getfield 19, 3) := by decide +kernel
theorem dX5_want_9 : decode cX5_want 9 = .ok (.aload_n 0, 1) := by decide +kernel
theorem dX5_want_10 : decode cX5_want 10 = .ok (.getfield 10, 3) := by decide +kernel
theorem dX5_want_13 : decode cX5_want 13 = .ok (.invokevirtual 42, 3) := by decide +kernel
theorem dX5_want_16 : decode cX5_want 16 = .ok (.aload_n 0, 1) := by decide +kernel
theorem dX5_want_17 : decode cX5_want 17 = .ok (.getfield 10, 3) := by decide +kernel
theorem dX5_want_20 : decode cX5_want 20 = .ok (.iload_n 1, 1) := by decide +kernel
theorem dX5_want_21 : decode cX5_want 21 = .ok (.iload_n 2, 1) := by decide +kernel
theorem dX5_want_22 : decode cX5_want 22 = .ok (.invokevirtual 54, 3) := by decide +kernel
theorem dX5_want_25 : decode cX5_want 25 = .ok (.ireturn, 1) := by decide +kernel
theorem dX5_delete_0 : decode cX5_delete 0 = .ok (.iload_n 1, 1) := by decide +kernel
theorem dX5_delete_1 : decode cX5_delete 1 = .ok (.iload_n 2, 1) := by decide +kernel
theorem dX5_delete_2 : decode cX5_delete 2 = .ok (.invokestatic 50, 3) := by decide +kernel
theorem dX5_delete_5 : decode cX5_delete 5 = .ok (.aload_n 0, 1) := by decide +kernel
theorem dX5_delete_6 : decode cX5_delete 6 = .ok (.getfield 10, 3) := by decide +kernel
theorem dX5_delete_9 : decode cX5_delete 9 = .ok (.iload_n 1, 1) := by decide +kernel
theorem dX5_delete_10 : decode cX5_delete 10 = .ok (.iload_n 2, 1) := by decide +kernel
theorem dX5_delete_11 : decode cX5_delete 11 = .ok (.invokevirtual 58, 3) := by decide +kernel
theorem dX5_delete_14 : decode cX5_delete 14 = .ok (.ifCond .ne 13, 3) := by decide +kernel
theorem dX5_delete_17 : decode cX5_delete 17 = .ok (.new 62, 3) := by decide +kernel
theorem dX5_delete_20 : decode cX5_delete 20 = .ok (.dup, 1) := by decide +kernel
theorem dX5_delete_21 : decode cX5_delete 21 = .ok (.ldc 64, 2) := by decide +kernel
theorem dX5_delete_23 : decode cX5_delete 23 = .ok (.invokespecial 66, 3) := by decide +kernel
theorem dX5_delete_26 : decode cX5_delete 26 = .ok (.athrow, 1) := by decide +kernel
theorem dX5_delete_27 : decode cX5_delete 27 = .ok (.aload_n 0, 1) := by decide +kernel
theorem dX5_delete_28 : decode cX5_delete 28 = .ok (.getfield 19, 3) := by decide +kernel
theorem dX5_delete_31 : decode cX5_delete 31 = .ok (.aload_n 0, 1) := by decide +kernel
theorem dX5_delete_32 : decode cX5_delete 32 = .ok (.getfield 10, 3) := by decide +kernel
theorem dX5_delete_35 : decode cX5_delete 35 = .ok (.invokevirtual 42, 3) := by decide +kernel
theorem dX5_delete_38 : decode cX5_delete 38 = .ok (.aload_n 0, 1) := by decide +kernel
theorem dX5_delete_39 : decode cX5_delete 39 = .ok (.getfield 10, 3) := by decide +kernel
theorem dX5_delete_42 : decode cX5_delete 42 = .ok (.iload_n 1, 1) := by decide +kernel
theorem dX5_delete_43 : decode cX5_delete 43 = .ok (.iload_n 2, 1) := by decide +kernel
theorem dX5_delete_44 : decode cX5_delete 44 = .ok (.invokevirtual 69, 3) := by decide +kernel
theorem dX5_delete_47 : decode cX5_delete 47 = .ok (.ireturn, 1) := by decide +kernel
theorem dX5_bringBack_0 : decode cX5_bringBack 0 = .ok (.iload_n 1, 1) := by decide +kernel
theorem dX5_bringBack_1 : decode cX5_bringBack 1 = .ok (.iload_n 2, 1) := by decide +kernel
theorem dX5_bringBack_2 : decode cX5_bringBack 2 = .ok (.invokestatic 50, 3) := by decide +kernel
theorem dX5_bringBack_5 : decode cX5_bringBack 5 = .ok (.aload_n 0, 1) := by decide +kernel
theorem dX5_bringBack_6 : decode cX5_bringBack 6 = .ok (.getfield 10, 3) := by decide +kernel
theorem dX5_bringBack_9 : decode cX5_bringBack 9 = .ok (.iload_n 1, 1) := by decide +kernel
theorem dX5_bringBack_10 : decode cX5_bringBack 10 = .ok (.iload_n 2, 1) := by decide +kernel
theorem dX5_bringBack_11 : decode cX5_bringBack 11 = .ok (.invokevirtual 72, 3) := by decide +kernel
theorem dX5_bringBack_14 : decode cX5_bringBack 14 = .ok (.ifCond .ne 13, 3) := by decide +kernel
theorem dX5_bringBack_17 : decode cX5_bringBack 17 = .ok (.new 62, 3) := by decide +kernel
theorem dX5_bringBack_20 : decode cX5_bringBack 20 = .ok (.dup, 1) := by decide +kernel
theorem dX5_bringBack_21 : decode cX5_bringBack 21 = .ok (.ldc 75, 2) := by decide +kernel
theorem dX5_bringBack_23 : decode cX5_bringBack 23 = .ok (.invokespecial 66, 3) := by decide +kernel
theorem dX5_bringBack_26 : decode cX5_bringBack 26 = .ok (.athrow, 1) := by decide +kernel
theorem dX5_bringBack_27 : decode cX5_bringBack 27 = .ok (.aload_n 0, 1) := by decide +kernel
theorem dX5_bringBack_28 : decode cX5_bringBack 28 = .ok (.getfield 19, 3) := by decide +kernel
theorem dX5_bringBack_31 : decode cX5_bringBack 31 = .ok (.aload_n 0, 1) := by decide +kernel
theorem dX5_bringBack_32 : decode cX5_bringBack 32 = .ok (.getfield 10, 3) := by decide +kernel
theorem dX5_bringBack_35 : decode cX5_bringBack 35 = .ok (.invokevirtual 42, 3) := by decide +kernel
theorem dX5_bringBack_38 : decode cX5_bringBack 38 = .ok (.aload_n 0, 1) := by decide +kernel
theorem dX5_bringBack_39 : decode cX5_bringBack 39 = .ok (.getfield 10, 3) := by decide +kernel
theorem dX5_bringBack_42 : decode cX5_bringBack 42 = .ok (.iload_n 1, 1) := by decide +kernel
theorem dX5_bringBack_43 : decode cX5_bringBack 43 = .ok (.iload_n 2, 1) := by decide +kernel
theorem dX5_bringBack_44 : decode cX5_bringBack 44 = .ok (.invokevirtual 77, 3) := by decide +kernel
theorem dX5_bringBack_47 : decode cX5_bringBack 47 = .ok (.ireturn, 1) := by decide +kernel
theorem dX5_turn_0 : decode cX5_turn 0 = .ok (.iload_n 1, 1) := by decide +kernel
theorem dX5_turn_1 : decode cX5_turn 1 = .ok (.invokestatic 38, 3) := by decide +kernel
theorem dX5_turn_4 : decode cX5_turn 4 = .ok (.aload_n 0, 1) := by decide +kernel
theorem dX5_turn_5 : decode cX5_turn 5 = .ok (.getfield 19, 3) := by decide +kernel
theorem dX5_turn_8 : decode cX5_turn 8 = .ok (.aload_n 0, 1) := by decide +kernel
theorem dX5_turn_9 : decode cX5_turn 9 = .ok (.getfield 10, 3) := by decide +kernel
theorem dX5_turn_12 : decode cX5_turn 12 = .ok (.invokevirtual 42, 3) := by decide +kernel
theorem dX5_turn_15 : decode cX5_turn 15 = .ok (.aload_n 0, 1) := by decide +kernel
theorem dX5_turn_16 : decode cX5_turn 16 = .ok (.getfield 10, 3) := by decide +kernel
theorem dX5_turn_19 : decode cX5_turn 19 = .ok (.getfield 80, 3) := by decide +kernel
theorem dX5_turn_22 : decode cX5_turn 22 = .ok (.iload_n 1, 1) := by decide +kernel
theorem dX5_turn_23 : decode cX5_turn 23 = .ok (.invokevirtual 84, 3) := by decide +kernel
theorem dX5_turn_26 : decode cX5_turn 26 = .ok (.aload_n 0, 1) := by decide +kernel
theorem dX5_turn_27 : decode cX5_turn 27 = .ok (.getfield 10, 3) := by decide +kernel
theorem dX5_turn_30 : decode cX5_turn 30 = .ok (.getfield 80, 3) := by decide +kernel
theorem dX5_turn_33 : decode cX5_turn 33 = .ok (.iload_n 1, 1) := by decide +kernel
theorem dX5_turn_34 : decode cX5_turn 34 = .ok (.iconst 0, 1) := by decide +kernel
theorem dX5_turn_35 : decode cX5_turn 35 = .ok (.invokevirtual 89, 3) := by decide +kernel
theorem dX5_turn_38 : decode cX5_turn 38 = .ok (.ireturn, 1) := by decide +kernel
theorem dX5_follow_0 : decode cX5_follow 0 = .ok (.iload_n 1, 1) := by decide +kernel
theorem dX5_follow_1 : decode cX5_follow 1 = .ok (.iload_n 2, 1) := by decide +kernel
theorem dX5_follow_2 : decode cX5_follow 2 = .ok (.invokestatic 50, 3) := by decide +kernel
theorem dX5_follow_5 : decode cX5_follow 5 = .ok (.iload_n 3, 1) := by decide +kernel
theorem dX5_follow_6 : decode cX5_follow 6 = .ok (.iconst 1, 1) := by decide +kernel
theorem dX5_follow_7 : decode cX5_follow 7 = .ok (.invokestatic 92, 3) := by decide +kernel
theorem dX5_follow_10 : decode cX5_follow 10 = .ok (.aload_n 0, 1) := by decide +kernel
theorem dX5_follow_11 : decode cX5_follow 11 = .ok (.getfield 19, 3) := by decide +kernel
theorem dX5_follow_14 : decode cX5_follow 14 = .ok (.aload_n 0, 1) := by decide +kernel
theorem dX5_follow_15 : decode cX5_follow 15 = .ok (.getfield 10, 3) := by decide +kernel
theorem dX5_follow_18 : decode cX5_follow 18 = .ok (.invokevirtual 42, 3) := by decide +kernel
theorem dX5_follow_21 : decode cX5_follow 21 = .ok (.aload_n 0, 1) := by decide +kernel
theorem dX5_follow_22 : decode cX5_follow 22 = .ok (.getfield 10, 3) := by decide +kernel
theorem dX5_follow_25 : decode cX5_follow 25 = .ok (.iload_n 1, 1) := by decide +kernel
theorem dX5_follow_26 : decode cX5_follow 26 = .ok (.iload_n 2, 1) := by decide +kernel
theorem dX5_follow_27 : decode cX5_follow 27 = .ok (.iload_n 3, 1) := by decide +kernel
theorem dX5_follow_28 : decode cX5_follow 28 = .ok (.invokevirtual 95, 3) := by decide +kernel
theorem dX5_follow_31 : decode cX5_follow 31 = .ok (.ireturn, 1) := by decide +kernel
theorem dX5_pass_0 : decode cX5_pass 0 = .ok (.iload_n 1, 1) := by decide +kernel
theorem dX5_pass_1 : decode cX5_pass 1 = .ok (.iconst 1, 1) := by decide +kernel
theorem dX5_pass_2 : decode cX5_pass 2 = .ok (.bipush 99, 2) := by decide +kernel
theorem dX5_pass_4 : decode cX5_pass 4 = .ok (.invokestatic 99, 3) := by decide +kernel
theorem dX5_pass_7 : decode cX5_pass 7 = .ok (.aload_n 0, 1) := by decide +kernel
theorem dX5_pass_8 : decode cX5_pass 8 = .ok (.getfield 10, 3) := by decide +kernel
theorem dX5_pass_11 : decode cX5_pass 11 = .ok (.getfield 80, 3) := by decide +kernel
theorem dX5_pass_14 : decode cX5_pass 14 = .ok (.iload_n 1, 1) := by decide +kernel
theorem dX5_pass_15 : decode cX5_pass 15 = .ok (.invokevirtual 103, 3) := by decide +kernel
theorem dX5_pass_18 : decode cX5_pass 18 = .ok (.ifCond .ne 13, 3) := by decide +kernel
theorem dX5_pass_21 : decode cX5_pass 21 = .ok (.new 62, 3) := by decide +kernel
theorem dX5_pass_24 : decode cX5_pass 24 = .ok (.dup, 1) := by decide +kernel
theorem dX5_pass_25 : decode cX5_pass 25 = .ok (.ldc 107, 2) := by decide +kernel
theorem dX5_pass_27 : decode cX5_pass 27 = .ok (.invokespecial 66, 3) := by decide +kernel
theorem dX5_pass_30 : decode cX5_pass 30 = .ok (.athrow, 1) := by decide +kernel
theorem dX5_pass_31 : decode cX5_pass 31 = .ok (.aload_n 0, 1) := by decide +kernel
theorem dX5_pass_32 : decode cX5_pass 32 = .ok (.getfield 19, 3) := by decide +kernel
theorem dX5_pass_35 : decode cX5_pass 35 = .ok (.aload_n 0, 1) := by decide +kernel
theorem dX5_pass_36 : decode cX5_pass 36 = .ok (.getfield 10, 3) := by decide +kernel
theorem dX5_pass_39 : decode cX5_pass 39 = .ok (.invokevirtual 42, 3) := by decide +kernel
theorem dX5_pass_42 : decode cX5_pass 42 = .ok (.aload_n 0, 1) := by decide +kernel
theorem dX5_pass_43 : decode cX5_pass 43 = .ok (.getfield 10, 3) := by decide +kernel
theorem dX5_pass_46 : decode cX5_pass 46 = .ok (.getfield 80, 3) := by decide +kernel
theorem dX5_pass_49 : decode cX5_pass 49 = .ok (.iload_n 1, 1) := by decide +kernel
theorem dX5_pass_50 : decode cX5_pass 50 = .ok (.invokevirtual 109, 3) := by decide +kernel
theorem dX5_pass_53 : decode cX5_pass 53 = .ok (.aload_n 0, 1) := by decide +kernel
theorem dX5_pass_54 : decode cX5_pass 54 = .ok (.getfield 10, 3) := by decide +kernel
theorem dX5_pass_57 : decode cX5_pass 57 = .ok (.getfield 80, 3) := by decide +kernel
theorem dX5_pass_60 : decode cX5_pass 60 = .ok (.invokevirtual 112, 3) := by decide +kernel
theorem dX5_pass_63 : decode cX5_pass 63 = .ok (.ireturn, 1) := by decide +kernel
theorem dX5_season_0 : decode cX5_season 0 = .ok (.iload_n 1, 1) := by decide +kernel
theorem dX5_season_1 : decode cX5_season 1 = .ok (.invokestatic 38, 3) := by decide +kernel
theorem dX5_season_4 : decode cX5_season 4 = .ok (.iload_n 2, 1) := by decide +kernel
theorem dX5_season_5 : decode cX5_season 5 = .ok (.iconst 0, 1) := by decide +kernel
theorem dX5_season_6 : decode cX5_season 6 = .ok (.bipush 99, 2) := by decide +kernel
theorem dX5_season_8 : decode cX5_season 8 = .ok (.invokestatic 99, 3) := by decide +kernel
theorem dX5_season_11 : decode cX5_season 11 = .ok (.aload_n 0, 1) := by decide +kernel
theorem dX5_season_12 : decode cX5_season 12 = .ok (.getfield 19, 3) := by decide +kernel
theorem dX5_season_15 : decode cX5_season 15 = .ok (.aload_n 0, 1) := by decide +kernel
theorem dX5_season_16 : decode cX5_season 16 = .ok (.getfield 10, 3) := by decide +kernel
theorem dX5_season_19 : decode cX5_season 19 = .ok (.invokevirtual 42, 3) := by decide +kernel
theorem dX5_season_22 : decode cX5_season 22 = .ok (.aload_n 0, 1) := by decide +kernel
theorem dX5_season_23 : decode cX5_season 23 = .ok (.getfield 10, 3) := by decide +kernel
theorem dX5_season_26 : decode cX5_season 26 = .ok (.getfield 80, 3) := by decide +kernel
theorem dX5_season_29 : decode cX5_season 29 = .ok (.getfield 116, 3) := by decide +kernel
theorem dX5_season_32 : decode cX5_season 32 = .ok (.iload_n 1, 1) := by decide +kernel
theorem dX5_season_33 : decode cX5_season 33 = .ok (.iaload, 1) := by decide +kernel
theorem dX5_season_34 : decode cX5_season 34 = .ok (.istore_n 3, 1) := by decide +kernel
theorem dX5_season_35 : decode cX5_season 35 = .ok (.aload_n 0, 1) := by decide +kernel
theorem dX5_season_36 : decode cX5_season 36 = .ok (.getfield 10, 3) := by decide +kernel
theorem dX5_season_39 : decode cX5_season 39 = .ok (.getfield 80, 3) := by decide +kernel
theorem dX5_season_42 : decode cX5_season 42 = .ok (.getfield 116, 3) := by decide +kernel
theorem dX5_season_45 : decode cX5_season 45 = .ok (.iload_n 1, 1) := by decide +kernel
theorem dX5_season_46 : decode cX5_season 46 = .ok (.iload_n 2, 1) := by decide +kernel
theorem dX5_season_47 : decode cX5_season 47 = .ok (.iastore, 1) := by decide +kernel
theorem dX5_season_48 : decode cX5_season 48 = .ok (.iload_n 3, 1) := by decide +kernel
theorem dX5_season_49 : decode cX5_season 49 = .ok (.ireturn, 1) := by decide +kernel
theorem dX5_set_0 : decode cX5_set 0 = .ok (.iload_n 1, 1) := by decide +kernel
theorem dX5_set_1 : decode cX5_set 1 = .ok (.invokestatic 120, 3) := by decide +kernel
theorem dX5_set_4 : decode cX5_set 4 = .ok (.iload_n 2, 1) := by decide +kernel
theorem dX5_set_5 : decode cX5_set 5 = .ok (.getstatic 123, 3) := by decide +kernel
theorem dX5_set_8 : decode cX5_set 8 = .ok (.iload_n 1, 1) := by decide +kernel
theorem dX5_set_9 : decode cX5_set 9 = .ok (.iaload, 1) := by decide +kernel
theorem dX5_set_10 : decode cX5_set 10 = .ok (.getstatic 126, 3) := by decide +kernel
theorem dX5_set_13 : decode cX5_set 13 = .ok (.iload_n 1, 1) := by decide +kernel
theorem dX5_set_14 : decode cX5_set 14 = .ok (.iaload, 1) := by decide +kernel
theorem dX5_set_15 : decode cX5_set 15 = .ok (.invokestatic 99, 3) := by decide +kernel
theorem dX5_set_18 : decode cX5_set 18 = .ok (.aload_n 0, 1) := by decide +kernel
theorem dX5_set_19 : decode cX5_set 19 = .ok (.getfield 19, 3) := by decide +kernel
theorem dX5_set_22 : decode cX5_set 22 = .ok (.aload_n 0, 1) := by decide +kernel
theorem dX5_set_23 : decode cX5_set 23 = .ok (.getfield 10, 3) := by decide +kernel
theorem dX5_set_26 : decode cX5_set 26 = .ok (.invokevirtual 42, 3) := by decide +kernel
theorem dX5_set_29 : decode cX5_set 29 = .ok (.aload_n 0, 1) := by decide +kernel
theorem dX5_set_30 : decode cX5_set 30 = .ok (.getfield 10, 3) := by decide +kernel
theorem dX5_set_33 : decode cX5_set 33 = .ok (.getfield 129, 3) := by decide +kernel
theorem dX5_set_36 : decode cX5_set 36 = .ok (.iload_n 1, 1) := by decide +kernel
theorem dX5_set_37 : decode cX5_set 37 = .ok (.iaload, 1) := by decide +kernel
theorem dX5_set_38 : decode cX5_set 38 = .ok (.istore_n 3, 1) := by decide +kernel
theorem dX5_set_39 : decode cX5_set 39 = .ok (.aload_n 0, 1) := by decide +kernel
theorem dX5_set_40 : decode cX5_set 40 = .ok (.getfield 10, 3) := by decide +kernel
theorem dX5_set_43 : decode cX5_set 43 = .ok (.getfield 129, 3) := by decide +kernel
theorem dX5_set_46 : decode cX5_set 46 = .ok (.iload_n 1, 1) := by decide +kernel
theorem dX5_set_47 : decode cX5_set 47 = .ok (.iload_n 2, 1) := by decide +kernel
theorem dX5_set_48 : decode cX5_set 48 = .ok (.iastore, 1) := by decide +kernel
theorem dX5_set_49 : decode cX5_set 49 = .ok (.iload_n 3, 1) := by decide +kernel
theorem dX5_set_50 : decode cX5_set 50 = .ok (.ireturn, 1) := by decide +kernel
theorem dX5_append_0 : decode cX5_append 0 = .ok (.iload_n 1, 1) := by decide +kernel
theorem dX5_append_1 : decode cX5_append 1 = .ok (.bipush 33, 2) := by decide +kernel
theorem dX5_append_3 : decode cX5_append 3 = .ok (.bipush 126, 2) := by decide +kernel
theorem dX5_append_5 : decode cX5_append 5 = .ok (.invokestatic 99, 3) := by decide +kernel
theorem dX5_append_8 : decode cX5_append 8 = .ok (.aload_n 0, 1) := by decide +kernel
theorem dX5_append_9 : decode cX5_append 9 = .ok (.getfield 34, 3) := by decide +kernel
theorem dX5_append_12 : decode cX5_append 12 = .ok (.invokevirtual 132, 3) := by decide +kernel
theorem dX5_append_15 : decode cX5_append 15 = .ok (.ifCond .eq 13, 3) := by decide +kernel
theorem dX5_append_18 : decode cX5_append 18 = .ok (.new 62, 3) := by decide +kernel
theorem dX5_append_21 : decode cX5_append 21 = .ok (.dup, 1) := by decide +kernel
theorem dX5_append_22 : decode cX5_append 22 = .ok (.ldc 136, 2) := by decide +kernel
theorem dX5_append_24 : decode cX5_append 24 = .ok (.invokespecial 66, 3) := by decide +kernel
theorem dX5_append_27 : decode cX5_append 27 = .ok (.athrow, 1) := by decide +kernel
theorem dX5_append_28 : decode cX5_append 28 = .ok (.aload_n 0, 1) := by decide +kernel
theorem dX5_append_29 : decode cX5_append 29 = .ok (.getfield 34, 3) := by decide +kernel
theorem dX5_append_32 : decode cX5_append 32 = .ok (.iload_n 1, 1) := by decide +kernel
theorem dX5_append_33 : decode cX5_append 33 = .ok (.invokevirtual 138, 3) := by decide +kernel
theorem dX5_append_36 : decode cX5_append 36 = .ok (.aload_n 0, 1) := by decide +kernel
theorem dX5_append_37 : decode cX5_append 37 = .ok (.getfield 34, 3) := by decide +kernel
theorem dX5_append_40 : decode cX5_append 40 = .ok (.getfield 141, 3) := by decide +kernel
theorem dX5_append_43 : decode cX5_append 43 = .ok (.ireturn, 1) := by decide +kernel
theorem dX5_clearBuffer_0 : decode cX5_clearBuffer 0 = .ok (.aload_n 0, 1) := by decide +kernel
theorem dX5_clearBuffer_1 : decode cX5_clearBuffer 1 = .ok (.getfield 34, 3) := by decide +kernel
theorem dX5_clearBuffer_4 : decode cX5_clearBuffer 4 = .ok (.getfield 141, 3) := by decide +kernel
theorem dX5_clearBuffer_7 : decode cX5_clearBuffer 7 = .ok (.istore_n 1, 1) := by decide +kernel
theorem dX5_clearBuffer_8 : decode cX5_clearBuffer 8 = .ok (.aload_n 0, 1) := by decide +kernel
theorem dX5_clearBuffer_9 : decode cX5_clearBuffer 9 = .ok (.getfield 34, 3) := by decide +kernel
theorem dX5_clearBuffer_12 : decode cX5_clearBuffer 12 = .ok (.iconst 0, 1) := by decide +kernel
theorem dX5_clearBuffer_13 : decode cX5_clearBuffer 13 = .ok (.putfield 141, 3) := by decide +kernel
theorem dX5_clearBuffer_16 : decode cX5_clearBuffer 16 = .ok (.iload_n 1, 1) := by decide +kernel
theorem dX5_clearBuffer_17 : decode cX5_clearBuffer 17 = .ok (.ireturn, 1) := by decide +kernel
theorem dX5_firstError_0 : decode cX5_firstError 0 = .ok (.aload_n 0, 1) := by decide +kernel
theorem dX5_firstError_1 : decode cX5_firstError 1 = .ok (.getfield 34, 3) := by decide +kernel
theorem dX5_firstError_4 : decode cX5_firstError 4 = .ok (.invokevirtual 145, 3) := by decide +kernel
theorem dX5_firstError_7 : decode cX5_firstError 7 = .ok (.ireturn, 1) := by decide +kernel
theorem dX5_run_0 : decode cX5_run 0 = .ok (.aload_n 0, 1) := by decide +kernel
theorem dX5_run_1 : decode cX5_run 1 = .ok (.getfield 34, 3) := by decide +kernel
theorem dX5_run_4 : decode cX5_run 4 = .ok (.invokevirtual 148, 3) := by decide +kernel
theorem dX5_run_7 : decode cX5_run 7 = .ok (.ifCond .ne 13, 3) := by decide +kernel
theorem dX5_run_10 : decode cX5_run 10 = .ok (.new 151, 3) := by decide +kernel
theorem dX5_run_13 : decode cX5_run 13 = .ok (.dup, 1) := by decide +kernel
theorem dX5_run_14 : decode cX5_run 14 = .ok (.ldc 153, 2) := by decide +kernel
theorem dX5_run_16 : decode cX5_run 16 = .ok (.invokespecial 155, 3) := by decide +kernel
theorem dX5_run_19 : decode cX5_run 19 = .ok (.athrow, 1) := by decide +kernel
theorem dX5_run_20 : decode cX5_run 20 = .ok (.aload_n 0, 1) := by decide +kernel
theorem dX5_run_21 : decode cX5_run 21 = .ok (.getfield 19, 3) := by decide +kernel
theorem dX5_run_24 : decode cX5_run 24 = .ok (.aload_n 0, 1) := by decide +kernel
theorem dX5_run_25 : decode cX5_run 25 = .ok (.getfield 10, 3) := by decide +kernel
theorem dX5_run_28 : decode cX5_run 28 = .ok (.invokevirtual 42, 3) := by decide +kernel
theorem dX5_run_31 : decode cX5_run 31 = .ok (.iconst 0, 1) := by decide +kernel
theorem dX5_run_32 : decode cX5_run 32 = .ok (.istore_n 1, 1) := by decide +kernel
theorem dX5_run_33 : decode cX5_run 33 = .ok (.iconst 0, 1) := by decide +kernel
theorem dX5_run_34 : decode cX5_run 34 = .ok (.istore_n 2, 1) := by decide +kernel
theorem dX5_run_35 : decode cX5_run 35 = .ok (.iload_n 2, 1) := by decide +kernel
theorem dX5_run_36 : decode cX5_run 36 = .ok (.aload_n 0, 1) := by decide +kernel
theorem dX5_run_37 : decode cX5_run 37 = .ok (.getfield 34, 3) := by decide +kernel
theorem dX5_run_40 : decode cX5_run 40 = .ok (.getfield 141, 3) := by decide +kernel
theorem dX5_run_43 : decode cX5_run 43 = .ok (.if_icmp .ge 37, 3) := by decide +kernel
theorem dX5_run_46 : decode cX5_run 46 = .ok (.aload_n 0, 1) := by decide +kernel
theorem dX5_run_47 : decode cX5_run 47 = .ok (.getfield 34, 3) := by decide +kernel
theorem dX5_run_50 : decode cX5_run 50 = .ok (.iload_n 2, 1) := by decide +kernel
theorem dX5_run_51 : decode cX5_run 51 = .ok (.invokevirtual 156, 3) := by decide +kernel
theorem dX5_run_54 : decode cX5_run 54 = .ok (.ifCond .ne 6, 3) := by decide +kernel
theorem dX5_run_57 : decode cX5_run 57 = .ok (.goto 17, 3) := by decide +kernel
theorem dX5_run_60 : decode cX5_run 60 = .ok (.aload_n 0, 1) := by decide +kernel
theorem dX5_run_61 : decode cX5_run 61 = .ok (.iload_n 2, 1) := by decide +kernel
theorem dX5_run_62 : decode cX5_run 62 = .ok (.invokevirtual 159, 3) := by decide +kernel
theorem dX5_run_65 : decode cX5_run 65 = .ok (.ifCond .ne 6, 3) := by decide +kernel
theorem dX5_run_68 : decode cX5_run 68 = .ok (.goto 12, 3) := by decide +kernel
theorem dX5_run_71 : decode cX5_run 71 = .ok (.iinc 1 1, 3) := by decide +kernel
theorem dX5_run_74 : decode cX5_run 74 = .ok (.iinc 2 1, 3) := by decide +kernel
theorem dX5_run_77 : decode cX5_run 77 = .ok (.goto (-42), 3) := by decide +kernel
theorem dX5_run_80 : decode cX5_run 80 = .ok (.aload_n 0, 1) := by decide +kernel
theorem dX5_run_81 : decode cX5_run 81 = .ok (.getfield 34, 3) := by decide +kernel
theorem dX5_run_84 : decode cX5_run 84 = .ok (.iconst 0, 1) := by decide +kernel
theorem dX5_run_85 : decode cX5_run 85 = .ok (.putfield 141, 3) := by decide +kernel
theorem dX5_run_88 : decode cX5_run 88 = .ok (.iload_n 1, 1) := by decide +kernel
theorem dX5_run_89 : decode cX5_run 89 = .ok (.ireturn, 1) := by decide +kernel
theorem dX5_keep_0 : decode cX5_keep 0 = .ok (.iload_n 1, 1) := by decide +kernel
theorem dX5_keep_1 : decode cX5_keep 1 = .ok (.iconst 0, 1) := by decide +kernel
theorem dX5_keep_2 : decode cX5_keep 2 = .ok (.iconst 1, 1) := by decide +kernel
theorem dX5_keep_3 : decode cX5_keep 3 = .ok (.invokestatic 99, 3) := by decide +kernel
theorem dX5_keep_6 : decode cX5_keep 6 = .ok (.aload_n 0, 1) := by decide +kernel
theorem dX5_keep_7 : decode cX5_keep 7 = .ok (.getfield 10, 3) := by decide +kernel
theorem dX5_keep_10 : decode cX5_keep 10 = .ok (.aload_n 0, 1) := by decide +kernel
theorem dX5_keep_11 : decode cX5_keep 11 = .ok (.getfield 23, 3) := by decide +kernel
theorem dX5_keep_14 : decode cX5_keep 14 = .ok (.iload_n 1, 1) := by decide +kernel
theorem dX5_keep_15 : decode cX5_keep 15 = .ok (.aaload, 1) := by decide +kernel
theorem dX5_keep_16 : decode cX5_keep 16 = .ok (.invokestatic 162, 3) := by decide +kernel
theorem dX5_keep_19 : decode cX5_keep 19 = .ok (.aload_n 0, 1) := by decide +kernel
theorem dX5_keep_20 : decode cX5_keep 20 = .ok (.getfield 27, 3) := by decide +kernel
theorem dX5_keep_23 : decode cX5_keep 23 = .ok (.iload_n 1, 1) := by decide +kernel
theorem dX5_keep_24 : decode cX5_keep 24 = .ok (.iconst 1, 1) := by decide +kernel
theorem dX5_keep_25 : decode cX5_keep 25 = .ok (.bastore, 1) := by decide +kernel
theorem dX5_keep_26 : decode cX5_keep 26 = .ok (.aload_n 0, 1) := by decide +kernel
theorem dX5_keep_27 : decode cX5_keep 27 = .ok (.getfield 10, 3) := by decide +kernel
theorem dX5_keep_30 : decode cX5_keep 30 = .ok (.getfield 80, 3) := by decide +kernel
theorem dX5_keep_33 : decode cX5_keep 33 = .ok (.getfield 166, 3) := by decide +kernel
theorem dX5_keep_36 : decode cX5_keep 36 = .ok (.ireturn, 1) := by decide +kernel
theorem dX5_goBack_0 : decode cX5_goBack 0 = .ok (.iload_n 1, 1) := by decide +kernel
theorem dX5_goBack_1 : decode cX5_goBack 1 = .ok (.iconst 0, 1) := by decide +kernel
theorem dX5_goBack_2 : decode cX5_goBack 2 = .ok (.iconst 1, 1) := by decide +kernel
theorem dX5_goBack_3 : decode cX5_goBack 3 = .ok (.invokestatic 99, 3) := by decide +kernel
theorem dX5_goBack_6 : decode cX5_goBack 6 = .ok (.aload_n 0, 1) := by decide +kernel
theorem dX5_goBack_7 : decode cX5_goBack 7 = .ok (.getfield 27, 3) := by decide +kernel
theorem dX5_goBack_10 : decode cX5_goBack 10 = .ok (.iload_n 1, 1) := by decide +kernel
theorem dX5_goBack_11 : decode cX5_goBack 11 = .ok (.baload, 1) := by decide +kernel
theorem dX5_goBack_12 : decode cX5_goBack 12 = .ok (.ifCond .ne 13, 3) := by decide +kernel
theorem dX5_goBack_15 : decode cX5_goBack 15 = .ok (.new 62, 3) := by decide +kernel
theorem dX5_goBack_18 : decode cX5_goBack 18 = .ok (.dup, 1) := by decide +kernel
theorem dX5_goBack_19 : decode cX5_goBack 19 = .ok (.ldc 169, 2) := by decide +kernel
theorem dX5_goBack_21 : decode cX5_goBack 21 = .ok (.invokespecial 66, 3) := by decide +kernel
theorem dX5_goBack_24 : decode cX5_goBack 24 = .ok (.athrow, 1) := by decide +kernel
theorem dX5_goBack_25 : decode cX5_goBack 25 = .ok (.aload_n 0, 1) := by decide +kernel
theorem dX5_goBack_26 : decode cX5_goBack 26 = .ok (.getfield 19, 3) := by decide +kernel
theorem dX5_goBack_29 : decode cX5_goBack 29 = .ok (.aload_n 0, 1) := by decide +kernel
theorem dX5_goBack_30 : decode cX5_goBack 30 = .ok (.getfield 10, 3) := by decide +kernel
theorem dX5_goBack_33 : decode cX5_goBack 33 = .ok (.invokevirtual 42, 3) := by decide +kernel
theorem dX5_goBack_36 : decode cX5_goBack 36 = .ok (.aload_n 0, 1) := by decide +kernel
theorem dX5_goBack_37 : decode cX5_goBack 37 = .ok (.getfield 23, 3) := by decide +kernel
theorem dX5_goBack_40 : decode cX5_goBack 40 = .ok (.iload_n 1, 1) := by decide +kernel
theorem dX5_goBack_41 : decode cX5_goBack 41 = .ok (.aaload, 1) := by decide +kernel
theorem dX5_goBack_42 : decode cX5_goBack 42 = .ok (.aload_n 0, 1) := by decide +kernel
theorem dX5_goBack_43 : decode cX5_goBack 43 = .ok (.getfield 10, 3) := by decide +kernel
theorem dX5_goBack_46 : decode cX5_goBack 46 = .ok (.invokestatic 162, 3) := by decide +kernel
theorem dX5_goBack_49 : decode cX5_goBack 49 = .ok (.aload_n 0, 1) := by decide +kernel
theorem dX5_goBack_50 : decode cX5_goBack 50 = .ok (.getfield 10, 3) := by decide +kernel
theorem dX5_goBack_53 : decode cX5_goBack 53 = .ok (.getfield 80, 3) := by decide +kernel
theorem dX5_goBack_56 : decode cX5_goBack 56 = .ok (.getfield 166, 3) := by decide +kernel
theorem dX5_goBack_59 : decode cX5_goBack 59 = .ok (.ireturn, 1) := by decide +kernel
theorem dX5_undo_0 : decode cX5_undo 0 = .ok (.aload_n 0, 1) := by decide +kernel
theorem dX5_undo_1 : decode cX5_undo 1 = .ok (.getfield 19, 3) := by decide +kernel
theorem dX5_undo_4 : decode cX5_undo 4 = .ok (.getfield 171, 3) := by decide +kernel
theorem dX5_undo_7 : decode cX5_undo 7 = .ok (.ifCond .ne 13, 3) := by decide +kernel
theorem dX5_undo_10 : decode cX5_undo 10 = .ok (.new 62, 3) := by decide +kernel
theorem dX5_undo_13 : decode cX5_undo 13 = .ok (.dup, 1) := by decide +kernel
theorem dX5_undo_14 : decode cX5_undo 14 = .ok (.ldc 174, 2) := by decide +kernel
theorem dX5_undo_16 : decode cX5_undo 16 = .ok (.invokespecial 66, 3) := by decide +kernel
theorem dX5_undo_19 : decode cX5_undo 19 = .ok (.athrow, 1) := by decide +kernel
theorem dX5_undo_20 : decode cX5_undo 20 = .ok (.aload_n 0, 1) := by decide +kernel
theorem dX5_undo_21 : decode cX5_undo 21 = .ok (.getfield 19, 3) := by decide +kernel
theorem dX5_undo_24 : decode cX5_undo 24 = .ok (.aload_n 0, 1) := by decide +kernel
theorem dX5_undo_25 : decode cX5_undo 25 = .ok (.getfield 10, 3) := by decide +kernel
theorem dX5_undo_28 : decode cX5_undo 28 = .ok (.invokevirtual 176, 3) := by decide +kernel
end
section
theorem dX5_undo_31 : decode cX5_undo 31 = .ok (.aload_n 0, 1) := by decide +kernel
theorem dX5_undo_32 : decode cX5_undo 32 = .ok (.getfield 19, 3) := by decide +kernel
theorem dX5_undo_35 : decode cX5_undo 35 = .ok (.getfield 171, 3) := by decide +kernel
theorem dX5_undo_38 : decode cX5_undo 38 = .ok (.ireturn, 1) := by decide +kernel
theorem dX5_keyOf_0 : decode cX5_keyOf 0 = .ok (.iload_n 1, 1) := by decide +kernel
theorem dX5_keyOf_1 : decode cX5_keyOf 1 = .ok (.iload_n 2, 1) := by decide +kernel
theorem dX5_keyOf_2 : decode cX5_keyOf 2 = .ok (.invokestatic 50, 3) := by decide +kernel
theorem dX5_keyOf_5 : decode cX5_keyOf 5 = .ok (.iload_n 3, 1) := by decide +kernel
theorem dX5_keyOf_6 : decode cX5_keyOf 6 = .ok (.iconst 0, 1) := by decide +kernel
theorem dX5_keyOf_7 : decode cX5_keyOf 7 = .ok (.iconst 4, 1) := by decide +kernel
theorem dX5_keyOf_8 : decode cX5_keyOf 8 = .ok (.invokestatic 99, 3) := by decide +kernel
theorem dX5_keyOf_11 : decode cX5_keyOf 11 = .ok (.aload_n 0, 1) := by decide +kernel
theorem dX5_keyOf_12 : decode cX5_keyOf 12 = .ok (.getfield 10, 3) := by decide +kernel
theorem dX5_keyOf_15 : decode cX5_keyOf 15 = .ok (.getfield 80, 3) := by decide +kernel
theorem dX5_keyOf_18 : decode cX5_keyOf 18 = .ok (.iload_n 1, 1) := by decide +kernel
theorem dX5_keyOf_19 : decode cX5_keyOf 19 = .ok (.iload_n 2, 1) := by decide +kernel
theorem dX5_keyOf_20 : decode cX5_keyOf 20 = .ok (.iload_n 3, 1) := by decide +kernel
theorem dX5_keyOf_21 : decode cX5_keyOf 21 = .ok (.invokevirtual 179, 3) := by decide +kernel
theorem dX5_keyOf_24 : decode cX5_keyOf 24 = .ok (.ireturn, 1) := by decide +kernel
theorem dX5_kindOf_0 : decode cX5_kindOf 0 = .ok (.iload_n 1, 1) := by decide +kernel
theorem dX5_kindOf_1 : decode cX5_kindOf 1 = .ok (.invokestatic 38, 3) := by decide +kernel
theorem dX5_kindOf_4 : decode cX5_kindOf 4 = .ok (.iload_n 2, 1) := by decide +kernel
theorem dX5_kindOf_5 : decode cX5_kindOf 5 = .ok (.iconst 0, 1) := by decide +kernel
theorem dX5_kindOf_6 : decode cX5_kindOf 6 = .ok (.bipush 10, 2) := by decide +kernel
theorem dX5_kindOf_8 : decode cX5_kindOf 8 = .ok (.invokestatic 99, 3) := by decide +kernel
theorem dX5_kindOf_11 : decode cX5_kindOf 11 = .ok (.aload_n 0, 1) := by decide +kernel
theorem dX5_kindOf_12 : decode cX5_kindOf 12 = .ok (.getfield 10, 3) := by decide +kernel
theorem dX5_kindOf_15 : decode cX5_kindOf 15 = .ok (.iload_n 1, 1) := by decide +kernel
theorem dX5_kindOf_16 : decode cX5_kindOf 16 = .ok (.iload_n 2, 1) := by decide +kernel
theorem dX5_kindOf_17 : decode cX5_kindOf 17 = .ok (.invokevirtual 182, 3) := by decide +kernel
theorem dX5_kindOf_20 : decode cX5_kindOf 20 = .ok (.ireturn, 1) := by decide +kernel
theorem dX5_pile_0 : decode cX5_pile 0 = .ok (.iload_n 1, 1) := by decide +kernel
theorem dX5_pile_1 : decode cX5_pile 1 = .ok (.invokestatic 38, 3) := by decide +kernel
theorem dX5_pile_4 : decode cX5_pile 4 = .ok (.iload_n 2, 1) := by decide +kernel
theorem dX5_pile_5 : decode cX5_pile 5 = .ok (.iconst 0, 1) := by decide +kernel
theorem dX5_pile_6 : decode cX5_pile 6 = .ok (.invokestatic 92, 3) := by decide +kernel
theorem dX5_pile_9 : decode cX5_pile 9 = .ok (.aload_n 0, 1) := by decide +kernel
theorem dX5_pile_10 : decode cX5_pile 10 = .ok (.getfield 10, 3) := by decide +kernel
theorem dX5_pile_13 : decode cX5_pile 13 = .ok (.getfield 80, 3) := by decide +kernel
theorem dX5_pile_16 : decode cX5_pile 16 = .ok (.iload_n 1, 1) := by decide +kernel
theorem dX5_pile_17 : decode cX5_pile 17 = .ok (.iload_n 2, 1) := by decide +kernel
theorem dX5_pile_18 : decode cX5_pile 18 = .ok (.invokevirtual 89, 3) := by decide +kernel
theorem dX5_pile_21 : decode cX5_pile 21 = .ok (.ireturn, 1) := by decide +kernel
theorem dX5_count_0 : decode cX5_count 0 = .ok (.iload_n 1, 1) := by decide +kernel
theorem dX5_count_1 : decode cX5_count 1 = .ok (.iconst 0, 1) := by decide +kernel
theorem dX5_count_2 : decode cX5_count 2 = .ok (.bipush 9, 2) := by decide +kernel
theorem dX5_count_4 : decode cX5_count 4 = .ok (.invokestatic 99, 3) := by decide +kernel
theorem dX5_count_7 : decode cX5_count 7 = .ok (.aload_n 0, 1) := by decide +kernel
theorem dX5_count_8 : decode cX5_count 8 = .ok (.iload_n 1, 1) := by decide +kernel
theorem dX5_count_9 : decode cX5_count 9 = .ok (.invokevirtual 185, 3) := by decide +kernel
theorem dX5_count_12 : decode cX5_count 12 = .ok (.ireturn, 1) := by decide +kernel
theorem dX5_setting_0 : decode cX5_setting 0 = .ok (.iload_n 1, 1) := by decide +kernel
theorem dX5_setting_1 : decode cX5_setting 1 = .ok (.invokestatic 120, 3) := by decide +kernel
theorem dX5_setting_4 : decode cX5_setting 4 = .ok (.aload_n 0, 1) := by decide +kernel
theorem dX5_setting_5 : decode cX5_setting 5 = .ok (.getfield 10, 3) := by decide +kernel
theorem dX5_setting_8 : decode cX5_setting 8 = .ok (.getfield 129, 3) := by decide +kernel
theorem dX5_setting_11 : decode cX5_setting 11 = .ok (.iload_n 1, 1) := by decide +kernel
theorem dX5_setting_12 : decode cX5_setting 12 = .ok (.iaload, 1) := by decide +kernel
theorem dX5_setting_13 : decode cX5_setting 13 = .ok (.ireturn, 1) := by decide +kernel
theorem dX5_ifAsked_0 : decode cX5_ifAsked 0 = .ok (.iload_n 1, 1) := by decide +kernel
theorem dX5_ifAsked_1 : decode cX5_ifAsked 1 = .ok (.invokestatic 38, 3) := by decide +kernel
theorem dX5_ifAsked_4 : decode cX5_ifAsked 4 = .ok (.aload_n 0, 1) := by decide +kernel
theorem dX5_ifAsked_5 : decode cX5_ifAsked 5 = .ok (.getfield 10, 3) := by decide +kernel
theorem dX5_ifAsked_8 : decode cX5_ifAsked 8 = .ok (.iload_n 1, 1) := by decide +kernel
theorem dX5_ifAsked_9 : decode cX5_ifAsked 9 = .ok (.invokevirtual 188, 3) := by decide +kernel
theorem dX5_ifAsked_12 : decode cX5_ifAsked 12 = .ok (.ireturn, 1) := by decide +kernel
theorem dX5_keyIn_0 : decode cX5_keyIn 0 = .ok (.iload_n 1, 1) := by decide +kernel
theorem dX5_keyIn_1 : decode cX5_keyIn 1 = .ok (.invokestatic 38, 3) := by decide +kernel
theorem dX5_keyIn_4 : decode cX5_keyIn 4 = .ok (.aload_n 0, 1) := by decide +kernel
theorem dX5_keyIn_5 : decode cX5_keyIn 5 = .ok (.getfield 10, 3) := by decide +kernel
theorem dX5_keyIn_8 : decode cX5_keyIn 8 = .ok (.getfield 80, 3) := by decide +kernel
theorem dX5_keyIn_11 : decode cX5_keyIn 11 = .ok (.iload_n 1, 1) := by decide +kernel
theorem dX5_keyIn_12 : decode cX5_keyIn 12 = .ok (.invokevirtual 191, 3) := by decide +kernel
theorem dX5_keyIn_15 : decode cX5_keyIn 15 = .ok (.ireturn, 1) := by decide +kernel
theorem dX5_coming_0 : decode cX5_coming 0 = .ok (.iload_n 1, 1) := by decide +kernel
theorem dX5_coming_1 : decode cX5_coming 1 = .ok (.invokestatic 38, 3) := by decide +kernel
theorem dX5_coming_4 : decode cX5_coming 4 = .ok (.iload_n 2, 1) := by decide +kernel
theorem dX5_coming_5 : decode cX5_coming 5 = .ok (.iconst 1, 1) := by decide +kernel
theorem dX5_coming_6 : decode cX5_coming 6 = .ok (.bipush 16, 2) := by decide +kernel
theorem dX5_coming_8 : decode cX5_coming 8 = .ok (.invokestatic 99, 3) := by decide +kernel
theorem dX5_coming_11 : decode cX5_coming 11 = .ok (.aload_n 0, 1) := by decide +kernel
theorem dX5_coming_12 : decode cX5_coming 12 = .ok (.getfield 10, 3) := by decide +kernel
theorem dX5_coming_15 : decode cX5_coming 15 = .ok (.iload_n 1, 1) := by decide +kernel
theorem dX5_coming_16 : decode cX5_coming 16 = .ok (.iload_n 2, 1) := by decide +kernel
theorem dX5_coming_17 : decode cX5_coming 17 = .ok (.invokevirtual 194, 3) := by decide +kernel
theorem dX5_coming_20 : decode cX5_coming 20 = .ok (.ireturn, 1) := by decide +kernel
theorem dX5_longest_0 : decode cX5_longest 0 = .ok (.iload_n 1, 1) := by decide +kernel
theorem dX5_longest_1 : decode cX5_longest 1 = .ok (.invokestatic 38, 3) := by decide +kernel
theorem dX5_longest_4 : decode cX5_longest 4 = .ok (.aload_n 0, 1) := by decide +kernel
theorem dX5_longest_5 : decode cX5_longest 5 = .ok (.getfield 10, 3) := by decide +kernel
theorem dX5_longest_8 : decode cX5_longest 8 = .ok (.getfield 80, 3) := by decide +kernel
theorem dX5_longest_11 : decode cX5_longest 11 = .ok (.iload_n 1, 1) := by decide +kernel
theorem dX5_longest_12 : decode cX5_longest 12 = .ok (.invokevirtual 197, 3) := by decide +kernel
theorem dX5_longest_15 : decode cX5_longest 15 = .ok (.ireturn, 1) := by decide +kernel
theorem dX5_ifFollowed_0 : decode cX5_ifFollowed 0 = .ok (.iload_n 1, 1) := by decide +kernel
theorem dX5_ifFollowed_1 : decode cX5_ifFollowed 1 = .ok (.iload_n 2, 1) := by decide +kernel
theorem dX5_ifFollowed_2 : decode cX5_ifFollowed 2 = .ok (.invokestatic 50, 3) := by decide +kernel
theorem dX5_ifFollowed_5 : decode cX5_ifFollowed 5 = .ok (.iload_n 3, 1) := by decide +kernel
theorem dX5_ifFollowed_6 : decode cX5_ifFollowed 6 = .ok (.iconst 1, 1) := by decide +kernel
theorem dX5_ifFollowed_7 : decode cX5_ifFollowed 7 = .ok (.invokestatic 92, 3) := by decide +kernel
theorem dX5_ifFollowed_10 : decode cX5_ifFollowed 10 = .ok (.aload_n 0, 1) := by decide +kernel
theorem dX5_ifFollowed_11 : decode cX5_ifFollowed 11 = .ok (.getfield 10, 3) := by decide +kernel
theorem dX5_ifFollowed_14 : decode cX5_ifFollowed 14 = .ok (.getfield 80, 3) := by decide +kernel
theorem dX5_ifFollowed_17 : decode cX5_ifFollowed 17 = .ok (.iload_n 1, 1) := by decide +kernel
theorem dX5_ifFollowed_18 : decode cX5_ifFollowed 18 = .ok (.iload_n 2, 1) := by decide +kernel
theorem dX5_ifFollowed_19 : decode cX5_ifFollowed 19 = .ok (.iload_n 3, 1) := by decide +kernel
theorem dX5_ifFollowed_20 : decode cX5_ifFollowed 20 = .ok (.invokevirtual 200, 3) := by decide +kernel
theorem dX5_ifFollowed_23 : decode cX5_ifFollowed 23 = .ok (.ireturn, 1) := by decide +kernel
theorem dX5_scarcest_0 : decode cX5_scarcest 0 = .ok (.aload_n 0, 1) := by decide +kernel
theorem dX5_scarcest_1 : decode cX5_scarcest 1 = .ok (.getfield 10, 3) := by decide +kernel
theorem dX5_scarcest_4 : decode cX5_scarcest 4 = .ok (.getfield 80, 3) := by decide +kernel
theorem dX5_scarcest_7 : decode cX5_scarcest 7 = .ok (.invokevirtual 203, 3) := by decide +kernel
theorem dX5_scarcest_10 : decode cX5_scarcest 10 = .ok (.ireturn, 1) := by decide +kernel
theorem dX5_ripeShare_0 : decode cX5_ripeShare 0 = .ok (.aload_n 0, 1) := by decide +kernel
theorem dX5_ripeShare_1 : decode cX5_ripeShare 1 = .ok (.getfield 10, 3) := by decide +kernel
theorem dX5_ripeShare_4 : decode cX5_ripeShare 4 = .ok (.getfield 80, 3) := by decide +kernel
theorem dX5_ripeShare_7 : decode cX5_ripeShare 7 = .ok (.invokevirtual 206, 3) := by decide +kernel
theorem dX5_ripeShare_10 : decode cX5_ripeShare 10 = .ok (.dreturn, 1) := by decide +kernel
theorem dX5_meanAge_0 : decode cX5_meanAge 0 = .ok (.iload_n 1, 1) := by decide +kernel
theorem dX5_meanAge_1 : decode cX5_meanAge 1 = .ok (.invokestatic 38, 3) := by decide +kernel
theorem dX5_meanAge_4 : decode cX5_meanAge 4 = .ok (.aload_n 0, 1) := by decide +kernel
theorem dX5_meanAge_5 : decode cX5_meanAge 5 = .ok (.getfield 10, 3) := by decide +kernel
theorem dX5_meanAge_8 : decode cX5_meanAge 8 = .ok (.getfield 80, 3) := by decide +kernel
theorem dX5_meanAge_11 : decode cX5_meanAge 11 = .ok (.iload_n 1, 1) := by decide +kernel
theorem dX5_meanAge_12 : decode cX5_meanAge 12 = .ok (.invokevirtual 210, 3) := by decide +kernel
theorem dX5_meanAge_15 : decode cX5_meanAge 15 = .ok (.freturn, 1) := by decide +kernel
theorem dX5_digest_0 : decode cX5_digest 0 = .ok (.ldc2_w 214, 3) := by decide +kernel
theorem dX5_digest_3 : decode cX5_digest 3 = .ok (.lstore_n 1, 1) := by decide +kernel
theorem dX5_digest_4 : decode cX5_digest 4 = .ok (.iconst 0, 1) := by decide +kernel
theorem dX5_digest_5 : decode cX5_digest 5 = .ok (.istore_n 3, 1) := by decide +kernel
theorem dX5_digest_6 : decode cX5_digest 6 = .ok (.iload_n 3, 1) := by decide +kernel
theorem dX5_digest_7 : decode cX5_digest 7 = .ok (.bipush 9, 2) := by decide +kernel
theorem dX5_digest_9 : decode cX5_digest 9 = .ok (.if_icmp .gt 20, 3) := by decide +kernel
theorem dX5_digest_12 : decode cX5_digest 12 = .ok (.lload_n 1, 1) := by decide +kernel
theorem dX5_digest_13 : decode cX5_digest 13 = .ok (.aload_n 0, 1) := by decide +kernel
theorem dX5_digest_14 : decode cX5_digest 14 = .ok (.iload_n 3, 1) := by decide +kernel
theorem dX5_digest_15 : decode cX5_digest 15 = .ok (.invokevirtual 185, 3) := by decide +kernel
theorem dX5_digest_18 : decode cX5_digest 18 = .ok (.i2l, 1) := by decide +kernel
theorem dX5_digest_19 : decode cX5_digest 19 = .ok (.invokestatic 216, 3) := by decide +kernel
theorem dX5_digest_22 : decode cX5_digest 22 = .ok (.lstore_n 1, 1) := by decide +kernel
theorem dX5_digest_23 : decode cX5_digest 23 = .ok (.iinc 3 1, 3) := by decide +kernel
theorem dX5_digest_26 : decode cX5_digest 26 = .ok (.goto (-20), 3) := by decide +kernel
theorem dX5_digest_29 : decode cX5_digest 29 = .ok (.iconst 0, 1) := by decide +kernel
theorem dX5_digest_30 : decode cX5_digest 30 = .ok (.istore_n 3, 1) := by decide +kernel
theorem dX5_digest_31 : decode cX5_digest 31 = .ok (.iload_n 3, 1) := by decide +kernel
theorem dX5_digest_32 : decode cX5_digest 32 = .ok (.iconst 3, 1) := by decide +kernel
theorem dX5_digest_33 : decode cX5_digest 33 = .ok (.if_icmp .ge 24, 3) := by decide +kernel
theorem dX5_digest_36 : decode cX5_digest 36 = .ok (.lload_n 1, 1) := by decide +kernel
theorem dX5_digest_37 : decode cX5_digest 37 = .ok (.aload_n 0, 1) := by decide +kernel
theorem dX5_digest_38 : decode cX5_digest 38 = .ok (.getfield 10, 3) := by decide +kernel
theorem dX5_digest_41 : decode cX5_digest 41 = .ok (.getfield 129, 3) := by decide +kernel
theorem dX5_digest_44 : decode cX5_digest 44 = .ok (.iload_n 3, 1) := by decide +kernel
theorem dX5_digest_45 : decode cX5_digest 45 = .ok (.iaload, 1) := by decide +kernel
theorem dX5_digest_46 : decode cX5_digest 46 = .ok (.i2l, 1) := by decide +kernel
theorem dX5_digest_47 : decode cX5_digest 47 = .ok (.invokestatic 216, 3) := by decide +kernel
theorem dX5_digest_50 : decode cX5_digest 50 = .ok (.lstore_n 1, 1) := by decide +kernel
theorem dX5_digest_51 : decode cX5_digest 51 = .ok (.iinc 3 1, 3) := by decide +kernel
theorem dX5_digest_54 : decode cX5_digest 54 = .ok (.goto (-23), 3) := by decide +kernel
theorem dX5_digest_57 : decode cX5_digest 57 = .ok (.iconst 0, 1) := by decide +kernel
theorem dX5_digest_58 : decode cX5_digest 58 = .ok (.istore_n 3, 1) := by decide +kernel
theorem dX5_digest_59 : decode cX5_digest 59 = .ok (.iload_n 3, 1) := by decide +kernel
theorem dX5_digest_60 : decode cX5_digest 60 = .ok (.iconst 4, 1) := by decide +kernel
theorem dX5_digest_61 : decode cX5_digest 61 = .ok (.if_icmp .ge 16, 3) := by decide +kernel
theorem dX5_digest_64 : decode cX5_digest 64 = .ok (.aload_n 0, 1) := by decide +kernel
theorem dX5_digest_65 : decode cX5_digest 65 = .ok (.lload_n 1, 1) := by decide +kernel
theorem dX5_digest_66 : decode cX5_digest 66 = .ok (.iload_n 3, 1) := by decide +kernel
theorem dX5_digest_67 : decode cX5_digest 67 = .ok (.invokevirtual 220, 3) := by decide +kernel
theorem dX5_digest_70 : decode cX5_digest 70 = .ok (.lstore_n 1, 1) := by decide +kernel
theorem dX5_digest_71 : decode cX5_digest 71 = .ok (.iinc 3 1, 3) := by decide +kernel
theorem dX5_digest_74 : decode cX5_digest 74 = .ok (.goto (-15), 3) := by decide +kernel
theorem dX5_digest_77 : decode cX5_digest 77 = .ok (.lload_n 1, 1) := by decide +kernel
theorem dX5_digest_78 : decode cX5_digest 78 = .ok (.aload_n 0, 1) := by decide +kernel
theorem dX5_digest_79 : decode cX5_digest 79 = .ok (.getfield 10, 3) := by decide +kernel
theorem dX5_digest_82 : decode cX5_digest 82 = .ok (.getfield 80, 3) := by decide +kernel
theorem dX5_digest_85 : decode cX5_digest 85 = .ok (.invokevirtual 203, 3) := by decide +kernel
theorem dX5_digest_88 : decode cX5_digest 88 = .ok (.i2l, 1) := by decide +kernel
theorem dX5_digest_89 : decode cX5_digest 89 = .ok (.invokestatic 216, 3) := by decide +kernel
theorem dX5_digest_92 : decode cX5_digest 92 = .ok (.lstore_n 1, 1) := by decide +kernel
theorem dX5_digest_93 : decode cX5_digest 93 = .ok (.lload_n 1, 1) := by decide +kernel
theorem dX5_digest_94 : decode cX5_digest 94 = .ok (.aload_n 0, 1) := by decide +kernel
theorem dX5_digest_95 : decode cX5_digest 95 = .ok (.getfield 10, 3) := by decide +kernel
theorem dX5_digest_98 : decode cX5_digest 98 = .ok (.getfield 80, 3) := by decide +kernel
theorem dX5_digest_101 : decode cX5_digest 101 = .ok (.invokevirtual 206, 3) := by decide +kernel
theorem dX5_digest_104 : decode cX5_digest 104 = .ok (.bipush 52, 2) := by decide +kernel
theorem dX5_digest_106 : decode cX5_digest 106 = .ok (.sipush 1023, 3) := by decide +kernel
theorem dX5_digest_109 : decode cX5_digest 109 = .ok (.invokestatic 224, 3) := by decide +kernel
theorem dX5_digest_112 : decode cX5_digest 112 = .ok (.invokestatic 216, 3) := by decide +kernel
theorem dX5_digest_115 : decode cX5_digest 115 = .ok (.lstore_n 1, 1) := by decide +kernel
theorem dX5_digest_116 : decode cX5_digest 116 = .ok (.iconst 0, 1) := by decide +kernel
theorem dX5_digest_117 : decode cX5_digest 117 = .ok (.istore_n 3, 1) := by decide +kernel
theorem dX5_digest_118 : decode cX5_digest 118 = .ok (.iload_n 3, 1) := by decide +kernel
theorem dX5_digest_119 : decode cX5_digest 119 = .ok (.iconst 2, 1) := by decide +kernel
theorem dX5_digest_120 : decode cX5_digest 120 = .ok (.if_icmp .ge 28, 3) := by decide +kernel
theorem dX5_digest_123 : decode cX5_digest 123 = .ok (.lload_n 1, 1) := by decide +kernel
theorem dX5_digest_124 : decode cX5_digest 124 = .ok (.aload_n 0, 1) := by decide +kernel
theorem dX5_digest_125 : decode cX5_digest 125 = .ok (.getfield 27, 3) := by decide +kernel
theorem dX5_digest_128 : decode cX5_digest 128 = .ok (.iload_n 3, 1) := by decide +kernel
theorem dX5_digest_129 : decode cX5_digest 129 = .ok (.baload, 1) := by decide +kernel
theorem dX5_digest_130 : decode cX5_digest 130 = .ok (.ifCond .eq 7, 3) := by decide +kernel
theorem dX5_digest_133 : decode cX5_digest 133 = .ok (.lconst 1, 1) := by decide +kernel
theorem dX5_digest_134 : decode cX5_digest 134 = .ok (.goto 4, 3) := by decide +kernel
theorem dX5_digest_137 : decode cX5_digest 137 = .ok (.lconst 0, 1) := by decide +kernel
theorem dX5_digest_138 : decode cX5_digest 138 = .ok (.invokestatic 216, 3) := by decide +kernel
theorem dX5_digest_141 : decode cX5_digest 141 = .ok (.lstore_n 1, 1) := by decide +kernel
theorem dX5_digest_142 : decode cX5_digest 142 = .ok (.iinc 3 1, 3) := by decide +kernel
theorem dX5_digest_145 : decode cX5_digest 145 = .ok (.goto (-27), 3) := by decide +kernel
theorem dX5_digest_148 : decode cX5_digest 148 = .ok (.lload_n 1, 1) := by decide +kernel
theorem dX5_digest_149 : decode cX5_digest 149 = .ok (.aload_n 0, 1) := by decide +kernel
theorem dX5_digest_150 : decode cX5_digest 150 = .ok (.getfield 34, 3) := by decide +kernel
theorem dX5_digest_153 : decode cX5_digest 153 = .ok (.getfield 141, 3) := by decide +kernel
theorem dX5_digest_156 : decode cX5_digest 156 = .ok (.i2l, 1) := by decide +kernel
theorem dX5_digest_157 : decode cX5_digest 157 = .ok (.invokestatic 216, 3) := by decide +kernel
theorem dX5_digest_160 : decode cX5_digest 160 = .ok (.lstore_n 1, 1) := by decide +kernel
theorem dX5_digest_161 : decode cX5_digest 161 = .ok (.iconst 0, 1) := by decide +kernel
theorem dX5_digest_162 : decode cX5_digest 162 = .ok (.istore_n 3, 1) := by decide +kernel
theorem dX5_digest_163 : decode cX5_digest 163 = .ok (.iload_n 3, 1) := by decide +kernel
theorem dX5_digest_164 : decode cX5_digest 164 = .ok (.aload_n 0, 1) := by decide +kernel
theorem dX5_digest_165 : decode cX5_digest 165 = .ok (.getfield 34, 3) := by decide +kernel
theorem dX5_digest_168 : decode cX5_digest 168 = .ok (.getfield 141, 3) := by decide +kernel
theorem dX5_digest_171 : decode cX5_digest 171 = .ok (.if_icmp .ge 23, 3) := by decide +kernel
theorem dX5_digest_174 : decode cX5_digest 174 = .ok (.lload_n 1, 1) := by decide +kernel
theorem dX5_digest_175 : decode cX5_digest 175 = .ok (.aload_n 0, 1) := by decide +kernel
theorem dX5_digest_176 : decode cX5_digest 176 = .ok (.getfield 34, 3) := by decide +kernel
theorem dX5_digest_179 : decode cX5_digest 179 = .ok (.iload_n 3, 1) := by decide +kernel
theorem dX5_digest_180 : decode cX5_digest 180 = .ok (.invokevirtual 228, 3) := by decide +kernel
theorem dX5_digest_183 : decode cX5_digest 183 = .ok (.i2l, 1) := by decide +kernel
theorem dX5_digest_184 : decode cX5_digest 184 = .ok (.invokestatic 216, 3) := by decide +kernel
theorem dX5_digest_187 : decode cX5_digest 187 = .ok (.lstore_n 1, 1) := by decide +kernel
theorem dX5_digest_188 : decode cX5_digest 188 = .ok (.iinc 3 1, 3) := by decide +kernel
theorem dX5_digest_191 : decode cX5_digest 191 = .ok (.goto (-28), 3) := by decide +kernel
theorem dX5_digest_194 : decode cX5_digest 194 = .ok (.lload_n 1, 1) := by decide +kernel
theorem dX5_digest_195 : decode cX5_digest 195 = .ok (.lreturn, 1) := by decide +kernel
theorem dX5_isKind_0 : decode cX5_isKind 0 = .ok (.iload_n 0, 1) := by decide +kernel
theorem dX5_isKind_1 : decode cX5_isKind 1 = .ok (.ifCond .lt 12, 3) := by decide +kernel
theorem dX5_isKind_4 : decode cX5_isKind 4 = .ok (.iload_n 0, 1) := by decide +kernel
theorem dX5_isKind_5 : decode cX5_isKind 5 = .ok (.iconst 4, 1) := by decide +kernel
theorem dX5_isKind_6 : decode cX5_isKind 6 = .ok (.if_icmp .ge 7, 3) := by decide +kernel
theorem dX5_isKind_9 : decode cX5_isKind 9 = .ok (.iconst 1, 1) := by decide +kernel
theorem dX5_isKind_10 : decode cX5_isKind 10 = .ok (.goto 4, 3) := by decide +kernel
theorem dX5_isKind_13 : decode cX5_isKind 13 = .ok (.iconst 0, 1) := by decide +kernel
theorem dX5_isKind_14 : decode cX5_isKind 14 = .ok (.ireturn, 1) := by decide +kernel
theorem dX5_isKey_0 : decode cX5_isKey 0 = .ok (.iload_n 0, 1) := by decide +kernel
theorem dX5_isKey_1 : decode cX5_isKey 1 = .ok (.ifCond .lt 13, 3) := by decide +kernel
theorem dX5_isKey_4 : decode cX5_isKey 4 = .ok (.iload_n 0, 1) := by decide +kernel
theorem dX5_isKey_5 : decode cX5_isKey 5 = .ok (.bipush 16, 2) := by decide +kernel
theorem dX5_isKey_7 : decode cX5_isKey 7 = .ok (.if_icmp .ge 7, 3) := by decide +kernel
theorem dX5_isKey_10 : decode cX5_isKey 10 = .ok (.iconst 1, 1) := by decide +kernel
theorem dX5_isKey_11 : decode cX5_isKey 11 = .ok (.goto 4, 3) := by decide +kernel
theorem dX5_isKey_14 : decode cX5_isKey 14 = .ok (.iconst 0, 1) := by decide +kernel
theorem dX5_isKey_15 : decode cX5_isKey 15 = .ok (.ireturn, 1) := by decide +kernel
theorem dX5_needKind_0 : decode cX5_needKind 0 = .ok (.iload_n 0, 1) := by decide +kernel
theorem dX5_needKind_1 : decode cX5_needKind 1 = .ok (.invokestatic 231, 3) := by decide +kernel
theorem dX5_needKind_4 : decode cX5_needKind 4 = .ok (.ifCond .ne 13, 3) := by decide +kernel
theorem dX5_needKind_7 : decode cX5_needKind 7 = .ok (.new 234, 3) := by decide +kernel
theorem dX5_needKind_10 : decode cX5_needKind 10 = .ok (.dup, 1) := by decide +kernel
theorem dX5_needKind_11 : decode cX5_needKind 11 = .ok (.ldc 236, 2) := by decide +kernel
theorem dX5_needKind_13 : decode cX5_needKind 13 = .ok (.invokespecial 238, 3) := by decide +kernel
theorem dX5_needKind_16 : decode cX5_needKind 16 = .ok (.athrow, 1) := by decide +kernel
theorem dX5_needKind_17 : decode cX5_needKind 17 = .ok (.return_, 1) := by decide +kernel
theorem dX5_needKey_0 : decode cX5_needKey 0 = .ok (.iload_n 0, 1) := by decide +kernel
theorem dX5_needKey_1 : decode cX5_needKey 1 = .ok (.invokestatic 231, 3) := by decide +kernel
theorem dX5_needKey_4 : decode cX5_needKey 4 = .ok (.ifCond .eq 10, 3) := by decide +kernel
theorem dX5_needKey_7 : decode cX5_needKey 7 = .ok (.iload_n 1, 1) := by decide +kernel
theorem dX5_needKey_8 : decode cX5_needKey 8 = .ok (.invokestatic 239, 3) := by decide +kernel
theorem dX5_needKey_11 : decode cX5_needKey 11 = .ok (.ifCond .ne 13, 3) := by decide +kernel
theorem dX5_needKey_14 : decode cX5_needKey 14 = .ok (.new 234, 3) := by decide +kernel
theorem dX5_needKey_17 : decode cX5_needKey 17 = .ok (.dup, 1) := by decide +kernel
theorem dX5_needKey_18 : decode cX5_needKey 18 = .ok (.ldc 242, 2) := by decide +kernel
theorem dX5_needKey_20 : decode cX5_needKey 20 = .ok (.invokespecial 238, 3) := by decide +kernel
theorem dX5_needKey_23 : decode cX5_needKey 23 = .ok (.athrow, 1) := by decide +kernel
theorem dX5_needKey_24 : decode cX5_needKey 24 = .ok (.return_, 1) := by decide +kernel
theorem dX5_needSetting_0 : decode cX5_needSetting 0 = .ok (.iload_n 0, 1) := by decide +kernel
theorem dX5_needSetting_1 : decode cX5_needSetting 1 = .ok (.ifCond .lt 8, 3) := by decide +kernel
theorem dX5_needSetting_4 : decode cX5_needSetting 4 = .ok (.iload_n 0, 1) := by decide +kernel
theorem dX5_needSetting_5 : decode cX5_needSetting 5 = .ok (.iconst 3, 1) := by decide +kernel
theorem dX5_needSetting_6 : decode cX5_needSetting 6 = .ok (.if_icmp .lt 13, 3) := by decide +kernel
theorem dX5_needSetting_9 : decode cX5_needSetting 9 = .ok (.new 234, 3) := by decide +kernel
theorem dX5_needSetting_12 : decode cX5_needSetting 12 = .ok (.dup, 1) := by decide +kernel
theorem dX5_needSetting_13 : decode cX5_needSetting 13 = .ok (.ldc 244, 2) := by decide +kernel
theorem dX5_needSetting_15 : decode cX5_needSetting 15 = .ok (.invokespecial 238, 3) := by decide +kernel
theorem dX5_needSetting_18 : decode cX5_needSetting 18 = .ok (.athrow, 1) := by decide +kernel
theorem dX5_needSetting_19 : decode cX5_needSetting 19 = .ok (.return_, 1) := by decide +kernel
theorem dX5_needAtLeast_0 : decode cX5_needAtLeast 0 = .ok (.iload_n 0, 1) := by decide +kernel
theorem dX5_needAtLeast_1 : decode cX5_needAtLeast 1 = .ok (.iload_n 1, 1) := by decide +kernel
theorem dX5_needAtLeast_2 : decode cX5_needAtLeast 2 = .ok (.if_icmp .ge 13, 3) := by decide +kernel
theorem dX5_needAtLeast_5 : decode cX5_needAtLeast 5 = .ok (.new 151, 3) := by decide +kernel
theorem dX5_needAtLeast_8 : decode cX5_needAtLeast 8 = .ok (.dup, 1) := by decide +kernel
theorem dX5_needAtLeast_9 : decode cX5_needAtLeast 9 = .ok (.ldc 246, 2) := by decide +kernel
theorem dX5_needAtLeast_11 : decode cX5_needAtLeast 11 = .ok (.invokespecial 155, 3) := by decide +kernel
theorem dX5_needAtLeast_14 : decode cX5_needAtLeast 14 = .ok (.athrow, 1) := by decide +kernel
theorem dX5_needAtLeast_15 : decode cX5_needAtLeast 15 = .ok (.return_, 1) := by decide +kernel
theorem dX5_needRange_0 : decode cX5_needRange 0 = .ok (.iload_n 0, 1) := by decide +kernel
theorem dX5_needRange_1 : decode cX5_needRange 1 = .ok (.iload_n 1, 1) := by decide +kernel
theorem dX5_needRange_2 : decode cX5_needRange 2 = .ok (.if_icmp .lt 8, 3) := by decide +kernel
theorem dX5_needRange_5 : decode cX5_needRange 5 = .ok (.iload_n 0, 1) := by decide +kernel
theorem dX5_needRange_6 : decode cX5_needRange 6 = .ok (.iload_n 2, 1) := by decide +kernel
theorem dX5_needRange_7 : decode cX5_needRange 7 = .ok (.if_icmp .le 13, 3) := by decide +kernel
theorem dX5_needRange_10 : decode cX5_needRange 10 = .ok (.new 151, 3) := by decide +kernel
theorem dX5_needRange_13 : decode cX5_needRange 13 = .ok (.dup, 1) := by decide +kernel
theorem dX5_needRange_14 : decode cX5_needRange 14 = .ok (.ldc 248, 2) := by decide +kernel
theorem dX5_needRange_16 : decode cX5_needRange 16 = .ok (.invokespecial 155, 3) := by decide +kernel
theorem dX5_needRange_19 : decode cX5_needRange 19 = .ok (.athrow, 1) := by decide +kernel
theorem dX5_needRange_20 : decode cX5_needRange 20 = .ok (.return_, 1) := by decide +kernel
theorem dX5_doOrder_0 : decode cX5_doOrder 0 = .ok (.aload_n 0, 1) := by decide +kernel
theorem dX5_doOrder_1 : decode cX5_doOrder 1 = .ok (.getfield 34, 3) := by decide +kernel
theorem dX5_doOrder_4 : decode cX5_doOrder 4 = .ok (.iload_n 1, 1) := by decide +kernel
theorem dX5_doOrder_5 : decode cX5_doOrder 5 = .ok (.invokevirtual 228, 3) := by decide +kernel
theorem dX5_doOrder_8 : decode cX5_doOrder 8 = .ok (.istore_n 2, 1) := by decide +kernel
theorem dX5_doOrder_9 : decode cX5_doOrder 9 = .ok (.aload_n 0, 1) := by decide +kernel
theorem dX5_doOrder_10 : decode cX5_doOrder 10 = .ok (.getfield 34, 3) := by decide +kernel
theorem dX5_doOrder_13 : decode cX5_doOrder 13 = .ok (.iload_n 1, 1) := by decide +kernel
theorem dX5_doOrder_14 : decode cX5_doOrder 14 = .ok (.iconst 1, 1) := by decide +kernel
theorem dX5_doOrder_15 : decode cX5_doOrder 15 = .ok (.iadd, 1) := by decide +kernel
theorem dX5_doOrder_16 : decode cX5_doOrder 16 = .ok (.invokevirtual 250, 3) := by decide +kernel
theorem dX5_doOrder_19 : decode cX5_doOrder 19 = .ok (.istore_n 3, 1) := by decide +kernel
theorem dX5_doOrder_20 : decode cX5_doOrder 20 = .ok (.iload_n 2, 1) := by decide +kernel
theorem dX5_doOrder_21 : decode cX5_doOrder 21 = .ok (.lookupswitch 73 #[(97, 35), (112, 61), (116, 67)], 35) := by decide +kernel
theorem dX5_doOrder_56 : decode cX5_doOrder 56 = .ok (.iload_n 3, 1) := by decide +kernel
theorem dX5_doOrder_57 : decode cX5_doOrder 57 = .ok (.invokestatic 231, 3) := by decide +kernel
theorem dX5_doOrder_60 : decode cX5_doOrder 60 = .ok (.ifCond .eq 20, 3) := by decide +kernel
theorem dX5_doOrder_63 : decode cX5_doOrder 63 = .ok (.aload_n 0, 1) := by decide +kernel
theorem dX5_doOrder_64 : decode cX5_doOrder 64 = .ok (.getfield 10, 3) := by decide +kernel
theorem dX5_doOrder_67 : decode cX5_doOrder 67 = .ok (.iload_n 3, 1) := by decide +kernel
theorem dX5_doOrder_68 : decode cX5_doOrder 68 = .ok (.invokevirtual 46, 3) := by decide +kernel
theorem dX5_doOrder_71 : decode cX5_doOrder 71 = .ok (.bipush 100, 2) := by decide +kernel
theorem dX5_doOrder_73 : decode cX5_doOrder 73 = .ok (.if_icmp .ge 7, 3) := by decide +kernel
theorem dX5_doOrder_76 : decode cX5_doOrder 76 = .ok (.iconst 1, 1) := by decide +kernel
theorem dX5_doOrder_77 : decode cX5_doOrder 77 = .ok (.goto 4, 3) := by decide +kernel
theorem dX5_doOrder_80 : decode cX5_doOrder 80 = .ok (.iconst 0, 1) := by decide +kernel
theorem dX5_doOrder_81 : decode cX5_doOrder 81 = .ok (.ireturn, 1) := by decide +kernel
theorem dX5_doOrder_82 : decode cX5_doOrder 82 = .ok (.aload_n 0, 1) := by decide +kernel
theorem dX5_doOrder_83 : decode cX5_doOrder 83 = .ok (.iload_n 3, 1) := by decide +kernel
theorem dX5_doOrder_84 : decode cX5_doOrder 84 = .ok (.invokevirtual 253, 3) := by decide +kernel
theorem dX5_doOrder_87 : decode cX5_doOrder 87 = .ok (.ireturn, 1) := by decide +kernel
theorem dX5_doOrder_88 : decode cX5_doOrder 88 = .ok (.aload_n 0, 1) := by decide +kernel
theorem dX5_doOrder_89 : decode cX5_doOrder 89 = .ok (.iload_n 3, 1) := by decide +kernel
theorem dX5_doOrder_90 : decode cX5_doOrder 90 = .ok (.invokevirtual 256, 3) := by decide +kernel
theorem dX5_doOrder_93 : decode cX5_doOrder 93 = .ok (.ireturn, 1) := by decide +kernel
theorem dX5_doOrder_94 : decode cX5_doOrder 94 = .ok (.aload_n 0, 1) := by decide +kernel
theorem dX5_doOrder_95 : decode cX5_doOrder 95 = .ok (.iload_n 2, 1) := by decide +kernel
theorem dX5_doOrder_96 : decode cX5_doOrder 96 = .ok (.iload_n 3, 1) := by decide +kernel
theorem dX5_doOrder_97 : decode cX5_doOrder 97 = .ok (.aload_n 0, 1) := by decide +kernel
theorem dX5_doOrder_98 : decode cX5_doOrder 98 = .ok (.getfield 34, 3) := by decide +kernel
theorem dX5_doOrder_101 : decode cX5_doOrder 101 = .ok (.iload_n 1, 1) := by decide +kernel
theorem dX5_doOrder_102 : decode cX5_doOrder 102 = .ok (.iconst 3, 1) := by decide +kernel
theorem dX5_doOrder_103 : decode cX5_doOrder 103 = .ok (.iadd, 1) := by decide +kernel
theorem dX5_doOrder_104 : decode cX5_doOrder 104 = .ok (.invokevirtual 250, 3) := by decide +kernel
theorem dX5_doOrder_107 : decode cX5_doOrder 107 = .ok (.invokevirtual 259, 3) := by decide +kernel
theorem dX5_doOrder_110 : decode cX5_doOrder 110 = .ok (.ireturn, 1) := by decide +kernel
theorem dX5_turnIfKind_0 : decode cX5_turnIfKind 0 = .ok (.iload_n 1, 1) := by decide +kernel
theorem dX5_turnIfKind_1 : decode cX5_turnIfKind 1 = .ok (.invokestatic 231, 3) := by decide +kernel
theorem dX5_turnIfKind_4 : decode cX5_turnIfKind 4 = .ok (.ifCond .ne 5, 3) := by decide +kernel
theorem dX5_turnIfKind_7 : decode cX5_turnIfKind 7 = .ok (.iconst 0, 1) := by decide +kernel
theorem dX5_turnIfKind_8 : decode cX5_turnIfKind 8 = .ok (.ireturn, 1) := by decide +kernel
theorem dX5_turnIfKind_9 : decode cX5_turnIfKind 9 = .ok (.aload_n 0, 1) := by decide +kernel
theorem dX5_turnIfKind_10 : decode cX5_turnIfKind 10 = .ok (.getfield 10, 3) := by decide +kernel
theorem dX5_turnIfKind_13 : decode cX5_turnIfKind 13 = .ok (.getfield 80, 3) := by decide +kernel
theorem dX5_turnIfKind_16 : decode cX5_turnIfKind 16 = .ok (.iload_n 1, 1) := by decide +kernel
theorem dX5_turnIfKind_17 : decode cX5_turnIfKind 17 = .ok (.invokevirtual 84, 3) := by decide +kernel
theorem dX5_turnIfKind_20 : decode cX5_turnIfKind 20 = .ok (.iconst 1, 1) := by decide +kernel
theorem dX5_turnIfKind_21 : decode cX5_turnIfKind 21 = .ok (.ireturn, 1) := by decide +kernel
theorem dX5_passIfCan_0 : decode cX5_passIfCan 0 = .ok (.aload_n 0, 1) := by decide +kernel
theorem dX5_passIfCan_1 : decode cX5_passIfCan 1 = .ok (.getfield 10, 3) := by decide +kernel
theorem dX5_passIfCan_4 : decode cX5_passIfCan 4 = .ok (.getfield 80, 3) := by decide +kernel
theorem dX5_passIfCan_7 : decode cX5_passIfCan 7 = .ok (.iload_n 1, 1) := by decide +kernel
theorem dX5_passIfCan_8 : decode cX5_passIfCan 8 = .ok (.invokevirtual 103, 3) := by decide +kernel
theorem dX5_passIfCan_11 : decode cX5_passIfCan 11 = .ok (.ifCond .ne 5, 3) := by decide +kernel
theorem dX5_passIfCan_14 : decode cX5_passIfCan 14 = .ok (.iconst 0, 1) := by decide +kernel
theorem dX5_passIfCan_15 : decode cX5_passIfCan 15 = .ok (.ireturn, 1) := by decide +kernel
theorem dX5_passIfCan_16 : decode cX5_passIfCan 16 = .ok (.aload_n 0, 1) := by decide +kernel
theorem dX5_passIfCan_17 : decode cX5_passIfCan 17 = .ok (.getfield 10, 3) := by decide +kernel
theorem dX5_passIfCan_20 : decode cX5_passIfCan 20 = .ok (.getfield 80, 3) := by decide +kernel
theorem dX5_passIfCan_23 : decode cX5_passIfCan 23 = .ok (.iload_n 1, 1) := by decide +kernel
theorem dX5_passIfCan_24 : decode cX5_passIfCan 24 = .ok (.invokevirtual 109, 3) := by decide +kernel
theorem dX5_passIfCan_27 : decode cX5_passIfCan 27 = .ok (.iconst 1, 1) := by decide +kernel
theorem dX5_passIfCan_28 : decode cX5_passIfCan 28 = .ok (.ireturn, 1) := by decide +kernel
theorem dX5_doRowOrder_0 : decode cX5_doRowOrder 0 = .ok (.iload_n 2, 1) := by decide +kernel
theorem dX5_doRowOrder_1 : decode cX5_doRowOrder 1 = .ok (.invokestatic 231, 3) := by decide +kernel
theorem dX5_doRowOrder_4 : decode cX5_doRowOrder 4 = .ok (.ifCond .eq 10, 3) := by decide +kernel
theorem dX5_doRowOrder_7 : decode cX5_doRowOrder 7 = .ok (.iload_n 3, 1) := by decide +kernel
theorem dX5_doRowOrder_8 : decode cX5_doRowOrder 8 = .ok (.invokestatic 239, 3) := by decide +kernel
theorem dX5_doRowOrder_11 : decode cX5_doRowOrder 11 = .ok (.ifCond .ne 5, 3) := by decide +kernel
theorem dX5_doRowOrder_14 : decode cX5_doRowOrder 14 = .ok (.iconst 0, 1) := by decide +kernel
theorem dX5_doRowOrder_15 : decode cX5_doRowOrder 15 = .ok (.ireturn, 1) := by decide +kernel
theorem dX5_doRowOrder_16 : decode cX5_doRowOrder 16 = .ok (.iload_n 1, 1) := by decide +kernel
theorem dX5_doRowOrder_17 : decode cX5_doRowOrder 17 = .ok (.bipush 100, 2) := by decide +kernel
theorem dX5_doRowOrder_19 : decode cX5_doRowOrder 19 = .ok (.if_icmp .ne 27, 3) := by decide +kernel
theorem dX5_doRowOrder_22 : decode cX5_doRowOrder 22 = .ok (.aload_n 0, 1) := by decide +kernel
theorem dX5_doRowOrder_23 : decode cX5_doRowOrder 23 = .ok (.getfield 10, 3) := by decide +kernel
theorem dX5_doRowOrder_26 : decode cX5_doRowOrder 26 = .ok (.iload_n 2, 1) := by decide +kernel
theorem dX5_doRowOrder_27 : decode cX5_doRowOrder 27 = .ok (.iload_n 3, 1) := by decide +kernel
theorem dX5_doRowOrder_28 : decode cX5_doRowOrder 28 = .ok (.invokevirtual 58, 3) := by decide +kernel
theorem dX5_doRowOrder_31 : decode cX5_doRowOrder 31 = .ok (.ifCond .eq 15, 3) := by decide +kernel
theorem dX5_doRowOrder_34 : decode cX5_doRowOrder 34 = .ok (.aload_n 0, 1) := by decide +kernel
theorem dX5_doRowOrder_35 : decode cX5_doRowOrder 35 = .ok (.getfield 10, 3) := by decide +kernel
theorem dX5_doRowOrder_38 : decode cX5_doRowOrder 38 = .ok (.iload_n 2, 1) := by decide +kernel
theorem dX5_doRowOrder_39 : decode cX5_doRowOrder 39 = .ok (.iload_n 3, 1) := by decide +kernel
theorem dX5_doRowOrder_40 : decode cX5_doRowOrder 40 = .ok (.invokevirtual 69, 3) := by decide +kernel
theorem dX5_doRowOrder_43 : decode cX5_doRowOrder 43 = .ok (.pop, 1) := by decide +kernel
theorem dX5_doRowOrder_44 : decode cX5_doRowOrder 44 = .ok (.iconst 1, 1) := by decide +kernel
theorem dX5_doRowOrder_45 : decode cX5_doRowOrder 45 = .ok (.ireturn, 1) := by decide +kernel
theorem dX5_doRowOrder_46 : decode cX5_doRowOrder 46 = .ok (.iload_n 1, 1) := by decide +kernel
theorem dX5_doRowOrder_47 : decode cX5_doRowOrder 47 = .ok (.bipush 98, 2) := by decide +kernel
theorem dX5_doRowOrder_49 : decode cX5_doRowOrder 49 = .ok (.if_icmp .ne 27, 3) := by decide +kernel
theorem dX5_doRowOrder_52 : decode cX5_doRowOrder 52 = .ok (.aload_n 0, 1) := by decide +kernel
theorem dX5_doRowOrder_53 : decode cX5_doRowOrder 53 = .ok (.getfield 10, 3) := by decide +kernel
theorem dX5_doRowOrder_56 : decode cX5_doRowOrder 56 = .ok (.iload_n 2, 1) := by decide +kernel
theorem dX5_doRowOrder_57 : decode cX5_doRowOrder 57 = .ok (.iload_n 3, 1) := by decide +kernel
theorem dX5_doRowOrder_58 : decode cX5_doRowOrder 58 = .ok (.invokevirtual 72, 3) := by decide +kernel
theorem dX5_doRowOrder_61 : decode cX5_doRowOrder 61 = .ok (.ifCond .eq 15, 3) := by decide +kernel
theorem dX5_doRowOrder_64 : decode cX5_doRowOrder 64 = .ok (.aload_n 0, 1) := by decide +kernel
theorem dX5_doRowOrder_65 : decode cX5_doRowOrder 65 = .ok (.getfield 10, 3) := by decide +kernel
theorem dX5_doRowOrder_68 : decode cX5_doRowOrder 68 = .ok (.iload_n 2, 1) := by decide +kernel
theorem dX5_doRowOrder_69 : decode cX5_doRowOrder 69 = .ok (.iload_n 3, 1) := by decide +kernel
theorem dX5_doRowOrder_70 : decode cX5_doRowOrder 70 = .ok (.invokevirtual 77, 3) := by decide +kernel
theorem dX5_doRowOrder_73 : decode cX5_doRowOrder 73 = .ok (.pop, 1) := by decide +kernel
theorem dX5_doRowOrder_74 : decode cX5_doRowOrder 74 = .ok (.iconst 1, 1) := by decide +kernel
theorem dX5_doRowOrder_75 : decode cX5_doRowOrder 75 = .ok (.ireturn, 1) := by decide +kernel
theorem dX5_doRowOrder_76 : decode cX5_doRowOrder 76 = .ok (.iconst 0, 1) := by decide +kernel
theorem dX5_doRowOrder_77 : decode cX5_doRowOrder 77 = .ok (.ireturn, 1) := by decide +kernel
theorem dX5_numberOf_0 : decode cX5_numberOf 0 = .ok (.iload_n 1, 1) := by decide +kernel
theorem dX5_numberOf_1 : decode cX5_numberOf 1 = .ok (.tableswitch 152 0 8 #[51, 62, 74, 85, 97, 108, 119, 130, 141], 51) := by decide +kernel
theorem dX5_numberOf_52 : decode cX5_numberOf 52 = .ok (.aload_n 0, 1) := by decide +kernel
theorem dX5_numberOf_53 : decode cX5_numberOf 53 = .ok (.getfield 10, 3) := by decide +kernel
theorem dX5_numberOf_56 : decode cX5_numberOf 56 = .ok (.getfield 80, 3) := by decide +kernel
theorem dX5_numberOf_59 : decode cX5_numberOf 59 = .ok (.getfield 166, 3) := by decide +kernel
theorem dX5_numberOf_62 : decode cX5_numberOf 62 = .ok (.ireturn, 1) := by decide +kernel
theorem dX5_numberOf_63 : decode cX5_numberOf 63 = .ok (.aload_n 0, 1) := by decide +kernel
theorem dX5_numberOf_64 : decode cX5_numberOf 64 = .ok (.getfield 10, 3) := by decide +kernel
theorem dX5_numberOf_67 : decode cX5_numberOf 67 = .ok (.getfield 80, 3) := by decide +kernel
theorem dX5_numberOf_70 : decode cX5_numberOf 70 = .ok (.iconst 1, 1) := by decide +kernel
theorem dX5_numberOf_71 : decode cX5_numberOf 71 = .ok (.invokevirtual 263, 3) := by decide +kernel
theorem dX5_numberOf_74 : decode cX5_numberOf 74 = .ok (.ireturn, 1) := by decide +kernel
theorem dX5_numberOf_75 : decode cX5_numberOf 75 = .ok (.aload_n 0, 1) := by decide +kernel
theorem dX5_numberOf_76 : decode cX5_numberOf 76 = .ok (.getfield 10, 3) := by decide +kernel
theorem dX5_numberOf_79 : decode cX5_numberOf 79 = .ok (.getfield 266, 3) := by decide +kernel
theorem dX5_numberOf_82 : decode cX5_numberOf 82 = .ok (.invokevirtual 270, 3) := by decide +kernel
theorem dX5_numberOf_85 : decode cX5_numberOf 85 = .ok (.ireturn, 1) := by decide +kernel
theorem dX5_numberOf_86 : decode cX5_numberOf 86 = .ok (.aload_n 0, 1) := by decide +kernel
theorem dX5_numberOf_87 : decode cX5_numberOf 87 = .ok (.getfield 10, 3) := by decide +kernel
theorem dX5_numberOf_90 : decode cX5_numberOf 90 = .ok (.getfield 80, 3) := by decide +kernel
theorem dX5_numberOf_93 : decode cX5_numberOf 93 = .ok (.iconst 2, 1) := by decide +kernel
theorem dX5_numberOf_94 : decode cX5_numberOf 94 = .ok (.invokevirtual 263, 3) := by decide +kernel
theorem dX5_numberOf_97 : decode cX5_numberOf 97 = .ok (.ireturn, 1) := by decide +kernel
theorem dX5_numberOf_98 : decode cX5_numberOf 98 = .ok (.aload_n 0, 1) := by decide +kernel
theorem dX5_numberOf_99 : decode cX5_numberOf 99 = .ok (.getfield 10, 3) := by decide +kernel
theorem dX5_numberOf_102 : decode cX5_numberOf 102 = .ok (.getfield 80, 3) := by decide +kernel
theorem dX5_numberOf_105 : decode cX5_numberOf 105 = .ok (.invokevirtual 112, 3) := by decide +kernel
theorem dX5_numberOf_108 : decode cX5_numberOf 108 = .ok (.ireturn, 1) := by decide +kernel
theorem dX5_numberOf_109 : decode cX5_numberOf 109 = .ok (.aload_n 0, 1) := by decide +kernel
theorem dX5_numberOf_110 : decode cX5_numberOf 110 = .ok (.getfield 10, 3) := by decide +kernel
theorem dX5_numberOf_113 : decode cX5_numberOf 113 = .ok (.getfield 266, 3) := by decide +kernel
theorem dX5_numberOf_116 : decode cX5_numberOf 116 = .ok (.getfield 275, 3) := by decide +kernel
theorem dX5_numberOf_119 : decode cX5_numberOf 119 = .ok (.ireturn, 1) := by decide +kernel
theorem dX5_numberOf_120 : decode cX5_numberOf 120 = .ok (.aload_n 0, 1) := by decide +kernel
theorem dX5_numberOf_121 : decode cX5_numberOf 121 = .ok (.getfield 10, 3) := by decide +kernel
theorem dX5_numberOf_124 : decode cX5_numberOf 124 = .ok (.getfield 266, 3) := by decide +kernel
theorem dX5_numberOf_127 : decode cX5_numberOf 127 = .ok (.getfield 278, 3) := by decide +kernel
theorem dX5_numberOf_130 : decode cX5_numberOf 130 = .ok (.ireturn, 1) := by decide +kernel
theorem dX5_numberOf_131 : decode cX5_numberOf 131 = .ok (.aload_n 0, 1) := by decide +kernel
theorem dX5_numberOf_132 : decode cX5_numberOf 132 = .ok (.getfield 10, 3) := by decide +kernel
theorem dX5_numberOf_135 : decode cX5_numberOf 135 = .ok (.getfield 266, 3) := by decide +kernel
theorem dX5_numberOf_138 : decode cX5_numberOf 138 = .ok (.getfield 281, 3) := by decide +kernel
theorem dX5_numberOf_141 : decode cX5_numberOf 141 = .ok (.ireturn, 1) := by decide +kernel
theorem dX5_numberOf_142 : decode cX5_numberOf 142 = .ok (.aload_n 0, 1) := by decide +kernel
theorem dX5_numberOf_143 : decode cX5_numberOf 143 = .ok (.getfield 10, 3) := by decide +kernel
theorem dX5_numberOf_146 : decode cX5_numberOf 146 = .ok (.getfield 80, 3) := by decide +kernel
theorem dX5_numberOf_149 : decode cX5_numberOf 149 = .ok (.invokevirtual 284, 3) := by decide +kernel
theorem dX5_numberOf_152 : decode cX5_numberOf 152 = .ok (.ireturn, 1) := by decide +kernel
theorem dX5_numberOf_153 : decode cX5_numberOf 153 = .ok (.aload_n 0, 1) := by decide +kernel
theorem dX5_numberOf_154 : decode cX5_numberOf 154 = .ok (.getfield 19, 3) := by decide +kernel
theorem dX5_numberOf_157 : decode cX5_numberOf 157 = .ok (.getfield 171, 3) := by decide +kernel
theorem dX5_numberOf_160 : decode cX5_numberOf 160 = .ok (.ireturn, 1) := by decide +kernel
theorem dX5_mix_0 : decode cX5_mix 0 = .ok (.ldc2_w 287, 3) := by decide +kernel
theorem dX5_mix_3 : decode cX5_mix 3 = .ok (.lload_n 0, 1) := by decide +kernel
theorem dX5_mix_4 : decode cX5_mix 4 = .ok (.lmul, 1) := by decide +kernel
theorem dX5_mix_5 : decode cX5_mix 5 = .ok (.lload_n 2, 1) := by decide +kernel
theorem dX5_mix_6 : decode cX5_mix 6 = .ok (.ladd, 1) := by decide +kernel
theorem dX5_mix_7 : decode cX5_mix 7 = .ok (.lreturn, 1) := by decide +kernel
theorem dX5_mixKind_0 : decode cX5_mixKind 0 = .ok (.lload_n 1, 1) := by decide +kernel
theorem dX5_mixKind_1 : decode cX5_mixKind 1 = .ok (.lstore 4, 2) := by decide +kernel
theorem dX5_mixKind_3 : decode cX5_mixKind 3 = .ok (.iconst 0, 1) := by decide +kernel
theorem dX5_mixKind_4 : decode cX5_mixKind 4 = .ok (.istore 6, 2) := by decide +kernel
theorem dX5_mixKind_6 : decode cX5_mixKind 6 = .ok (.iload 6, 2) := by decide +kernel
theorem dX5_mixKind_8 : decode cX5_mixKind 8 = .ok (.bipush 10, 2) := by decide +kernel
theorem dX5_mixKind_10 : decode cX5_mixKind 10 = .ok (.if_icmp .gt 27, 3) := by decide +kernel
theorem dX5_mixKind_13 : decode cX5_mixKind 13 = .ok (.lload 4, 2) := by decide +kernel
theorem dX5_mixKind_15 : decode cX5_mixKind 15 = .ok (.aload_n 0, 1) := by decide +kernel
theorem dX5_mixKind_16 : decode cX5_mixKind 16 = .ok (.getfield 10, 3) := by decide +kernel
theorem dX5_mixKind_19 : decode cX5_mixKind 19 = .ok (.iload_n 3, 1) := by decide +kernel
theorem dX5_mixKind_20 : decode cX5_mixKind 20 = .ok (.iload 6, 2) := by decide +kernel
theorem dX5_mixKind_22 : decode cX5_mixKind 22 = .ok (.invokevirtual 182, 3) := by decide +kernel
theorem dX5_mixKind_25 : decode cX5_mixKind 25 = .ok (.i2l, 1) := by decide +kernel
theorem dX5_mixKind_26 : decode cX5_mixKind 26 = .ok (.invokestatic 216, 3) := by decide +kernel
theorem dX5_mixKind_29 : decode cX5_mixKind 29 = .ok (.lstore 4, 2) := by decide +kernel
theorem dX5_mixKind_31 : decode cX5_mixKind 31 = .ok (.iinc 6 1, 3) := by decide +kernel
theorem dX5_mixKind_34 : decode cX5_mixKind 34 = .ok (.goto (-28), 3) := by decide +kernel
theorem dX5_mixKind_37 : decode cX5_mixKind 37 = .ok (.iconst 0, 1) := by decide +kernel
theorem dX5_mixKind_38 : decode cX5_mixKind 38 = .ok (.istore 6, 2) := by decide +kernel
theorem dX5_mixKind_40 : decode cX5_mixKind 40 = .ok (.iload 6, 2) := by decide +kernel
theorem dX5_mixKind_42 : decode cX5_mixKind 42 = .ok (.bipush 16, 2) := by decide +kernel
theorem dX5_mixKind_44 : decode cX5_mixKind 44 = .ok (.if_icmp .ge 47, 3) := by decide +kernel
theorem dX5_mixKind_47 : decode cX5_mixKind 47 = .ok (.iconst 0, 1) := by decide +kernel
theorem dX5_mixKind_48 : decode cX5_mixKind 48 = .ok (.istore 7, 2) := by decide +kernel
theorem dX5_mixKind_50 : decode cX5_mixKind 50 = .ok (.iload 7, 2) := by decide +kernel
theorem dX5_mixKind_52 : decode cX5_mixKind 52 = .ok (.iconst 4, 1) := by decide +kernel
theorem dX5_mixKind_53 : decode cX5_mixKind 53 = .ok (.if_icmp .gt 32, 3) := by decide +kernel
theorem dX5_mixKind_56 : decode cX5_mixKind 56 = .ok (.lload 4, 2) := by decide +kernel
theorem dX5_mixKind_58 : decode cX5_mixKind 58 = .ok (.aload_n 0, 1) := by decide +kernel
theorem dX5_mixKind_59 : decode cX5_mixKind 59 = .ok (.getfield 10, 3) := by decide +kernel
theorem dX5_mixKind_62 : decode cX5_mixKind 62 = .ok (.getfield 80, 3) := by decide +kernel
theorem dX5_mixKind_65 : decode cX5_mixKind 65 = .ok (.iload_n 3, 1) := by decide +kernel
theorem dX5_mixKind_66 : decode cX5_mixKind 66 = .ok (.iload 6, 2) := by decide +kernel
theorem dX5_mixKind_68 : decode cX5_mixKind 68 = .ok (.iload 7, 2) := by decide +kernel
theorem dX5_mixKind_70 : decode cX5_mixKind 70 = .ok (.invokevirtual 179, 3) := by decide +kernel
theorem dX5_mixKind_73 : decode cX5_mixKind 73 = .ok (.i2l, 1) := by decide +kernel
theorem dX5_mixKind_74 : decode cX5_mixKind 74 = .ok (.invokestatic 216, 3) := by decide +kernel
theorem dX5_mixKind_77 : decode cX5_mixKind 77 = .ok (.lstore 4, 2) := by decide +kernel
theorem dX5_mixKind_79 : decode cX5_mixKind 79 = .ok (.iinc 7 1, 3) := by decide +kernel
theorem dX5_mixKind_82 : decode cX5_mixKind 82 = .ok (.goto (-32), 3) := by decide +kernel
theorem dX5_mixKind_85 : decode cX5_mixKind 85 = .ok (.iinc 6 1, 3) := by decide +kernel
theorem dX5_mixKind_88 : decode cX5_mixKind 88 = .ok (.goto (-48), 3) := by decide +kernel
theorem dX5_mixKind_91 : decode cX5_mixKind 91 = .ok (.iconst 0, 1) := by decide +kernel
theorem dX5_mixKind_92 : decode cX5_mixKind 92 = .ok (.istore 6, 2) := by decide +kernel
theorem dX5_mixKind_94 : decode cX5_mixKind 94 = .ok (.iload 6, 2) := by decide +kernel
theorem dX5_mixKind_96 : decode cX5_mixKind 96 = .ok (.iconst 3, 1) := by decide +kernel
theorem dX5_mixKind_97 : decode cX5_mixKind 97 = .ok (.if_icmp .gt 30, 3) := by decide +kernel
theorem dX5_mixKind_100 : decode cX5_mixKind 100 = .ok (.lload 4, 2) := by decide +kernel
theorem dX5_mixKind_102 : decode cX5_mixKind 102 = .ok (.aload_n 0, 1) := by decide +kernel
theorem dX5_mixKind_103 : decode cX5_mixKind 103 = .ok (.getfield 10, 3) := by decide +kernel
theorem dX5_mixKind_106 : decode cX5_mixKind 106 = .ok (.getfield 80, 3) := by decide +kernel
theorem dX5_mixKind_109 : decode cX5_mixKind 109 = .ok (.iload_n 3, 1) := by decide +kernel
theorem dX5_mixKind_110 : decode cX5_mixKind 110 = .ok (.iload 6, 2) := by decide +kernel
theorem dX5_mixKind_112 : decode cX5_mixKind 112 = .ok (.invokevirtual 89, 3) := by decide +kernel
theorem dX5_mixKind_115 : decode cX5_mixKind 115 = .ok (.i2l, 1) := by decide +kernel
theorem dX5_mixKind_116 : decode cX5_mixKind 116 = .ok (.invokestatic 216, 3) := by decide +kernel
theorem dX5_mixKind_119 : decode cX5_mixKind 119 = .ok (.lstore 4, 2) := by decide +kernel
theorem dX5_mixKind_121 : decode cX5_mixKind 121 = .ok (.iinc 6 1, 3) := by decide +kernel
theorem dX5_mixKind_124 : decode cX5_mixKind 124 = .ok (.goto (-30), 3) := by decide +kernel
theorem dX5_mixKind_127 : decode cX5_mixKind 127 = .ok (.lload 4, 2) := by decide +kernel
theorem dX5_mixKind_129 : decode cX5_mixKind 129 = .ok (.aload_n 0, 1) := by decide +kernel
theorem dX5_mixKind_130 : decode cX5_mixKind 130 = .ok (.getfield 10, 3) := by decide +kernel
theorem dX5_mixKind_133 : decode cX5_mixKind 133 = .ok (.iload_n 3, 1) := by decide +kernel
theorem dX5_mixKind_134 : decode cX5_mixKind 134 = .ok (.invokevirtual 188, 3) := by decide +kernel
theorem dX5_mixKind_137 : decode cX5_mixKind 137 = .ok (.i2l, 1) := by decide +kernel
theorem dX5_mixKind_138 : decode cX5_mixKind 138 = .ok (.invokestatic 216, 3) := by decide +kernel
theorem dX5_mixKind_141 : decode cX5_mixKind 141 = .ok (.lstore 4, 2) := by decide +kernel
theorem dX5_mixKind_143 : decode cX5_mixKind 143 = .ok (.lload 4, 2) := by decide +kernel
theorem dX5_mixKind_145 : decode cX5_mixKind 145 = .ok (.aload_n 0, 1) := by decide +kernel
theorem dX5_mixKind_146 : decode cX5_mixKind 146 = .ok (.getfield 10, 3) := by decide +kernel
theorem dX5_mixKind_149 : decode cX5_mixKind 149 = .ok (.getfield 80, 3) := by decide +kernel
theorem dX5_mixKind_152 : decode cX5_mixKind 152 = .ok (.iload_n 3, 1) := by decide +kernel
theorem dX5_mixKind_153 : decode cX5_mixKind 153 = .ok (.invokevirtual 191, 3) := by decide +kernel
theorem dX5_mixKind_156 : decode cX5_mixKind 156 = .ok (.i2l, 1) := by decide +kernel
theorem dX5_mixKind_157 : decode cX5_mixKind 157 = .ok (.invokestatic 216, 3) := by decide +kernel
theorem dX5_mixKind_160 : decode cX5_mixKind 160 = .ok (.lstore 4, 2) := by decide +kernel
theorem dX5_mixKind_162 : decode cX5_mixKind 162 = .ok (.iconst 1, 1) := by decide +kernel
theorem dX5_mixKind_163 : decode cX5_mixKind 163 = .ok (.istore 6, 2) := by decide +kernel
theorem dX5_mixKind_165 : decode cX5_mixKind 165 = .ok (.iload 6, 2) := by decide +kernel
theorem dX5_mixKind_167 : decode cX5_mixKind 167 = .ok (.iconst 3, 1) := by decide +kernel
theorem dX5_mixKind_168 : decode cX5_mixKind 168 = .ok (.if_icmp .gt 27, 3) := by decide +kernel
theorem dX5_mixKind_171 : decode cX5_mixKind 171 = .ok (.lload 4, 2) := by decide +kernel
theorem dX5_mixKind_173 : decode cX5_mixKind 173 = .ok (.aload_n 0, 1) := by decide +kernel
theorem dX5_mixKind_174 : decode cX5_mixKind 174 = .ok (.getfield 10, 3) := by decide +kernel
theorem dX5_mixKind_177 : decode cX5_mixKind 177 = .ok (.iload_n 3, 1) := by decide +kernel
theorem dX5_mixKind_178 : decode cX5_mixKind 178 = .ok (.iload 6, 2) := by decide +kernel
theorem dX5_mixKind_180 : decode cX5_mixKind 180 = .ok (.invokevirtual 194, 3) := by decide +kernel
theorem dX5_mixKind_183 : decode cX5_mixKind 183 = .ok (.i2l, 1) := by decide +kernel
theorem dX5_mixKind_184 : decode cX5_mixKind 184 = .ok (.invokestatic 216, 3) := by decide +kernel
theorem dX5_mixKind_187 : decode cX5_mixKind 187 = .ok (.lstore 4, 2) := by decide +kernel
theorem dX5_mixKind_189 : decode cX5_mixKind 189 = .ok (.iinc 6 1, 3) := by decide +kernel
theorem dX5_mixKind_192 : decode cX5_mixKind 192 = .ok (.goto (-27), 3) := by decide +kernel
theorem dX5_mixKind_195 : decode cX5_mixKind 195 = .ok (.lload 4, 2) := by decide +kernel
theorem dX5_mixKind_197 : decode cX5_mixKind 197 = .ok (.aload_n 0, 1) := by decide +kernel
theorem dX5_mixKind_198 : decode cX5_mixKind 198 = .ok (.getfield 10, 3) := by decide +kernel
theorem dX5_mixKind_201 : decode cX5_mixKind 201 = .ok (.getfield 80, 3) := by decide +kernel
theorem dX5_mixKind_204 : decode cX5_mixKind 204 = .ok (.iload_n 3, 1) := by decide +kernel
theorem dX5_mixKind_205 : decode cX5_mixKind 205 = .ok (.invokevirtual 197, 3) := by decide +kernel
theorem dX5_mixKind_208 : decode cX5_mixKind 208 = .ok (.i2l, 1) := by decide +kernel
theorem dX5_mixKind_209 : decode cX5_mixKind 209 = .ok (.invokestatic 216, 3) := by decide +kernel
theorem dX5_mixKind_212 : decode cX5_mixKind 212 = .ok (.lstore 4, 2) := by decide +kernel
theorem dX5_mixKind_214 : decode cX5_mixKind 214 = .ok (.lload 4, 2) := by decide +kernel
theorem dX5_mixKind_216 : decode cX5_mixKind 216 = .ok (.aload_n 0, 1) := by decide +kernel
theorem dX5_mixKind_217 : decode cX5_mixKind 217 = .ok (.getfield 10, 3) := by decide +kernel
theorem dX5_mixKind_220 : decode cX5_mixKind 220 = .ok (.getfield 80, 3) := by decide +kernel
theorem dX5_mixKind_223 : decode cX5_mixKind 223 = .ok (.iload_n 3, 1) := by decide +kernel
theorem dX5_mixKind_224 : decode cX5_mixKind 224 = .ok (.invokevirtual 210, 3) := by decide +kernel
theorem dX5_mixKind_227 : decode cX5_mixKind 227 = .ok (.f2d, 1) := by decide +kernel
theorem dX5_mixKind_228 : decode cX5_mixKind 228 = .ok (.bipush 23, 2) := by decide +kernel
theorem dX5_mixKind_230 : decode cX5_mixKind 230 = .ok (.bipush 127, 2) := by decide +kernel
theorem dX5_mixKind_232 : decode cX5_mixKind 232 = .ok (.invokestatic 224, 3) := by decide +kernel
theorem dX5_mixKind_235 : decode cX5_mixKind 235 = .ok (.invokestatic 216, 3) := by decide +kernel
theorem dX5_mixKind_238 : decode cX5_mixKind 238 = .ok (.lreturn, 1) := by decide +kernel
theorem dX5_bitsOf_0 : decode cX5_bitsOf 0 = .ok (.dload_n 0, 1) := by decide +kernel
theorem dX5_bitsOf_1 : decode cX5_bitsOf 1 = .ok (.dconst 0, 1) := by decide +kernel
theorem dX5_bitsOf_2 : decode cX5_bitsOf 2 = .ok (.dcmp .g, 1) := by decide +kernel
theorem dX5_bitsOf_3 : decode cX5_bitsOf 3 = .ok (.ifCond .gt 5, 3) := by decide +kernel
theorem dX5_bitsOf_6 : decode cX5_bitsOf 6 = .ok (.lconst 0, 1) := by decide +kernel
theorem dX5_bitsOf_7 : decode cX5_bitsOf 7 = .ok (.lreturn, 1) := by decide +kernel
theorem dX5_bitsOf_8 : decode cX5_bitsOf 8 = .ok (.dload_n 0, 1) := by decide +kernel
theorem dX5_bitsOf_9 : decode cX5_bitsOf 9 = .ok (.dstore 4, 2) := by decide +kernel
theorem dX5_bitsOf_11 : decode cX5_bitsOf 11 = .ok (.iload_n 3, 1) := by decide +kernel
theorem dX5_bitsOf_12 : decode cX5_bitsOf 12 = .ok (.i2l, 1) := by decide +kernel
theorem dX5_bitsOf_13 : decode cX5_bitsOf 13 = .ok (.lstore 6, 2) := by decide +kernel
theorem dX5_bitsOf_15 : decode cX5_bitsOf 15 = .ok (.dload 4, 2) := by decide +kernel
theorem dX5_bitsOf_17 : decode cX5_bitsOf 17 = .ok (.ldc2_w 289, 3) := by decide +kernel
theorem dX5_bitsOf_20 : decode cX5_bitsOf 20 = .ok (.dcmp .l, 1) := by decide +kernel
theorem dX5_bitsOf_21 : decode cX5_bitsOf 21 = .ok (.ifCond .lt 32, 3) := by decide +kernel
theorem dX5_bitsOf_24 : decode cX5_bitsOf 24 = .ok (.lload 6, 2) := by decide +kernel
theorem dX5_bitsOf_26 : decode cX5_bitsOf 26 = .ok (.ldc2_w 291, 3) := by decide +kernel
theorem dX5_bitsOf_29 : decode cX5_bitsOf 29 = .ok (.iload_n 3, 1) := by decide +kernel
theorem dX5_bitsOf_30 : decode cX5_bitsOf 30 = .ok (.i2l, 1) := by decide +kernel
theorem dX5_bitsOf_31 : decode cX5_bitsOf 31 = .ok (.lmul, 1) := by decide +kernel
theorem dX5_bitsOf_32 : decode cX5_bitsOf 32 = .ok (.lcmp, 1) := by decide +kernel
theorem dX5_bitsOf_33 : decode cX5_bitsOf 33 = .ok (.ifCond .ge 20, 3) := by decide +kernel
theorem dX5_bitsOf_36 : decode cX5_bitsOf 36 = .ok (.dload 4, 2) := by decide +kernel
theorem dX5_bitsOf_38 : decode cX5_bitsOf 38 = .ok (.ldc2_w 289, 3) := by decide +kernel
theorem dX5_bitsOf_41 : decode cX5_bitsOf 41 = .ok (.ddiv, 1) := by decide +kernel
theorem dX5_bitsOf_42 : decode cX5_bitsOf 42 = .ok (.dstore 4, 2) := by decide +kernel
theorem dX5_bitsOf_44 : decode cX5_bitsOf 44 = .ok (.lload 6, 2) := by decide +kernel
theorem dX5_bitsOf_46 : decode cX5_bitsOf 46 = .ok (.lconst 1, 1) := by decide +kernel
theorem dX5_bitsOf_47 : decode cX5_bitsOf 47 = .ok (.ladd, 1) := by decide +kernel
theorem dX5_bitsOf_48 : decode cX5_bitsOf 48 = .ok (.lstore 6, 2) := by decide +kernel
theorem dX5_bitsOf_50 : decode cX5_bitsOf 50 = .ok (.goto (-35), 3) := by decide +kernel
theorem dX5_bitsOf_53 : decode cX5_bitsOf 53 = .ok (.dload 4, 2) := by decide +kernel
theorem dX5_bitsOf_55 : decode cX5_bitsOf 55 = .ok (.dconst 1, 1) := by decide +kernel
theorem dX5_bitsOf_56 : decode cX5_bitsOf 56 = .ok (.dcmp .g, 1) := by decide +kernel
theorem dX5_bitsOf_57 : decode cX5_bitsOf 57 = .ok (.ifCond .ge 27, 3) := by decide +kernel
theorem dX5_bitsOf_60 : decode cX5_bitsOf 60 = .ok (.lload 6, 2) := by decide +kernel
theorem dX5_bitsOf_62 : decode cX5_bitsOf 62 = .ok (.lconst 1, 1) := by decide +kernel
theorem dX5_bitsOf_63 : decode cX5_bitsOf 63 = .ok (.lcmp, 1) := by decide +kernel
theorem dX5_bitsOf_64 : decode cX5_bitsOf 64 = .ok (.ifCond .le 20, 3) := by decide +kernel
theorem dX5_bitsOf_67 : decode cX5_bitsOf 67 = .ok (.dload 4, 2) := by decide +kernel
theorem dX5_bitsOf_69 : decode cX5_bitsOf 69 = .ok (.ldc2_w 289, 3) := by decide +kernel
theorem dX5_bitsOf_72 : decode cX5_bitsOf 72 = .ok (.dmul, 1) := by decide +kernel
theorem dX5_bitsOf_73 : decode cX5_bitsOf 73 = .ok (.dstore 4, 2) := by decide +kernel
theorem dX5_bitsOf_75 : decode cX5_bitsOf 75 = .ok (.lload 6, 2) := by decide +kernel
theorem dX5_bitsOf_77 : decode cX5_bitsOf 77 = .ok (.lconst 1, 1) := by decide +kernel
theorem dX5_bitsOf_78 : decode cX5_bitsOf 78 = .ok (.lsub, 1) := by decide +kernel
theorem dX5_bitsOf_79 : decode cX5_bitsOf 79 = .ok (.lstore 6, 2) := by decide +kernel
theorem dX5_bitsOf_81 : decode cX5_bitsOf 81 = .ok (.goto (-28), 3) := by decide +kernel
theorem dX5_bitsOf_84 : decode cX5_bitsOf 84 = .ok (.dload 4, 2) := by decide +kernel
theorem dX5_bitsOf_86 : decode cX5_bitsOf 86 = .ok (.dconst 1, 1) := by decide +kernel
theorem dX5_bitsOf_87 : decode cX5_bitsOf 87 = .ok (.dsub, 1) := by decide +kernel
theorem dX5_bitsOf_88 : decode cX5_bitsOf 88 = .ok (.lconst 1, 1) := by decide +kernel
theorem dX5_bitsOf_89 : decode cX5_bitsOf 89 = .ok (.iload_n 2, 1) := by decide +kernel
theorem dX5_bitsOf_90 : decode cX5_bitsOf 90 = .ok (.lshl, 1) := by decide +kernel
theorem dX5_bitsOf_91 : decode cX5_bitsOf 91 = .ok (.l2d, 1) := by decide +kernel
theorem dX5_bitsOf_92 : decode cX5_bitsOf 92 = .ok (.dmul, 1) := by decide +kernel
theorem dX5_bitsOf_93 : decode cX5_bitsOf 93 = .ok (.d2l, 1) := by decide +kernel
theorem dX5_bitsOf_94 : decode cX5_bitsOf 94 = .ok (.lstore 8, 2) := by decide +kernel
theorem dX5_bitsOf_96 : decode cX5_bitsOf 96 = .ok (.lload 6, 2) := by decide +kernel
theorem dX5_bitsOf_98 : decode cX5_bitsOf 98 = .ok (.iload_n 2, 1) := by decide +kernel
theorem dX5_bitsOf_99 : decode cX5_bitsOf 99 = .ok (.lshl, 1) := by decide +kernel
theorem dX5_bitsOf_100 : decode cX5_bitsOf 100 = .ok (.lload 8, 2) := by decide +kernel
theorem dX5_bitsOf_102 : decode cX5_bitsOf 102 = .ok (.ladd, 1) := by decide +kernel
theorem dX5_bitsOf_103 : decode cX5_bitsOf 103 = .ok (.lreturn, 1) := by decide +kernel
theorem dX6_init_0 : decode cX6_init 0 = .ok (.aload_n 0, 1) := by decide +kernel
theorem dX6_init_1 : decode cX6_init 1 = .ok (.invokespecial 1, 3) := by decide +kernel
theorem dX6_init_4 : decode cX6_init 4 = .ok (.aload_n 0, 1) := by decide +kernel
theorem dX6_init_5 : decode cX6_init 5 = .ok (.sipush 2910, 3) := by decide +kernel
theorem dX6_init_8 : decode cX6_init 8 = .ok (.newarray .int, 2) := by decide +kernel
theorem dX6_init_10 : decode cX6_init 10 = .ok (.putfield 7, 3) := by decide +kernel
theorem dX6_init_13 : decode cX6_init 13 = .ok (.aload_n 0, 1) := by decide +kernel
theorem dX6_init_14 : decode cX6_init 14 = .ok (.iconst 2, 1) := by decide +kernel
theorem dX6_init_15 : decode cX6_init 15 = .ok (.newarray .boolean, 2) := by decide +kernel
theorem dX6_init_17 : decode cX6_init 17 = .ok (.putfield 13, 3) := by decide +kernel
theorem dX6_init_20 : decode cX6_init 20 = .ok (.aload_n 0, 1) := by decide +kernel
theorem dX6_init_21 : decode cX6_init 21 = .ok (.bipush 60, 2) := by decide +kernel
theorem dX6_init_23 : decode cX6_init 23 = .ok (.newarray .char, 2) := by decide +kernel
theorem dX6_init_25 : decode cX6_init 25 = .ok (.putfield 17, 3) := by decide +kernel
theorem dX6_init_28 : decode cX6_init 28 = .ok (.aload_n 0, 1) := by decide +kernel
theorem dX6_init_29 : decode cX6_init 29 = .ok (.getfield 7, 3) := by decide +kernel
theorem dX6_init_32 : decode cX6_init 32 = .ok (.iconst 1, 1) := by decide +kernel
theorem dX6_init_33 : decode cX6_init 33 = .ok (.iconst 4, 1) := by decide +kernel
theorem dX6_init_34 : decode cX6_init 34 = .ok (.iastore, 1) := by decide +kernel
theorem dX6_init_35 : decode cX6_init 35 = .ok (.aload_n 0, 1) := by decide +kernel
theorem dX6_init_36 : decode cX6_init 36 = .ok (.getfield 7, 3) := by decide +kernel
theorem dX6_init_39 : decode cX6_init 39 = .ok (.iconst 2, 1) := by decide +kernel
theorem dX6_init_40 : decode cX6_init 40 = .ok (.iconst 3, 1) := by decide +kernel
theorem dX6_init_41 : decode cX6_init 41 = .ok (.iastore, 1) := by decide +kernel
theorem dX6_init_42 : decode cX6_init 42 = .ok (.iconst 0, 1) := by decide +kernel
theorem dX6_init_43 : decode cX6_init 43 = .ok (.istore_n 1, 1) := by decide +kernel
theorem dX6_init_44 : decode cX6_init 44 = .ok (.iload_n 1, 1) := by decide +kernel
theorem dX6_init_45 : decode cX6_init 45 = .ok (.iconst 4, 1) := by decide +kernel
theorem dX6_init_46 : decode cX6_init 46 = .ok (.if_icmp .ge 18, 3) := by decide +kernel
theorem dX6_init_49 : decode cX6_init 49 = .ok (.aload_n 0, 1) := by decide +kernel
theorem dX6_init_50 : decode cX6_init 50 = .ok (.getfield 7, 3) := by decide +kernel
theorem dX6_init_53 : decode cX6_init 53 = .ok (.iconst 4, 1) := by decide +kernel
theorem dX6_init_54 : decode cX6_init 54 = .ok (.iload_n 1, 1) := by decide +kernel
theorem dX6_init_55 : decode cX6_init 55 = .ok (.iadd, 1) := by decide +kernel
theorem dX6_init_56 : decode cX6_init 56 = .ok (.iconst 5, 1) := by decide +kernel
theorem dX6_init_57 : decode cX6_init 57 = .ok (.iastore, 1) := by decide +kernel
theorem dX6_init_58 : decode cX6_init 58 = .ok (.iinc 1 1, 3) := by decide +kernel
theorem dX6_init_61 : decode cX6_init 61 = .ok (.goto (-17), 3) := by decide +kernel
theorem dX6_init_64 : decode cX6_init 64 = .ok (.return_, 1) := by decide +kernel
theorem dX6_thrown_0 : decode cX6_thrown 0 = .ok (.aload_n 0, 1) := by decide +kernel
theorem dX6_thrown_1 : decode cX6_thrown 1 = .ok (.getfield 21, 3) := by decide +kernel
theorem dX6_thrown_4 : decode cX6_thrown 4 = .ok (.ireturn, 1) := by decide +kernel
theorem dX6_in_0 : decode cX6_in 0 = .ok (.iload_n 0, 1) := by decide +kernel
theorem dX6_in_1 : decode cX6_in 1 = .ok (.iload_n 1, 1) := by decide +kernel
theorem dX6_in_2 : decode cX6_in 2 = .ok (.if_icmp .lt 12, 3) := by decide +kernel
theorem dX6_in_5 : decode cX6_in 5 = .ok (.iload_n 0, 1) := by decide +kernel
theorem dX6_in_6 : decode cX6_in 6 = .ok (.iload_n 2, 1) := by decide +kernel
theorem dX6_in_7 : decode cX6_in 7 = .ok (.if_icmp .gt 7, 3) := by decide +kernel
theorem dX6_in_10 : decode cX6_in 10 = .ok (.iconst 1, 1) := by decide +kernel
theorem dX6_in_11 : decode cX6_in 11 = .ok (.goto 4, 3) := by decide +kernel
theorem dX6_in_14 : decode cX6_in 14 = .ok (.iconst 0, 1) := by decide +kernel
theorem dX6_in_15 : decode cX6_in 15 = .ok (.ireturn, 1) := by decide +kernel
theorem dX6_goes_0 : decode cX6_goes 0 = .ok (.aload_n 0, 1) := by decide +kernel
theorem dX6_goes_1 : decode cX6_goes 1 = .ok (.iload_n 1, 1) := by decide +kernel
theorem dX6_goes_2 : decode cX6_goes 2 = .ok (.ifCond .ne 7, 3) := by decide +kernel
theorem dX6_goes_5 : decode cX6_goes 5 = .ok (.iconst 1, 1) := by decide +kernel
theorem dX6_goes_6 : decode cX6_goes 6 = .ok (.goto 12, 3) := by decide +kernel
theorem dX6_goes_9 : decode cX6_goes 9 = .ok (.iload_n 2, 1) := by decide +kernel
theorem dX6_goes_10 : decode cX6_goes 10 = .ok (.ifCond .ne 7, 3) := by decide +kernel
theorem dX6_goes_13 : decode cX6_goes 13 = .ok (.iconst 2, 1) := by decide +kernel
theorem dX6_goes_14 : decode cX6_goes 14 = .ok (.goto 4, 3) := by decide +kernel
theorem dX6_goes_17 : decode cX6_goes 17 = .ok (.iconst 0, 1) := by decide +kernel
theorem dX6_goes_18 : decode cX6_goes 18 = .ok (.putfield 21, 3) := by decide +kernel
theorem dX6_goes_21 : decode cX6_goes 21 = .ok (.aload_n 0, 1) := by decide +kernel
theorem dX6_goes_22 : decode cX6_goes 22 = .ok (.getfield 21, 3) := by decide +kernel
theorem dX6_goes_25 : decode cX6_goes 25 = .ok (.ifCond .ne 7, 3) := by decide +kernel
theorem dX6_goes_28 : decode cX6_goes 28 = .ok (.iconst 1, 1) := by decide +kernel
theorem dX6_goes_29 : decode cX6_goes 29 = .ok (.goto 4, 3) := by decide +kernel
theorem dX6_goes_32 : decode cX6_goes 32 = .ok (.iconst 0, 1) := by decide +kernel
theorem dX6_goes_33 : decode cX6_goes 33 = .ok (.ireturn, 1) := by decide +kernel
theorem dX6_copies_0 : decode cX6_copies 0 = .ok (.iconst 0, 1) := by decide +kernel
theorem dX6_copies_1 : decode cX6_copies 1 = .ok (.istore_n 3, 1) := by decide +kernel
theorem dX6_copies_2 : decode cX6_copies 2 = .ok (.iload_n 3, 1) := by decide +kernel
theorem dX6_copies_3 : decode cX6_copies 3 = .ok (.sipush 291, 3) := by decide +kernel
theorem dX6_copies_6 : decode cX6_copies 6 = .ok (.if_icmp .ge 33, 3) := by decide +kernel
theorem dX6_copies_9 : decode cX6_copies 9 = .ok (.aload_n 0, 1) := by decide +kernel
theorem dX6_copies_10 : decode cX6_copies 10 = .ok (.getfield 7, 3) := by decide +kernel
theorem dX6_copies_13 : decode cX6_copies 13 = .ok (.sipush 291, 3) := by decide +kernel
theorem dX6_copies_16 : decode cX6_copies 16 = .ok (.iload_n 2, 1) := by decide +kernel
theorem dX6_copies_17 : decode cX6_copies 17 = .ok (.imul, 1) := by decide +kernel
theorem dX6_copies_18 : decode cX6_copies 18 = .ok (.iload_n 3, 1) := by decide +kernel
theorem dX6_copies_19 : decode cX6_copies 19 = .ok (.iadd, 1) := by decide +kernel
theorem dX6_copies_20 : decode cX6_copies 20 = .ok (.aload_n 0, 1) := by decide +kernel
theorem dX6_copies_21 : decode cX6_copies 21 = .ok (.getfield 7, 3) := by decide +kernel
theorem dX6_copies_24 : decode cX6_copies 24 = .ok (.sipush 291, 3) := by decide +kernel
theorem dX6_copies_27 : decode cX6_copies 27 = .ok (.iload_n 1, 1) := by decide +kernel
theorem dX6_copies_28 : decode cX6_copies 28 = .ok (.imul, 1) := by decide +kernel
theorem dX6_copies_29 : decode cX6_copies 29 = .ok (.iload_n 3, 1) := by decide +kernel
theorem dX6_copies_30 : decode cX6_copies 30 = .ok (.iadd, 1) := by decide +kernel
theorem dX6_copies_31 : decode cX6_copies 31 = .ok (.iaload, 1) := by decide +kernel
theorem dX6_copies_32 : decode cX6_copies 32 = .ok (.iastore, 1) := by decide +kernel
theorem dX6_copies_33 : decode cX6_copies 33 = .ok (.iinc 3 1, 3) := by decide +kernel
theorem dX6_copies_36 : decode cX6_copies 36 = .ok (.goto (-34), 3) := by decide +kernel
theorem dX6_copies_39 : decode cX6_copies 39 = .ok (.return_, 1) := by decide +kernel
theorem dX6_saves_0 : decode cX6_saves 0 = .ok (.aload_n 0, 1) := by decide +kernel
theorem dX6_saves_1 : decode cX6_saves 1 = .ok (.getfield 25, 3) := by decide +kernel
theorem dX6_saves_4 : decode cX6_saves 4 = .ok (.bipush 6, 2) := by decide +kernel
theorem dX6_saves_6 : decode cX6_saves 6 = .ok (.if_icmp .ne 35, 3) := by decide +kernel
theorem dX6_saves_9 : decode cX6_saves 9 = .ok (.iconst 1, 1) := by decide +kernel
theorem dX6_saves_10 : decode cX6_saves 10 = .ok (.istore_n 1, 1) := by decide +kernel
theorem dX6_saves_11 : decode cX6_saves 11 = .ok (.iload_n 1, 1) := by decide +kernel
theorem dX6_saves_12 : decode cX6_saves 12 = .ok (.bipush 6, 2) := by decide +kernel
theorem dX6_saves_14 : decode cX6_saves 14 = .ok (.if_icmp .ge 17, 3) := by decide +kernel
theorem dX6_saves_17 : decode cX6_saves 17 = .ok (.aload_n 0, 1) := by decide +kernel
theorem dX6_saves_18 : decode cX6_saves 18 = .ok (.iload_n 1, 1) := by decide +kernel
theorem dX6_saves_19 : decode cX6_saves 19 = .ok (.iconst 1, 1) := by decide +kernel
theorem dX6_saves_20 : decode cX6_saves 20 = .ok (.iadd, 1) := by decide +kernel
theorem dX6_saves_21 : decode cX6_saves 21 = .ok (.iload_n 1, 1) := by decide +kernel
theorem dX6_saves_22 : decode cX6_saves 22 = .ok (.invokevirtual 28, 3) := by decide +kernel
theorem dX6_saves_25 : decode cX6_saves 25 = .ok (.iinc 1 1, 3) := by decide +kernel
theorem dX6_saves_28 : decode cX6_saves 28 = .ok (.goto (-17), 3) := by decide +kernel
theorem dX6_saves_31 : decode cX6_saves 31 = .ok (.aload_n 0, 1) := by decide +kernel
theorem dX6_saves_32 : decode cX6_saves 32 = .ok (.dup, 1) := by decide +kernel
theorem dX6_saves_33 : decode cX6_saves 33 = .ok (.getfield 25, 3) := by decide +kernel
theorem dX6_saves_36 : decode cX6_saves 36 = .ok (.iconst 1, 1) := by decide +kernel
theorem dX6_saves_37 : decode cX6_saves 37 = .ok (.isub, 1) := by decide +kernel
theorem dX6_saves_38 : decode cX6_saves 38 = .ok (.putfield 25, 3) := by decide +kernel
theorem dX6_saves_41 : decode cX6_saves 41 = .ok (.aload_n 0, 1) := by decide +kernel
theorem dX6_saves_42 : decode cX6_saves 42 = .ok (.dup, 1) := by decide +kernel
theorem dX6_saves_43 : decode cX6_saves 43 = .ok (.getfield 25, 3) := by decide +kernel
theorem dX6_saves_46 : decode cX6_saves 46 = .ok (.iconst 1, 1) := by decide +kernel
theorem dX6_saves_47 : decode cX6_saves 47 = .ok (.iadd, 1) := by decide +kernel
theorem dX6_saves_48 : decode cX6_saves 48 = .ok (.putfield 25, 3) := by decide +kernel
theorem dX6_saves_51 : decode cX6_saves 51 = .ok (.aload_n 0, 1) := by decide +kernel
theorem dX6_saves_52 : decode cX6_saves 52 = .ok (.iconst 0, 1) := by decide +kernel
theorem dX6_saves_53 : decode cX6_saves 53 = .ok (.aload_n 0, 1) := by decide +kernel
theorem dX6_saves_54 : decode cX6_saves 54 = .ok (.getfield 25, 3) := by decide +kernel
theorem dX6_saves_57 : decode cX6_saves 57 = .ok (.invokevirtual 28, 3) := by decide +kernel
theorem dX6_saves_60 : decode cX6_saves 60 = .ok (.return_, 1) := by decide +kernel
theorem dX6_isKind_0 : decode cX6_isKind 0 = .ok (.iload_n 0, 1) := by decide +kernel
theorem dX6_isKind_1 : decode cX6_isKind 1 = .ok (.iconst 0, 1) := by decide +kernel
theorem dX6_isKind_2 : decode cX6_isKind 2 = .ok (.iconst 3, 1) := by decide +kernel
theorem dX6_isKind_3 : decode cX6_isKind 3 = .ok (.invokestatic 32, 3) := by decide +kernel
theorem dX6_isKind_6 : decode cX6_isKind 6 = .ok (.ireturn, 1) := by decide +kernel
theorem dX6_isKey_0 : decode cX6_isKey 0 = .ok (.iload_n 0, 1) := by decide +kernel
theorem dX6_isKey_1 : decode cX6_isKey 1 = .ok (.invokestatic 36, 3) := by decide +kernel
theorem dX6_isKey_4 : decode cX6_isKey 4 = .ok (.ifCond .eq 17, 3) := by decide +kernel
theorem dX6_isKey_7 : decode cX6_isKey 7 = .ok (.iload_n 1, 1) := by decide +kernel
theorem dX6_isKey_8 : decode cX6_isKey 8 = .ok (.iconst 0, 1) := by decide +kernel
theorem dX6_isKey_9 : decode cX6_isKey 9 = .ok (.bipush 15, 2) := by decide +kernel
theorem dX6_isKey_11 : decode cX6_isKey 11 = .ok (.invokestatic 32, 3) := by decide +kernel
theorem dX6_isKey_14 : decode cX6_isKey 14 = .ok (.ifCond .eq 7, 3) := by decide +kernel
theorem dX6_isKey_17 : decode cX6_isKey 17 = .ok (.iconst 1, 1) := by decide +kernel
theorem dX6_isKey_18 : decode cX6_isKey 18 = .ok (.goto 4, 3) := by decide +kernel
theorem dX6_isKey_21 : decode cX6_isKey 21 = .ok (.iconst 0, 1) := by decide +kernel
theorem dX6_isKey_22 : decode cX6_isKey 22 = .ok (.ireturn, 1) := by decide +kernel
theorem dX6_keyAt_0 : decode cX6_keyAt 0 = .ok (.iload_n 0, 1) := by decide +kernel
theorem dX6_keyAt_1 : decode cX6_keyAt 1 = .ok (.bipush 8, 2) := by decide +kernel
theorem dX6_keyAt_3 : decode cX6_keyAt 3 = .ok (.iadd, 1) := by decide +kernel
theorem dX6_keyAt_4 : decode cX6_keyAt 4 = .ok (.iconst 3, 1) := by decide +kernel
theorem dX6_keyAt_5 : decode cX6_keyAt 5 = .ok (.bipush 16, 2) := by decide +kernel
theorem dX6_keyAt_7 : decode cX6_keyAt 7 = .ok (.iload_n 1, 1) := by decide +kernel
theorem dX6_keyAt_8 : decode cX6_keyAt 8 = .ok (.imul, 1) := by decide +kernel
theorem dX6_keyAt_9 : decode cX6_keyAt 9 = .ok (.iload_n 2, 1) := by decide +kernel
theorem dX6_keyAt_10 : decode cX6_keyAt 10 = .ok (.iadd, 1) := by decide +kernel
theorem dX6_keyAt_11 : decode cX6_keyAt 11 = .ok (.imul, 1) := by decide +kernel
theorem dX6_keyAt_12 : decode cX6_keyAt 12 = .ok (.iadd, 1) := by decide +kernel
theorem dX6_keyAt_13 : decode cX6_keyAt 13 = .ok (.ireturn, 1) := by decide +kernel
theorem dX6_pileAt_0 : decode cX6_pileAt 0 = .ok (.aload_n 0, 1) := by decide +kernel
theorem dX6_pileAt_1 : decode cX6_pileAt 1 = .ok (.getfield 7, 3) := by decide +kernel
theorem dX6_pileAt_4 : decode cX6_pileAt 4 = .ok (.iload_n 1, 1) := by decide +kernel
theorem dX6_pileAt_5 : decode cX6_pileAt 5 = .ok (.sipush 200, 3) := by decide +kernel
theorem dX6_pileAt_8 : decode cX6_pileAt 8 = .ok (.iadd, 1) := by decide +kernel
theorem dX6_pileAt_9 : decode cX6_pileAt 9 = .ok (.bipush 16, 2) := by decide +kernel
theorem dX6_pileAt_11 : decode cX6_pileAt 11 = .ok (.iload_n 2, 1) := by decide +kernel
theorem dX6_pileAt_12 : decode cX6_pileAt 12 = .ok (.imul, 1) := by decide +kernel
theorem dX6_pileAt_13 : decode cX6_pileAt 13 = .ok (.iadd, 1) := by decide +kernel
theorem dX6_pileAt_14 : decode cX6_pileAt 14 = .ok (.iload_n 3, 1) := by decide +kernel
theorem dX6_pileAt_15 : decode cX6_pileAt 15 = .ok (.iadd, 1) := by decide +kernel
theorem dX6_pileAt_16 : decode cX6_pileAt 16 = .ok (.iaload, 1) := by decide +kernel
theorem dX6_pileAt_17 : decode cX6_pileAt 17 = .ok (.ireturn, 1) := by decide +kernel
theorem dX6_age_0 : decode cX6_age 0 = .ok (.aload_n 0, 1) := by decide +kernel
theorem dX6_age_1 : decode cX6_age 1 = .ok (.getfield 7, 3) := by decide +kernel
theorem dX6_age_4 : decode cX6_age 4 = .ok (.iload_n 1, 1) := by decide +kernel
theorem dX6_age_5 : decode cX6_age 5 = .ok (.iconst 3, 1) := by decide +kernel
theorem dX6_age_6 : decode cX6_age 6 = .ok (.iadd, 1) := by decide +kernel
theorem dX6_age_7 : decode cX6_age 7 = .ok (.iaload, 1) := by decide +kernel
theorem dX6_age_8 : decode cX6_age 8 = .ok (.aload_n 0, 1) := by decide +kernel
theorem dX6_age_9 : decode cX6_age 9 = .ok (.getfield 7, 3) := by decide +kernel
theorem dX6_age_12 : decode cX6_age 12 = .ok (.iload_n 1, 1) := by decide +kernel
theorem dX6_age_13 : decode cX6_age 13 = .ok (.iload_n 2, 1) := by decide +kernel
theorem dX6_age_14 : decode cX6_age 14 = .ok (.iload_n 3, 1) := by decide +kernel
theorem dX6_age_15 : decode cX6_age 15 = .ok (.invokestatic 40, 3) := by decide +kernel
theorem dX6_age_18 : decode cX6_age 18 = .ok (.iconst 2, 1) := by decide +kernel
theorem dX6_age_19 : decode cX6_age 19 = .ok (.iadd, 1) := by decide +kernel
theorem dX6_age_20 : decode cX6_age 20 = .ok (.iaload, 1) := by decide +kernel
theorem dX6_age_21 : decode cX6_age 21 = .ok (.isub, 1) := by decide +kernel
theorem dX6_age_22 : decode cX6_age 22 = .ok (.ireturn, 1) := by decide +kernel
theorem dX6_isRipe_0 : decode cX6_isRipe 0 = .ok (.aload_n 0, 1) := by decide +kernel
theorem dX6_isRipe_1 : decode cX6_isRipe 1 = .ok (.getfield 7, 3) := by decide +kernel
theorem dX6_isRipe_4 : decode cX6_isRipe 4 = .ok (.iload_n 1, 1) := by decide +kernel
theorem dX6_isRipe_5 : decode cX6_isRipe 5 = .ok (.iload_n 2, 1) := by decide +kernel
theorem dX6_isRipe_6 : decode cX6_isRipe 6 = .ok (.iload_n 3, 1) := by decide +kernel
theorem dX6_isRipe_7 : decode cX6_isRipe 7 = .ok (.invokestatic 40, 3) := by decide +kernel
theorem dX6_isRipe_10 : decode cX6_isRipe 10 = .ok (.iaload, 1) := by decide +kernel
theorem dX6_isRipe_11 : decode cX6_isRipe 11 = .ok (.iconst 2, 1) := by decide +kernel
theorem dX6_isRipe_12 : decode cX6_isRipe 12 = .ok (.if_icmp .ne 27, 3) := by decide +kernel
theorem dX6_isRipe_15 : decode cX6_isRipe 15 = .ok (.aload_n 0, 1) := by decide +kernel
theorem dX6_isRipe_16 : decode cX6_isRipe 16 = .ok (.iload_n 1, 1) := by decide +kernel
theorem dX6_isRipe_17 : decode cX6_isRipe 17 = .ok (.iload_n 2, 1) := by decide +kernel
theorem dX6_isRipe_18 : decode cX6_isRipe 18 = .ok (.iload_n 3, 1) := by decide +kernel
theorem dX6_isRipe_19 : decode cX6_isRipe 19 = .ok (.invokevirtual 44, 3) := by decide +kernel
theorem dX6_isRipe_22 : decode cX6_isRipe 22 = .ok (.aload_n 0, 1) := by decide +kernel
theorem dX6_isRipe_23 : decode cX6_isRipe 23 = .ok (.getfield 7, 3) := by decide +kernel
theorem dX6_isRipe_26 : decode cX6_isRipe 26 = .ok (.iload_n 1, 1) := by decide +kernel
theorem dX6_isRipe_27 : decode cX6_isRipe 27 = .ok (.iconst 4, 1) := by decide +kernel
theorem dX6_isRipe_28 : decode cX6_isRipe 28 = .ok (.iadd, 1) := by decide +kernel
theorem dX6_isRipe_29 : decode cX6_isRipe 29 = .ok (.iload_n 2, 1) := by decide +kernel
theorem dX6_isRipe_30 : decode cX6_isRipe 30 = .ok (.iadd, 1) := by decide +kernel
theorem dX6_isRipe_31 : decode cX6_isRipe 31 = .ok (.iaload, 1) := by decide +kernel
theorem dX6_isRipe_32 : decode cX6_isRipe 32 = .ok (.if_icmp .lt 7, 3) := by decide +kernel
theorem dX6_isRipe_35 : decode cX6_isRipe 35 = .ok (.iconst 1, 1) := by decide +kernel
theorem dX6_isRipe_36 : decode cX6_isRipe 36 = .ok (.goto 4, 3) := by decide +kernel
theorem dX6_isRipe_39 : decode cX6_isRipe 39 = .ok (.iconst 0, 1) := by decide +kernel
theorem dX6_isRipe_40 : decode cX6_isRipe 40 = .ok (.ireturn, 1) := by decide +kernel
theorem dX6_canGive_0 : decode cX6_canGive 0 = .ok (.aload_n 0, 1) := by decide +kernel
theorem dX6_canGive_1 : decode cX6_canGive 1 = .ok (.getfield 7, 3) := by decide +kernel
theorem dX6_canGive_4 : decode cX6_canGive 4 = .ok (.iload_n 1, 1) := by decide +kernel
theorem dX6_canGive_5 : decode cX6_canGive 5 = .ok (.iload_n 2, 1) := by decide +kernel
theorem dX6_canGive_6 : decode cX6_canGive 6 = .ok (.iload_n 3, 1) := by decide +kernel
theorem dX6_canGive_7 : decode cX6_canGive 7 = .ok (.invokestatic 40, 3) := by decide +kernel
theorem dX6_canGive_10 : decode cX6_canGive 10 = .ok (.iaload, 1) := by decide +kernel
theorem dX6_canGive_11 : decode cX6_canGive 11 = .ok (.ifCond .eq 13, 3) := by decide +kernel
theorem dX6_canGive_14 : decode cX6_canGive 14 = .ok (.aload_n 0, 1) := by decide +kernel
theorem dX6_canGive_15 : decode cX6_canGive 15 = .ok (.iload_n 1, 1) := by decide +kernel
theorem dX6_canGive_16 : decode cX6_canGive 16 = .ok (.iload_n 2, 1) := by decide +kernel
theorem dX6_canGive_17 : decode cX6_canGive 17 = .ok (.iload_n 3, 1) := by decide +kernel
theorem dX6_canGive_18 : decode cX6_canGive 18 = .ok (.invokevirtual 47, 3) := by decide +kernel
theorem dX6_canGive_21 : decode cX6_canGive 21 = .ok (.ifCond .eq 7, 3) := by decide +kernel
theorem dX6_canGive_24 : decode cX6_canGive 24 = .ok (.iconst 1, 1) := by decide +kernel
theorem dX6_canGive_25 : decode cX6_canGive 25 = .ok (.goto 4, 3) := by decide +kernel
theorem dX6_canGive_28 : decode cX6_canGive 28 = .ok (.iconst 0, 1) := by decide +kernel
theorem dX6_canGive_29 : decode cX6_canGive 29 = .ok (.ireturn, 1) := by decide +kernel
theorem dX6_placeOf_0 : decode cX6_placeOf 0 = .ok (.iconst (-1), 1) := by decide +kernel
theorem dX6_placeOf_1 : decode cX6_placeOf 1 = .ok (.istore 4, 2) := by decide +kernel
theorem dX6_placeOf_3 : decode cX6_placeOf 3 = .ok (.iconst 0, 1) := by decide +kernel
theorem dX6_placeOf_4 : decode cX6_placeOf 4 = .ok (.istore 5, 2) := by decide +kernel
theorem dX6_placeOf_6 : decode cX6_placeOf 6 = .ok (.iload 5, 2) := by decide +kernel
theorem dX6_placeOf_8 : decode cX6_placeOf 8 = .ok (.aload_n 0, 1) := by decide +kernel
theorem dX6_placeOf_9 : decode cX6_placeOf 9 = .ok (.getfield 7, 3) := by decide +kernel
theorem dX6_placeOf_12 : decode cX6_placeOf 12 = .ok (.iload_n 1, 1) := by decide +kernel
theorem dX6_placeOf_13 : decode cX6_placeOf 13 = .ok (.sipush 264, 3) := by decide +kernel
theorem dX6_placeOf_16 : decode cX6_placeOf 16 = .ok (.iadd, 1) := by decide +kernel
theorem dX6_placeOf_17 : decode cX6_placeOf 17 = .ok (.iload_n 2, 1) := by decide +kernel
theorem dX6_placeOf_18 : decode cX6_placeOf 18 = .ok (.iadd, 1) := by decide +kernel
theorem dX6_placeOf_19 : decode cX6_placeOf 19 = .ok (.iaload, 1) := by decide +kernel
theorem dX6_placeOf_20 : decode cX6_placeOf 20 = .ok (.if_icmp .ge 30, 3) := by decide +kernel
theorem dX6_placeOf_23 : decode cX6_placeOf 23 = .ok (.aload_n 0, 1) := by decide +kernel
theorem dX6_placeOf_24 : decode cX6_placeOf 24 = .ok (.iload_n 1, 1) := by decide +kernel
theorem dX6_placeOf_25 : decode cX6_placeOf 25 = .ok (.iload_n 2, 1) := by decide +kernel
theorem dX6_placeOf_26 : decode cX6_placeOf 26 = .ok (.iload 5, 2) := by decide +kernel
theorem dX6_placeOf_28 : decode cX6_placeOf 28 = .ok (.invokevirtual 50, 3) := by decide +kernel
theorem dX6_placeOf_31 : decode cX6_placeOf 31 = .ok (.iload_n 3, 1) := by decide +kernel
theorem dX6_placeOf_32 : decode cX6_placeOf 32 = .ok (.if_icmp .ne 8, 3) := by decide +kernel
theorem dX6_placeOf_35 : decode cX6_placeOf 35 = .ok (.iload 5, 2) := by decide +kernel
theorem dX6_placeOf_37 : decode cX6_placeOf 37 = .ok (.goto 5, 3) := by decide +kernel
theorem dX6_placeOf_40 : decode cX6_placeOf 40 = .ok (.iload 4, 2) := by decide +kernel
theorem dX6_placeOf_42 : decode cX6_placeOf 42 = .ok (.istore 4, 2) := by decide +kernel
theorem dX6_placeOf_44 : decode cX6_placeOf 44 = .ok (.iinc 5 1, 3) := by decide +kernel
theorem dX6_placeOf_47 : decode cX6_placeOf 47 = .ok (.goto (-41), 3) := by decide +kernel
theorem dX6_placeOf_50 : decode cX6_placeOf 50 = .ok (.iload 4, 2) := by decide +kernel
theorem dX6_placeOf_52 : decode cX6_placeOf 52 = .ok (.ireturn, 1) := by decide +kernel
theorem dX6_takes_0 : decode cX6_takes 0 = .ok (.aload_n 0, 1) := by decide +kernel
theorem dX6_takes_1 : decode cX6_takes 1 = .ok (.iload_n 1, 1) := by decide +kernel
theorem dX6_takes_2 : decode cX6_takes 2 = .ok (.iload_n 2, 1) := by decide +kernel
theorem dX6_takes_3 : decode cX6_takes 3 = .ok (.iload_n 3, 1) := by decide +kernel
theorem dX6_takes_4 : decode cX6_takes 4 = .ok (.invokevirtual 53, 3) := by decide +kernel
theorem dX6_takes_7 : decode cX6_takes 7 = .ok (.istore 4, 2) := by decide +kernel
theorem dX6_takes_9 : decode cX6_takes 9 = .ok (.aload_n 0, 1) := by decide +kernel
theorem dX6_takes_10 : decode cX6_takes 10 = .ok (.getfield 7, 3) := by decide +kernel
theorem dX6_takes_13 : decode cX6_takes 13 = .ok (.iload_n 1, 1) := by decide +kernel
theorem dX6_takes_14 : decode cX6_takes 14 = .ok (.sipush 264, 3) := by decide +kernel
theorem dX6_takes_17 : decode cX6_takes 17 = .ok (.iadd, 1) := by decide +kernel
theorem dX6_takes_18 : decode cX6_takes 18 = .ok (.iload_n 2, 1) := by decide +kernel
theorem dX6_takes_19 : decode cX6_takes 19 = .ok (.iadd, 1) := by decide +kernel
theorem dX6_takes_20 : decode cX6_takes 20 = .ok (.dup2, 1) := by decide +kernel
theorem dX6_takes_21 : decode cX6_takes 21 = .ok (.iaload, 1) := by decide +kernel
theorem dX6_takes_22 : decode cX6_takes 22 = .ok (.iconst 1, 1) := by decide +kernel
theorem dX6_takes_23 : decode cX6_takes 23 = .ok (.isub, 1) := by decide +kernel
theorem dX6_takes_24 : decode cX6_takes 24 = .ok (.iastore, 1) := by decide +kernel
theorem dX6_takes_25 : decode cX6_takes 25 = .ok (.iload 4, 2) := by decide +kernel
theorem dX6_takes_27 : decode cX6_takes 27 = .ok (.istore 5, 2) := by decide +kernel
theorem dX6_takes_29 : decode cX6_takes 29 = .ok (.iload 5, 2) := by decide +kernel
theorem dX6_takes_31 : decode cX6_takes 31 = .ok (.aload_n 0, 1) := by decide +kernel
theorem dX6_takes_32 : decode cX6_takes 32 = .ok (.getfield 7, 3) := by decide +kernel
theorem dX6_takes_35 : decode cX6_takes 35 = .ok (.iload_n 1, 1) := by decide +kernel
theorem dX6_takes_36 : decode cX6_takes 36 = .ok (.sipush 264, 3) := by decide +kernel
theorem dX6_takes_39 : decode cX6_takes 39 = .ok (.iadd, 1) := by decide +kernel
theorem dX6_takes_40 : decode cX6_takes 40 = .ok (.iload_n 2, 1) := by decide +kernel
theorem dX6_takes_41 : decode cX6_takes 41 = .ok (.iadd, 1) := by decide +kernel
theorem dX6_takes_42 : decode cX6_takes 42 = .ok (.iaload, 1) := by decide +kernel
theorem dX6_takes_43 : decode cX6_takes 43 = .ok (.if_icmp .ge 37, 3) := by decide +kernel
theorem dX6_takes_46 : decode cX6_takes 46 = .ok (.aload_n 0, 1) := by decide +kernel
theorem dX6_takes_47 : decode cX6_takes 47 = .ok (.getfield 7, 3) := by decide +kernel
theorem dX6_takes_50 : decode cX6_takes 50 = .ok (.iload_n 1, 1) := by decide +kernel
theorem dX6_takes_51 : decode cX6_takes 51 = .ok (.sipush 200, 3) := by decide +kernel
theorem dX6_takes_54 : decode cX6_takes 54 = .ok (.iadd, 1) := by decide +kernel
theorem dX6_takes_55 : decode cX6_takes 55 = .ok (.bipush 16, 2) := by decide +kernel
theorem dX6_takes_57 : decode cX6_takes 57 = .ok (.iload_n 2, 1) := by decide +kernel
theorem dX6_takes_58 : decode cX6_takes 58 = .ok (.imul, 1) := by decide +kernel
theorem dX6_takes_59 : decode cX6_takes 59 = .ok (.iadd, 1) := by decide +kernel
theorem dX6_takes_60 : decode cX6_takes 60 = .ok (.iload 5, 2) := by decide +kernel
theorem dX6_takes_62 : decode cX6_takes 62 = .ok (.iadd, 1) := by decide +kernel
theorem dX6_takes_63 : decode cX6_takes 63 = .ok (.aload_n 0, 1) := by decide +kernel
theorem dX6_takes_64 : decode cX6_takes 64 = .ok (.iload_n 1, 1) := by decide +kernel
theorem dX6_takes_65 : decode cX6_takes 65 = .ok (.iload_n 2, 1) := by decide +kernel
theorem dX6_takes_66 : decode cX6_takes 66 = .ok (.iload 5, 2) := by decide +kernel
theorem dX6_takes_68 : decode cX6_takes 68 = .ok (.iconst 1, 1) := by decide +kernel
theorem dX6_takes_69 : decode cX6_takes 69 = .ok (.iadd, 1) := by decide +kernel
theorem dX6_takes_70 : decode cX6_takes 70 = .ok (.invokevirtual 50, 3) := by decide +kernel
theorem dX6_takes_73 : decode cX6_takes 73 = .ok (.iastore, 1) := by decide +kernel
theorem dX6_takes_74 : decode cX6_takes 74 = .ok (.iinc 5 1, 3) := by decide +kernel
theorem dX6_takes_77 : decode cX6_takes 77 = .ok (.goto (-48), 3) := by decide +kernel
theorem dX6_takes_80 : decode cX6_takes 80 = .ok (.return_, 1) := by decide +kernel
theorem dX6_lowestFresh_0 : decode cX6_lowestFresh 0 = .ok (.iconst (-1), 1) := by decide +kernel
theorem dX6_lowestFresh_1 : decode cX6_lowestFresh 1 = .ok (.istore_n 3, 1) := by decide +kernel
theorem dX6_lowestFresh_2 : decode cX6_lowestFresh 2 = .ok (.bipush 15, 2) := by decide +kernel
theorem dX6_lowestFresh_4 : decode cX6_lowestFresh 4 = .ok (.istore 4, 2) := by decide +kernel
theorem dX6_lowestFresh_6 : decode cX6_lowestFresh 6 = .ok (.iload 4, 2) := by decide +kernel
theorem dX6_lowestFresh_8 : decode cX6_lowestFresh 8 = .ok (.ifCond .lt 31, 3) := by decide +kernel
theorem dX6_lowestFresh_11 : decode cX6_lowestFresh 11 = .ok (.aload_n 0, 1) := by decide +kernel
theorem dX6_lowestFresh_12 : decode cX6_lowestFresh 12 = .ok (.getfield 7, 3) := by decide +kernel
theorem dX6_lowestFresh_15 : decode cX6_lowestFresh 15 = .ok (.iload_n 1, 1) := by decide +kernel
theorem dX6_lowestFresh_16 : decode cX6_lowestFresh 16 = .ok (.iload_n 2, 1) := by decide +kernel
theorem dX6_lowestFresh_17 : decode cX6_lowestFresh 17 = .ok (.iload 4, 2) := by decide +kernel
theorem dX6_lowestFresh_19 : decode cX6_lowestFresh 19 = .ok (.invokestatic 40, 3) := by decide +kernel
theorem dX6_lowestFresh_22 : decode cX6_lowestFresh 22 = .ok (.iaload, 1) := by decide +kernel
theorem dX6_lowestFresh_23 : decode cX6_lowestFresh 23 = .ok (.ifCond .ne 8, 3) := by decide +kernel
theorem dX6_lowestFresh_26 : decode cX6_lowestFresh 26 = .ok (.iload 4, 2) := by decide +kernel
theorem dX6_lowestFresh_28 : decode cX6_lowestFresh 28 = .ok (.goto 4, 3) := by decide +kernel
theorem dX6_lowestFresh_31 : decode cX6_lowestFresh 31 = .ok (.iload_n 3, 1) := by decide +kernel
theorem dX6_lowestFresh_32 : decode cX6_lowestFresh 32 = .ok (.istore_n 3, 1) := by decide +kernel
theorem dX6_lowestFresh_33 : decode cX6_lowestFresh 33 = .ok (.iinc 4 (-1), 3) := by decide +kernel
theorem dX6_lowestFresh_36 : decode cX6_lowestFresh 36 = .ok (.goto (-30), 3) := by decide +kernel
theorem dX6_lowestFresh_39 : decode cX6_lowestFresh 39 = .ok (.iload_n 3, 1) := by decide +kernel
theorem dX6_lowestFresh_40 : decode cX6_lowestFresh 40 = .ok (.ireturn, 1) := by decide +kernel
theorem dX6_topRipe_0 : decode cX6_topRipe 0 = .ok (.iconst (-1), 1) := by decide +kernel
theorem dX6_topRipe_1 : decode cX6_topRipe 1 = .ok (.istore_n 3, 1) := by decide +kernel
theorem dX6_topRipe_2 : decode cX6_topRipe 2 = .ok (.aload_n 0, 1) := by decide +kernel
theorem dX6_topRipe_3 : decode cX6_topRipe 3 = .ok (.getfield 7, 3) := by decide +kernel
theorem dX6_topRipe_6 : decode cX6_topRipe 6 = .ok (.iload_n 1, 1) := by decide +kernel
theorem dX6_topRipe_7 : decode cX6_topRipe 7 = .ok (.sipush 264, 3) := by decide +kernel
theorem dX6_topRipe_10 : decode cX6_topRipe 10 = .ok (.iadd, 1) := by decide +kernel
theorem dX6_topRipe_11 : decode cX6_topRipe 11 = .ok (.iload_n 2, 1) := by decide +kernel
theorem dX6_topRipe_12 : decode cX6_topRipe 12 = .ok (.iadd, 1) := by decide +kernel
theorem dX6_topRipe_13 : decode cX6_topRipe 13 = .ok (.iaload, 1) := by decide +kernel
theorem dX6_topRipe_14 : decode cX6_topRipe 14 = .ok (.iconst 1, 1) := by decide +kernel
theorem dX6_topRipe_15 : decode cX6_topRipe 15 = .ok (.isub, 1) := by decide +kernel
theorem dX6_topRipe_16 : decode cX6_topRipe 16 = .ok (.istore 4, 2) := by decide +kernel
theorem dX6_topRipe_18 : decode cX6_topRipe 18 = .ok (.iload 4, 2) := by decide +kernel
theorem dX6_topRipe_20 : decode cX6_topRipe 20 = .ok (.ifCond .lt 37, 3) := by decide +kernel
theorem dX6_topRipe_23 : decode cX6_topRipe 23 = .ok (.aload_n 0, 1) := by decide +kernel
theorem dX6_topRipe_24 : decode cX6_topRipe 24 = .ok (.iload_n 1, 1) := by decide +kernel
theorem dX6_topRipe_25 : decode cX6_topRipe 25 = .ok (.iload_n 2, 1) := by decide +kernel
theorem dX6_topRipe_26 : decode cX6_topRipe 26 = .ok (.iload 4, 2) := by decide +kernel
theorem dX6_topRipe_28 : decode cX6_topRipe 28 = .ok (.invokevirtual 50, 3) := by decide +kernel
theorem dX6_topRipe_31 : decode cX6_topRipe 31 = .ok (.istore 5, 2) := by decide +kernel
theorem dX6_topRipe_33 : decode cX6_topRipe 33 = .ok (.aload_n 0, 1) := by decide +kernel
theorem dX6_topRipe_34 : decode cX6_topRipe 34 = .ok (.iload_n 1, 1) := by decide +kernel
theorem dX6_topRipe_35 : decode cX6_topRipe 35 = .ok (.iload_n 2, 1) := by decide +kernel
theorem dX6_topRipe_36 : decode cX6_topRipe 36 = .ok (.iload 5, 2) := by decide +kernel
theorem dX6_topRipe_38 : decode cX6_topRipe 38 = .ok (.invokevirtual 47, 3) := by decide +kernel
theorem dX6_topRipe_41 : decode cX6_topRipe 41 = .ok (.ifCond .eq 8, 3) := by decide +kernel
theorem dX6_topRipe_44 : decode cX6_topRipe 44 = .ok (.iload 5, 2) := by decide +kernel
theorem dX6_topRipe_46 : decode cX6_topRipe 46 = .ok (.goto 4, 3) := by decide +kernel
theorem dX6_topRipe_49 : decode cX6_topRipe 49 = .ok (.iload_n 3, 1) := by decide +kernel
theorem dX6_topRipe_50 : decode cX6_topRipe 50 = .ok (.istore_n 3, 1) := by decide +kernel
theorem dX6_topRipe_51 : decode cX6_topRipe 51 = .ok (.iinc 4 (-1), 3) := by decide +kernel
theorem dX6_topRipe_54 : decode cX6_topRipe 54 = .ok (.goto (-36), 3) := by decide +kernel
theorem dX6_topRipe_57 : decode cX6_topRipe 57 = .ok (.iload_n 3, 1) := by decide +kernel
theorem dX6_topRipe_58 : decode cX6_topRipe 58 = .ok (.ireturn, 1) := by decide +kernel
theorem dX6_draws_0 : decode cX6_draws 0 = .ok (.aload_n 0, 1) := by decide +kernel
theorem dX6_draws_1 : decode cX6_draws 1 = .ok (.iload_n 1, 1) := by decide +kernel
theorem dX6_draws_2 : decode cX6_draws 2 = .ok (.iload_n 2, 1) := by decide +kernel
theorem dX6_draws_3 : decode cX6_draws 3 = .ok (.invokevirtual 56, 3) := by decide +kernel
theorem dX6_draws_6 : decode cX6_draws 6 = .ok (.istore_n 3, 1) := by decide +kernel
theorem dX6_draws_7 : decode cX6_draws 7 = .ok (.aload_n 0, 1) := by decide +kernel
theorem dX6_draws_8 : decode cX6_draws 8 = .ok (.iload_n 1, 1) := by decide +kernel
theorem dX6_draws_9 : decode cX6_draws 9 = .ok (.iload_n 2, 1) := by decide +kernel
theorem dX6_draws_10 : decode cX6_draws 10 = .ok (.invokevirtual 60, 3) := by decide +kernel
theorem dX6_draws_13 : decode cX6_draws 13 = .ok (.istore 4, 2) := by decide +kernel
theorem dX6_draws_15 : decode cX6_draws 15 = .ok (.aload_n 0, 1) := by decide +kernel
theorem dX6_draws_16 : decode cX6_draws 16 = .ok (.getfield 7, 3) := by decide +kernel
theorem dX6_draws_19 : decode cX6_draws 19 = .ok (.iload_n 1, 1) := by decide +kernel
theorem dX6_draws_20 : decode cX6_draws 20 = .ok (.iaload, 1) := by decide +kernel
theorem dX6_draws_21 : decode cX6_draws 21 = .ok (.ifCond .ne 14, 3) := by decide +kernel
theorem dX6_draws_24 : decode cX6_draws 24 = .ok (.iload_n 3, 1) := by decide +kernel
theorem dX6_draws_25 : decode cX6_draws 25 = .ok (.ifCond .lt 7, 3) := by decide +kernel
theorem dX6_draws_28 : decode cX6_draws 28 = .ok (.iload_n 3, 1) := by decide +kernel
theorem dX6_draws_29 : decode cX6_draws 29 = .ok (.goto 5, 3) := by decide +kernel
theorem dX6_draws_32 : decode cX6_draws 32 = .ok (.iload 4, 2) := by decide +kernel
theorem dX6_draws_34 : decode cX6_draws 34 = .ok (.ireturn, 1) := by decide +kernel
theorem dX6_draws_35 : decode cX6_draws 35 = .ok (.aload_n 0, 1) := by decide +kernel
theorem dX6_draws_36 : decode cX6_draws 36 = .ok (.getfield 7, 3) := by decide +kernel
theorem dX6_draws_39 : decode cX6_draws 39 = .ok (.iload_n 1, 1) := by decide +kernel
theorem dX6_draws_40 : decode cX6_draws 40 = .ok (.iaload, 1) := by decide +kernel
theorem dX6_draws_41 : decode cX6_draws 41 = .ok (.iconst 1, 1) := by decide +kernel
theorem dX6_draws_42 : decode cX6_draws 42 = .ok (.if_icmp .ne 15, 3) := by decide +kernel
theorem dX6_draws_45 : decode cX6_draws 45 = .ok (.iload 4, 2) := by decide +kernel
theorem dX6_draws_47 : decode cX6_draws 47 = .ok (.ifCond .lt 8, 3) := by decide +kernel
theorem dX6_draws_50 : decode cX6_draws 50 = .ok (.iload 4, 2) := by decide +kernel
theorem dX6_draws_52 : decode cX6_draws 52 = .ok (.goto 4, 3) := by decide +kernel
theorem dX6_draws_55 : decode cX6_draws 55 = .ok (.iload_n 3, 1) := by decide +kernel
theorem dX6_draws_56 : decode cX6_draws 56 = .ok (.ireturn, 1) := by decide +kernel
theorem dX6_draws_57 : decode cX6_draws 57 = .ok (.iconst (-1), 1) := by decide +kernel
theorem dX6_draws_58 : decode cX6_draws 58 = .ok (.istore 5, 2) := by decide +kernel
theorem dX6_draws_60 : decode cX6_draws 60 = .ok (.iconst 0, 1) := by decide +kernel
theorem dX6_draws_61 : decode cX6_draws 61 = .ok (.istore 6, 2) := by decide +kernel
theorem dX6_draws_63 : decode cX6_draws 63 = .ok (.iconst 0, 1) := by decide +kernel
theorem dX6_draws_64 : decode cX6_draws 64 = .ok (.istore 7, 2) := by decide +kernel
theorem dX6_draws_66 : decode cX6_draws 66 = .ok (.iload 7, 2) := by decide +kernel
theorem dX6_draws_68 : decode cX6_draws 68 = .ok (.bipush 16, 2) := by decide +kernel
theorem dX6_draws_70 : decode cX6_draws 70 = .ok (.if_icmp .ge 70, 3) := by decide +kernel
theorem dX6_draws_73 : decode cX6_draws 73 = .ok (.aload_n 0, 1) := by decide +kernel
theorem dX6_draws_74 : decode cX6_draws 74 = .ok (.getfield 7, 3) := by decide +kernel
theorem dX6_draws_77 : decode cX6_draws 77 = .ok (.iload_n 1, 1) := by decide +kernel
theorem dX6_draws_78 : decode cX6_draws 78 = .ok (.iaload, 1) := by decide +kernel
theorem dX6_draws_79 : decode cX6_draws 79 = .ok (.iconst 2, 1) := by decide +kernel
theorem dX6_draws_80 : decode cX6_draws 80 = .ok (.if_icmp .ne 7, 3) := by decide +kernel
theorem dX6_draws_83 : decode cX6_draws 83 = .ok (.iconst 0, 1) := by decide +kernel
theorem dX6_draws_84 : decode cX6_draws 84 = .ok (.goto 17, 3) := by decide +kernel
theorem dX6_draws_87 : decode cX6_draws 87 = .ok (.aload_n 0, 1) := by decide +kernel
theorem dX6_draws_88 : decode cX6_draws 88 = .ok (.getfield 7, 3) := by decide +kernel
theorem dX6_draws_91 : decode cX6_draws 91 = .ok (.iload_n 1, 1) := by decide +kernel
theorem dX6_draws_92 : decode cX6_draws 92 = .ok (.iload_n 2, 1) := by decide +kernel
theorem dX6_draws_93 : decode cX6_draws 93 = .ok (.iload 7, 2) := by decide +kernel
theorem dX6_draws_95 : decode cX6_draws 95 = .ok (.invokestatic 40, 3) := by decide +kernel
theorem dX6_draws_98 : decode cX6_draws 98 = .ok (.iconst 1, 1) := by decide +kernel
theorem dX6_draws_99 : decode cX6_draws 99 = .ok (.iadd, 1) := by decide +kernel
theorem dX6_draws_100 : decode cX6_draws 100 = .ok (.iaload, 1) := by decide +kernel
theorem dX6_draws_101 : decode cX6_draws 101 = .ok (.istore 8, 2) := by decide +kernel
theorem dX6_draws_103 : decode cX6_draws 103 = .ok (.aload_n 0, 1) := by decide +kernel
theorem dX6_draws_104 : decode cX6_draws 104 = .ok (.iload_n 1, 1) := by decide +kernel
theorem dX6_draws_105 : decode cX6_draws 105 = .ok (.iload_n 2, 1) := by decide +kernel
theorem dX6_draws_106 : decode cX6_draws 106 = .ok (.iload 7, 2) := by decide +kernel
theorem dX6_draws_108 : decode cX6_draws 108 = .ok (.invokevirtual 63, 3) := by decide +kernel
theorem dX6_draws_111 : decode cX6_draws 111 = .ok (.ifCond .eq 23, 3) := by decide +kernel
theorem dX6_draws_114 : decode cX6_draws 114 = .ok (.iload 5, 2) := by decide +kernel
theorem dX6_draws_116 : decode cX6_draws 116 = .ok (.ifCond .lt 10, 3) := by decide +kernel
theorem dX6_draws_119 : decode cX6_draws 119 = .ok (.iload 8, 2) := by decide +kernel
theorem dX6_draws_121 : decode cX6_draws 121 = .ok (.iload 6, 2) := by decide +kernel
theorem dX6_draws_123 : decode cX6_draws 123 = .ok (.if_icmp .ge 11, 3) := by decide +kernel
theorem dX6_draws_126 : decode cX6_draws 126 = .ok (.iload 7, 2) := by decide +kernel
theorem dX6_draws_128 : decode cX6_draws 128 = .ok (.istore 5, 2) := by decide +kernel
theorem dX6_draws_130 : decode cX6_draws 130 = .ok (.iload 8, 2) := by decide +kernel
theorem dX6_draws_132 : decode cX6_draws 132 = .ok (.istore 6, 2) := by decide +kernel
theorem dX6_draws_134 : decode cX6_draws 134 = .ok (.iinc 7 1, 3) := by decide +kernel
theorem dX6_draws_137 : decode cX6_draws 137 = .ok (.goto (-71), 3) := by decide +kernel
theorem dX6_draws_140 : decode cX6_draws 140 = .ok (.iload 5, 2) := by decide +kernel
theorem dX6_draws_142 : decode cX6_draws 142 = .ok (.ireturn, 1) := by decide +kernel
theorem dX6_gives_0 : decode cX6_gives 0 = .ok (.iload_n 1, 1) := by decide +kernel
theorem dX6_gives_1 : decode cX6_gives 1 = .ok (.iload_n 2, 1) := by decide +kernel
theorem dX6_gives_2 : decode cX6_gives 2 = .ok (.iload_n 3, 1) := by decide +kernel
theorem dX6_gives_3 : decode cX6_gives 3 = .ok (.invokestatic 40, 3) := by decide +kernel
theorem dX6_gives_6 : decode cX6_gives 6 = .ok (.istore 4, 2) := by decide +kernel
theorem dX6_gives_8 : decode cX6_gives 8 = .ok (.aload_n 0, 1) := by decide +kernel
theorem dX6_gives_9 : decode cX6_gives 9 = .ok (.getfield 7, 3) := by decide +kernel
theorem dX6_gives_12 : decode cX6_gives 12 = .ok (.iload 4, 2) := by decide +kernel
theorem dX6_gives_14 : decode cX6_gives 14 = .ok (.iaload, 1) := by decide +kernel
theorem dX6_gives_15 : decode cX6_gives 15 = .ok (.iconst 2, 1) := by decide +kernel
theorem dX6_gives_16 : decode cX6_gives 16 = .ok (.if_icmp .ne 10, 3) := by decide +kernel
theorem dX6_gives_19 : decode cX6_gives 19 = .ok (.aload_n 0, 1) := by decide +kernel
theorem dX6_gives_20 : decode cX6_gives 20 = .ok (.iload_n 1, 1) := by decide +kernel
theorem dX6_gives_21 : decode cX6_gives 21 = .ok (.iload_n 2, 1) := by decide +kernel
theorem dX6_gives_22 : decode cX6_gives 22 = .ok (.iload_n 3, 1) := by decide +kernel
theorem dX6_gives_23 : decode cX6_gives 23 = .ok (.invokevirtual 66, 3) := by decide +kernel
theorem dX6_gives_26 : decode cX6_gives 26 = .ok (.aload_n 0, 1) := by decide +kernel
theorem dX6_gives_27 : decode cX6_gives 27 = .ok (.getfield 7, 3) := by decide +kernel
theorem dX6_gives_30 : decode cX6_gives 30 = .ok (.iload 4, 2) := by decide +kernel
theorem dX6_gives_32 : decode cX6_gives 32 = .ok (.iconst 1, 1) := by decide +kernel
theorem dX6_gives_33 : decode cX6_gives 33 = .ok (.iastore, 1) := by decide +kernel
theorem dX6_gives_34 : decode cX6_gives 34 = .ok (.aload_n 0, 1) := by decide +kernel
theorem dX6_gives_35 : decode cX6_gives 35 = .ok (.getfield 7, 3) := by decide +kernel
theorem dX6_gives_38 : decode cX6_gives 38 = .ok (.iload 4, 2) := by decide +kernel
theorem dX6_gives_40 : decode cX6_gives 40 = .ok (.iconst 1, 1) := by decide +kernel
theorem dX6_gives_41 : decode cX6_gives 41 = .ok (.iadd, 1) := by decide +kernel
theorem dX6_gives_42 : decode cX6_gives 42 = .ok (.dup2, 1) := by decide +kernel
theorem dX6_gives_43 : decode cX6_gives 43 = .ok (.iaload, 1) := by decide +kernel
theorem dX6_gives_44 : decode cX6_gives 44 = .ok (.iconst 1, 1) := by decide +kernel
theorem dX6_gives_45 : decode cX6_gives 45 = .ok (.iadd, 1) := by decide +kernel
theorem dX6_gives_46 : decode cX6_gives 46 = .ok (.iastore, 1) := by decide +kernel
theorem dX6_gives_47 : decode cX6_gives 47 = .ok (.aload_n 0, 1) := by decide +kernel
theorem dX6_gives_48 : decode cX6_gives 48 = .ok (.getfield 7, 3) := by decide +kernel
theorem dX6_gives_51 : decode cX6_gives 51 = .ok (.iload_n 1, 1) := by decide +kernel
theorem dX6_gives_52 : decode cX6_gives 52 = .ok (.sipush 268, 3) := by decide +kernel
theorem dX6_gives_55 : decode cX6_gives 55 = .ok (.iadd, 1) := by decide +kernel
theorem dX6_gives_56 : decode cX6_gives 56 = .ok (.iload_n 2, 1) := by decide +kernel
theorem dX6_gives_57 : decode cX6_gives 57 = .ok (.iadd, 1) := by decide +kernel
theorem dX6_gives_58 : decode cX6_gives 58 = .ok (.dup2, 1) := by decide +kernel
theorem dX6_gives_59 : decode cX6_gives 59 = .ok (.iaload, 1) := by decide +kernel
theorem dX6_gives_60 : decode cX6_gives 60 = .ok (.iconst 1, 1) := by decide +kernel
theorem dX6_gives_61 : decode cX6_gives 61 = .ok (.iadd, 1) := by decide +kernel
theorem dX6_gives_62 : decode cX6_gives 62 = .ok (.iastore, 1) := by decide +kernel
theorem dX6_gives_63 : decode cX6_gives 63 = .ok (.return_, 1) := by decide +kernel
theorem dX6_without_0 : decode cX6_without 0 = .ok (.aload_n 0, 1) := by decide +kernel
theorem dX6_without_1 : decode cX6_without 1 = .ok (.getfield 7, 3) := by decide +kernel
theorem dX6_without_4 : decode cX6_without 4 = .ok (.sipush 276, 3) := by decide +kernel
theorem dX6_without_7 : decode cX6_without 7 = .ok (.iload_n 1, 1) := by decide +kernel
theorem dX6_without_8 : decode cX6_without 8 = .ok (.iadd, 1) := by decide +kernel
theorem dX6_without_9 : decode cX6_without 9 = .ok (.dup2, 1) := by decide +kernel
theorem dX6_without_10 : decode cX6_without 10 = .ok (.iaload, 1) := by decide +kernel
theorem dX6_without_11 : decode cX6_without 11 = .ok (.iconst 1, 1) := by decide +kernel
theorem dX6_without_12 : decode cX6_without 12 = .ok (.iadd, 1) := by decide +kernel
theorem dX6_without_13 : decode cX6_without 13 = .ok (.iastore, 1) := by decide +kernel
theorem dX6_without_14 : decode cX6_without 14 = .ok (.aload_n 0, 1) := by decide +kernel
theorem dX6_without_15 : decode cX6_without 15 = .ok (.getfield 7, 3) := by decide +kernel
theorem dX6_without_18 : decode cX6_without 18 = .ok (.sipush 280, 3) := by decide +kernel
theorem dX6_without_21 : decode cX6_without 21 = .ok (.iload_n 1, 1) := by decide +kernel
theorem dX6_without_22 : decode cX6_without 22 = .ok (.iadd, 1) := by decide +kernel
theorem dX6_without_23 : decode cX6_without 23 = .ok (.dup2, 1) := by decide +kernel
theorem dX6_without_24 : decode cX6_without 24 = .ok (.iaload, 1) := by decide +kernel
theorem dX6_without_25 : decode cX6_without 25 = .ok (.iload_n 2, 1) := by decide +kernel
theorem dX6_without_26 : decode cX6_without 26 = .ok (.iconst 2, 1) := by decide +kernel
theorem dX6_without_27 : decode cX6_without 27 = .ok (.if_icmp .eq 8, 3) := by decide +kernel
theorem dX6_without_30 : decode cX6_without 30 = .ok (.iload_n 2, 1) := by decide +kernel
theorem dX6_without_31 : decode cX6_without 31 = .ok (.iconst 5, 1) := by decide +kernel
theorem dX6_without_32 : decode cX6_without 32 = .ok (.if_icmp .ne 7, 3) := by decide +kernel
theorem dX6_without_35 : decode cX6_without 35 = .ok (.iconst 1, 1) := by decide +kernel
theorem dX6_without_36 : decode cX6_without 36 = .ok (.goto 4, 3) := by decide +kernel
theorem dX6_without_39 : decode cX6_without 39 = .ok (.iconst 0, 1) := by decide +kernel
theorem dX6_without_40 : decode cX6_without 40 = .ok (.iadd, 1) := by decide +kernel
theorem dX6_without_41 : decode cX6_without 41 = .ok (.iastore, 1) := by decide +kernel
theorem dX6_without_42 : decode cX6_without 42 = .ok (.bipush 100, 2) := by decide +kernel
theorem dX6_without_44 : decode cX6_without 44 = .ok (.iload_n 2, 1) := by decide +kernel
theorem dX6_without_45 : decode cX6_without 45 = .ok (.iadd, 1) := by decide +kernel
theorem dX6_without_46 : decode cX6_without 46 = .ok (.ireturn, 1) := by decide +kernel
theorem dX6_reason_0 : decode cX6_reason 0 = .ok (.aload_n 0, 1) := by decide +kernel
theorem dX6_reason_1 : decode cX6_reason 1 = .ok (.getfield 7, 3) := by decide +kernel
theorem dX6_reason_4 : decode cX6_reason 4 = .ok (.sipush 264, 3) := by decide +kernel
theorem dX6_reason_7 : decode cX6_reason 7 = .ok (.iload_n 1, 1) := by decide +kernel
theorem dX6_reason_8 : decode cX6_reason 8 = .ok (.iadd, 1) := by decide +kernel
theorem dX6_reason_9 : decode cX6_reason 9 = .ok (.iaload, 1) := by decide +kernel
theorem dX6_reason_10 : decode cX6_reason 10 = .ok (.ifCond .ne 7, 3) := by decide +kernel
theorem dX6_reason_13 : decode cX6_reason 13 = .ok (.iconst 1, 1) := by decide +kernel
theorem dX6_reason_14 : decode cX6_reason 14 = .ok (.goto 4, 3) := by decide +kernel
theorem dX6_reason_17 : decode cX6_reason 17 = .ok (.iconst 2, 1) := by decide +kernel
theorem dX6_reason_18 : decode cX6_reason 18 = .ok (.ireturn, 1) := by decide +kernel
theorem dX6_asks_0 : decode cX6_asks 0 = .ok (.aload_n 0, 1) := by decide +kernel
theorem dX6_asks_1 : decode cX6_asks 1 = .ok (.iconst 0, 1) := by decide +kernel
theorem dX6_asks_2 : decode cX6_asks 2 = .ok (.iload_n 1, 1) := by decide +kernel
theorem dX6_asks_3 : decode cX6_asks 3 = .ok (.invokevirtual 70, 3) := by decide +kernel
theorem dX6_asks_6 : decode cX6_asks 6 = .ok (.istore_n 2, 1) := by decide +kernel
theorem dX6_asks_7 : decode cX6_asks 7 = .ok (.iload_n 2, 1) := by decide +kernel
theorem dX6_asks_8 : decode cX6_asks 8 = .ok (.ifCond .ge 14, 3) := by decide +kernel
theorem dX6_asks_11 : decode cX6_asks 11 = .ok (.aload_n 0, 1) := by decide +kernel
theorem dX6_asks_12 : decode cX6_asks 12 = .ok (.iload_n 1, 1) := by decide +kernel
theorem dX6_asks_13 : decode cX6_asks 13 = .ok (.aload_n 0, 1) := by decide +kernel
theorem dX6_asks_14 : decode cX6_asks 14 = .ok (.iload_n 1, 1) := by decide +kernel
theorem dX6_asks_15 : decode cX6_asks 15 = .ok (.invokevirtual 73, 3) := by decide +kernel
theorem dX6_asks_18 : decode cX6_asks 18 = .ok (.invokevirtual 77, 3) := by decide +kernel
theorem dX6_asks_21 : decode cX6_asks 21 = .ok (.ireturn, 1) := by decide +kernel
theorem dX6_asks_22 : decode cX6_asks 22 = .ok (.aload_n 0, 1) := by decide +kernel
theorem dX6_asks_23 : decode cX6_asks 23 = .ok (.iconst 0, 1) := by decide +kernel
theorem dX6_asks_24 : decode cX6_asks 24 = .ok (.iload_n 1, 1) := by decide +kernel
theorem dX6_asks_25 : decode cX6_asks 25 = .ok (.iload_n 2, 1) := by decide +kernel
theorem dX6_asks_26 : decode cX6_asks 26 = .ok (.invokevirtual 80, 3) := by decide +kernel
theorem dX6_asks_29 : decode cX6_asks 29 = .ok (.iload_n 2, 1) := by decide +kernel
theorem dX6_asks_30 : decode cX6_asks 30 = .ok (.ireturn, 1) := by decide +kernel
theorem dX6_ask_0 : decode cX6_ask 0 = .ok (.aload_n 0, 1) := by decide +kernel
theorem dX6_ask_1 : decode cX6_ask 1 = .ok (.iload_n 1, 1) := by decide +kernel
theorem dX6_ask_2 : decode cX6_ask 2 = .ok (.invokestatic 36, 3) := by decide +kernel
theorem dX6_ask_5 : decode cX6_ask 5 = .ok (.iconst 1, 1) := by decide +kernel
theorem dX6_ask_6 : decode cX6_ask 6 = .ok (.invokevirtual 83, 3) := by decide +kernel
theorem dX6_ask_9 : decode cX6_ask 9 = .ok (.ifCond .ne 5, 3) := by decide +kernel
theorem dX6_ask_12 : decode cX6_ask 12 = .ok (.iconst 0, 1) := by decide +kernel
theorem dX6_ask_13 : decode cX6_ask 13 = .ok (.ireturn, 1) := by decide +kernel
theorem dX6_ask_14 : decode cX6_ask 14 = .ok (.aload_n 0, 1) := by decide +kernel
theorem dX6_ask_15 : decode cX6_ask 15 = .ok (.invokevirtual 87, 3) := by decide +kernel
theorem dX6_ask_18 : decode cX6_ask 18 = .ok (.aload_n 0, 1) := by decide +kernel
theorem dX6_ask_19 : decode cX6_ask 19 = .ok (.iload_n 1, 1) := by decide +kernel
theorem dX6_ask_20 : decode cX6_ask 20 = .ok (.invokevirtual 90, 3) := by decide +kernel
theorem dX6_ask_23 : decode cX6_ask 23 = .ok (.ireturn, 1) := by decide +kernel
theorem dX6_wants_0 : decode cX6_wants 0 = .ok (.iconst 0, 1) := by decide +kernel
theorem dX6_wants_1 : decode cX6_wants 1 = .ok (.iload_n 1, 1) := by decide +kernel
theorem dX6_wants_2 : decode cX6_wants 2 = .ok (.iload_n 2, 1) := by decide +kernel
theorem dX6_wants_3 : decode cX6_wants 3 = .ok (.invokestatic 40, 3) := by decide +kernel
theorem dX6_wants_6 : decode cX6_wants 6 = .ok (.istore_n 3, 1) := by decide +kernel
theorem dX6_wants_7 : decode cX6_wants 7 = .ok (.aload_n 0, 1) := by decide +kernel
theorem dX6_wants_8 : decode cX6_wants 8 = .ok (.iconst 0, 1) := by decide +kernel
theorem dX6_wants_9 : decode cX6_wants 9 = .ok (.iload_n 1, 1) := by decide +kernel
theorem dX6_wants_10 : decode cX6_wants 10 = .ok (.iload_n 2, 1) := by decide +kernel
theorem dX6_wants_11 : decode cX6_wants 11 = .ok (.invokevirtual 63, 3) := by decide +kernel
theorem dX6_wants_14 : decode cX6_wants 14 = .ok (.ifCond .ne 38, 3) := by decide +kernel
theorem dX6_wants_17 : decode cX6_wants 17 = .ok (.aload_n 0, 1) := by decide +kernel
theorem dX6_wants_18 : decode cX6_wants 18 = .ok (.iload_n 1, 1) := by decide +kernel
theorem dX6_wants_19 : decode cX6_wants 19 = .ok (.aload_n 0, 1) := by decide +kernel
theorem dX6_wants_20 : decode cX6_wants 20 = .ok (.getfield 7, 3) := by decide +kernel
theorem dX6_wants_23 : decode cX6_wants 23 = .ok (.iload_n 3, 1) := by decide +kernel
theorem dX6_wants_24 : decode cX6_wants 24 = .ok (.iaload, 1) := by decide +kernel
theorem dX6_wants_25 : decode cX6_wants 25 = .ok (.iconst 1, 1) := by decide +kernel
theorem dX6_wants_26 : decode cX6_wants 26 = .ok (.if_icmp .ne 7, 3) := by decide +kernel
theorem dX6_wants_29 : decode cX6_wants 29 = .ok (.iconst 3, 1) := by decide +kernel
theorem dX6_wants_30 : decode cX6_wants 30 = .ok (.goto 18, 3) := by decide +kernel
theorem dX6_wants_33 : decode cX6_wants 33 = .ok (.aload_n 0, 1) := by decide +kernel
theorem dX6_wants_34 : decode cX6_wants 34 = .ok (.getfield 7, 3) := by decide +kernel
theorem dX6_wants_37 : decode cX6_wants 37 = .ok (.iload_n 3, 1) := by decide +kernel
theorem dX6_wants_38 : decode cX6_wants 38 = .ok (.iaload, 1) := by decide +kernel
theorem dX6_wants_39 : decode cX6_wants 39 = .ok (.iconst 3, 1) := by decide +kernel
theorem dX6_wants_40 : decode cX6_wants 40 = .ok (.if_icmp .ne 7, 3) := by decide +kernel
theorem dX6_wants_43 : decode cX6_wants 43 = .ok (.iconst 4, 1) := by decide +kernel
theorem dX6_wants_44 : decode cX6_wants 44 = .ok (.goto 4, 3) := by decide +kernel
theorem dX6_wants_47 : decode cX6_wants 47 = .ok (.iconst 5, 1) := by decide +kernel
theorem dX6_wants_48 : decode cX6_wants 48 = .ok (.invokevirtual 77, 3) := by decide +kernel
theorem dX6_wants_51 : decode cX6_wants 51 = .ok (.ireturn, 1) := by decide +kernel
theorem dX6_wants_52 : decode cX6_wants 52 = .ok (.aload_n 0, 1) := by decide +kernel
theorem dX6_wants_53 : decode cX6_wants 53 = .ok (.iconst 0, 1) := by decide +kernel
theorem dX6_wants_54 : decode cX6_wants 54 = .ok (.iload_n 1, 1) := by decide +kernel
theorem dX6_wants_55 : decode cX6_wants 55 = .ok (.iload_n 2, 1) := by decide +kernel
theorem dX6_wants_56 : decode cX6_wants 56 = .ok (.invokevirtual 80, 3) := by decide +kernel
theorem dX6_wants_59 : decode cX6_wants 59 = .ok (.aload_n 0, 1) := by decide +kernel
theorem dX6_wants_60 : decode cX6_wants 60 = .ok (.getfield 7, 3) := by decide +kernel
theorem dX6_wants_63 : decode cX6_wants 63 = .ok (.iload_n 3, 1) := by decide +kernel
theorem dX6_wants_64 : decode cX6_wants 64 = .ok (.iconst 1, 1) := by decide +kernel
theorem dX6_wants_65 : decode cX6_wants 65 = .ok (.iadd, 1) := by decide +kernel
theorem dX6_wants_66 : decode cX6_wants 66 = .ok (.iaload, 1) := by decide +kernel
theorem dX6_wants_67 : decode cX6_wants 67 = .ok (.ireturn, 1) := by decide +kernel
theorem dX6_want_0 : decode cX6_want 0 = .ok (.aload_n 0, 1) := by decide +kernel
theorem dX6_want_1 : decode cX6_want 1 = .ok (.iload_n 1, 1) := by decide +kernel
theorem dX6_want_2 : decode cX6_want 2 = .ok (.iload_n 2, 1) := by decide +kernel
theorem dX6_want_3 : decode cX6_want 3 = .ok (.invokestatic 93, 3) := by decide +kernel
theorem dX6_want_6 : decode cX6_want 6 = .ok (.iconst 1, 1) := by decide +kernel
theorem dX6_want_7 : decode cX6_want 7 = .ok (.invokevirtual 83, 3) := by decide +kernel
theorem dX6_want_10 : decode cX6_want 10 = .ok (.ifCond .ne 5, 3) := by decide +kernel
theorem dX6_want_13 : decode cX6_want 13 = .ok (.iconst 0, 1) := by decide +kernel
theorem dX6_want_14 : decode cX6_want 14 = .ok (.ireturn, 1) := by decide +kernel
theorem dX6_want_15 : decode cX6_want 15 = .ok (.aload_n 0, 1) := by decide +kernel
theorem dX6_want_16 : decode cX6_want 16 = .ok (.invokevirtual 87, 3) := by decide +kernel
theorem dX6_want_19 : decode cX6_want 19 = .ok (.aload_n 0, 1) := by decide +kernel
theorem dX6_want_20 : decode cX6_want 20 = .ok (.iload_n 1, 1) := by decide +kernel
theorem dX6_want_21 : decode cX6_want 21 = .ok (.iload_n 2, 1) := by decide +kernel
theorem dX6_want_22 : decode cX6_want 22 = .ok (.invokevirtual 97, 3) := by decide +kernel
theorem dX6_want_25 : decode cX6_want 25 = .ok (.ireturn, 1) := by decide +kernel
theorem dX6_isAlive_0 : decode cX6_isAlive 0 = .ok (.aload_n 0, 1) := by decide +kernel
theorem dX6_isAlive_1 : decode cX6_isAlive 1 = .ok (.getfield 7, 3) := by decide +kernel
theorem dX6_isAlive_4 : decode cX6_isAlive 4 = .ok (.iconst 0, 1) := by decide +kernel
theorem dX6_isAlive_5 : decode cX6_isAlive 5 = .ok (.iload_n 1, 1) := by decide +kernel
theorem dX6_isAlive_6 : decode cX6_isAlive 6 = .ok (.iload_n 2, 1) := by decide +kernel
theorem dX6_isAlive_7 : decode cX6_isAlive 7 = .ok (.invokestatic 40, 3) := by decide +kernel
theorem dX6_isAlive_10 : decode cX6_isAlive 10 = .ok (.iaload, 1) := by decide +kernel
theorem dX6_isAlive_11 : decode cX6_isAlive 11 = .ok (.iconst 1, 1) := by decide +kernel
theorem dX6_isAlive_12 : decode cX6_isAlive 12 = .ok (.if_icmp .ne 7, 3) := by decide +kernel
theorem dX6_isAlive_15 : decode cX6_isAlive 15 = .ok (.iconst 1, 1) := by decide +kernel
theorem dX6_isAlive_16 : decode cX6_isAlive 16 = .ok (.goto 4, 3) := by decide +kernel
theorem dX6_isAlive_19 : decode cX6_isAlive 19 = .ok (.iconst 0, 1) := by decide +kernel
theorem dX6_isAlive_20 : decode cX6_isAlive 20 = .ok (.ireturn, 1) := by decide +kernel
theorem dX6_deletes_0 : decode cX6_deletes 0 = .ok (.iconst 0, 1) := by decide +kernel
theorem dX6_deletes_1 : decode cX6_deletes 1 = .ok (.iload_n 1, 1) := by decide +kernel
theorem dX6_deletes_2 : decode cX6_deletes 2 = .ok (.iload_n 2, 1) := by decide +kernel
theorem dX6_deletes_3 : decode cX6_deletes 3 = .ok (.invokestatic 40, 3) := by decide +kernel
theorem dX6_deletes_6 : decode cX6_deletes 6 = .ok (.istore_n 3, 1) := by decide +kernel
theorem dX6_deletes_7 : decode cX6_deletes 7 = .ok (.aload_n 0, 1) := by decide +kernel
theorem dX6_deletes_8 : decode cX6_deletes 8 = .ok (.getfield 7, 3) := by decide +kernel
theorem dX6_deletes_11 : decode cX6_deletes 11 = .ok (.sipush 272, 3) := by decide +kernel
theorem dX6_deletes_14 : decode cX6_deletes 14 = .ok (.iload_n 1, 1) := by decide +kernel
theorem dX6_deletes_15 : decode cX6_deletes 15 = .ok (.iadd, 1) := by decide +kernel
theorem dX6_deletes_16 : decode cX6_deletes 16 = .ok (.dup2, 1) := by decide +kernel
theorem dX6_deletes_17 : decode cX6_deletes 17 = .ok (.iaload, 1) := by decide +kernel
theorem dX6_deletes_18 : decode cX6_deletes 18 = .ok (.iconst 1, 1) := by decide +kernel
theorem dX6_deletes_19 : decode cX6_deletes 19 = .ok (.iadd, 1) := by decide +kernel
theorem dX6_deletes_20 : decode cX6_deletes 20 = .ok (.iastore, 1) := by decide +kernel
theorem dX6_deletes_21 : decode cX6_deletes 21 = .ok (.aload_n 0, 1) := by decide +kernel
theorem dX6_deletes_22 : decode cX6_deletes 22 = .ok (.getfield 7, 3) := by decide +kernel
theorem dX6_deletes_25 : decode cX6_deletes 25 = .ok (.iload_n 3, 1) := by decide +kernel
theorem dX6_deletes_26 : decode cX6_deletes 26 = .ok (.iconst 1, 1) := by decide +kernel
theorem dX6_deletes_27 : decode cX6_deletes 27 = .ok (.iadd, 1) := by decide +kernel
theorem dX6_deletes_28 : decode cX6_deletes 28 = .ok (.iaload, 1) := by decide +kernel
theorem dX6_deletes_29 : decode cX6_deletes 29 = .ok (.aload_n 0, 1) := by decide +kernel
theorem dX6_deletes_30 : decode cX6_deletes 30 = .ok (.getfield 7, 3) := by decide +kernel
theorem dX6_deletes_33 : decode cX6_deletes 33 = .ok (.iconst 1, 1) := by decide +kernel
theorem dX6_deletes_34 : decode cX6_deletes 34 = .ok (.iaload, 1) := by decide +kernel
theorem dX6_deletes_35 : decode cX6_deletes 35 = .ok (.if_icmp .lt 12, 3) := by decide +kernel
theorem dX6_deletes_38 : decode cX6_deletes 38 = .ok (.aload_n 0, 1) := by decide +kernel
theorem dX6_deletes_39 : decode cX6_deletes 39 = .ok (.getfield 7, 3) := by decide +kernel
theorem dX6_deletes_42 : decode cX6_deletes 42 = .ok (.iload_n 3, 1) := by decide +kernel
theorem dX6_deletes_43 : decode cX6_deletes 43 = .ok (.iconst 3, 1) := by decide +kernel
theorem dX6_deletes_44 : decode cX6_deletes 44 = .ok (.iastore, 1) := by decide +kernel
theorem dX6_deletes_45 : decode cX6_deletes 45 = .ok (.iconst 1, 1) := by decide +kernel
theorem dX6_deletes_46 : decode cX6_deletes 46 = .ok (.ireturn, 1) := by decide +kernel
theorem dX6_deletes_47 : decode cX6_deletes 47 = .ok (.aload_n 0, 1) := by decide +kernel
theorem dX6_deletes_48 : decode cX6_deletes 48 = .ok (.getfield 7, 3) := by decide +kernel
theorem dX6_deletes_51 : decode cX6_deletes 51 = .ok (.iload_n 3, 1) := by decide +kernel
theorem dX6_deletes_52 : decode cX6_deletes 52 = .ok (.iconst 2, 1) := by decide +kernel
theorem dX6_deletes_53 : decode cX6_deletes 53 = .ok (.iastore, 1) := by decide +kernel
theorem dX6_deletes_54 : decode cX6_deletes 54 = .ok (.aload_n 0, 1) := by decide +kernel
theorem dX6_deletes_55 : decode cX6_deletes 55 = .ok (.getfield 7, 3) := by decide +kernel
theorem dX6_deletes_58 : decode cX6_deletes 58 = .ok (.iload_n 3, 1) := by decide +kernel
theorem dX6_deletes_59 : decode cX6_deletes 59 = .ok (.iconst 2, 1) := by decide +kernel
theorem dX6_deletes_60 : decode cX6_deletes 60 = .ok (.iadd, 1) := by decide +kernel
theorem dX6_deletes_61 : decode cX6_deletes 61 = .ok (.aload_n 0, 1) := by decide +kernel
theorem dX6_deletes_62 : decode cX6_deletes 62 = .ok (.getfield 7, 3) := by decide +kernel
theorem dX6_deletes_65 : decode cX6_deletes 65 = .ok (.iconst 3, 1) := by decide +kernel
theorem dX6_deletes_66 : decode cX6_deletes 66 = .ok (.iaload, 1) := by decide +kernel
theorem dX6_deletes_67 : decode cX6_deletes 67 = .ok (.iastore, 1) := by decide +kernel
theorem dX6_deletes_68 : decode cX6_deletes 68 = .ok (.aload_n 0, 1) := by decide +kernel
theorem dX6_deletes_69 : decode cX6_deletes 69 = .ok (.getfield 7, 3) := by decide +kernel
theorem dX6_deletes_72 : decode cX6_deletes 72 = .ok (.sipush 264, 3) := by decide +kernel
theorem dX6_deletes_75 : decode cX6_deletes 75 = .ok (.iload_n 1, 1) := by decide +kernel
theorem dX6_deletes_76 : decode cX6_deletes 76 = .ok (.iadd, 1) := by decide +kernel
theorem dX6_deletes_77 : decode cX6_deletes 77 = .ok (.iaload, 1) := by decide +kernel
theorem dX6_deletes_78 : decode cX6_deletes 78 = .ok (.istore 4, 2) := by decide +kernel
theorem dX6_deletes_80 : decode cX6_deletes 80 = .ok (.iload 4, 2) := by decide +kernel
theorem dX6_deletes_82 : decode cX6_deletes 82 = .ok (.ifCond .le 35, 3) := by decide +kernel
theorem dX6_deletes_85 : decode cX6_deletes 85 = .ok (.aload_n 0, 1) := by decide +kernel
theorem dX6_deletes_86 : decode cX6_deletes 86 = .ok (.getfield 7, 3) := by decide +kernel
theorem dX6_deletes_89 : decode cX6_deletes 89 = .ok (.sipush 200, 3) := by decide +kernel
theorem dX6_deletes_92 : decode cX6_deletes 92 = .ok (.bipush 16, 2) := by decide +kernel
theorem dX6_deletes_94 : decode cX6_deletes 94 = .ok (.iload_n 1, 1) := by decide +kernel
theorem dX6_deletes_95 : decode cX6_deletes 95 = .ok (.imul, 1) := by decide +kernel
theorem dX6_deletes_96 : decode cX6_deletes 96 = .ok (.iadd, 1) := by decide +kernel
theorem dX6_deletes_97 : decode cX6_deletes 97 = .ok (.iload 4, 2) := by decide +kernel
theorem dX6_deletes_99 : decode cX6_deletes 99 = .ok (.iadd, 1) := by decide +kernel
theorem dX6_deletes_100 : decode cX6_deletes 100 = .ok (.aload_n 0, 1) := by decide +kernel
theorem dX6_deletes_101 : decode cX6_deletes 101 = .ok (.iconst 0, 1) := by decide +kernel
theorem dX6_deletes_102 : decode cX6_deletes 102 = .ok (.iload_n 1, 1) := by decide +kernel
theorem dX6_deletes_103 : decode cX6_deletes 103 = .ok (.iload 4, 2) := by decide +kernel
theorem dX6_deletes_105 : decode cX6_deletes 105 = .ok (.iconst 1, 1) := by decide +kernel
theorem dX6_deletes_106 : decode cX6_deletes 106 = .ok (.isub, 1) := by decide +kernel
theorem dX6_deletes_107 : decode cX6_deletes 107 = .ok (.invokevirtual 50, 3) := by decide +kernel
theorem dX6_deletes_110 : decode cX6_deletes 110 = .ok (.iastore, 1) := by decide +kernel
theorem dX6_deletes_111 : decode cX6_deletes 111 = .ok (.iinc 4 (-1), 3) := by decide +kernel
theorem dX6_deletes_114 : decode cX6_deletes 114 = .ok (.goto (-34), 3) := by decide +kernel
theorem dX6_deletes_117 : decode cX6_deletes 117 = .ok (.aload_n 0, 1) := by decide +kernel
theorem dX6_deletes_118 : decode cX6_deletes 118 = .ok (.getfield 7, 3) := by decide +kernel
theorem dX6_deletes_121 : decode cX6_deletes 121 = .ok (.sipush 200, 3) := by decide +kernel
theorem dX6_deletes_124 : decode cX6_deletes 124 = .ok (.bipush 16, 2) := by decide +kernel
theorem dX6_deletes_126 : decode cX6_deletes 126 = .ok (.iload_n 1, 1) := by decide +kernel
theorem dX6_deletes_127 : decode cX6_deletes 127 = .ok (.imul, 1) := by decide +kernel
theorem dX6_deletes_128 : decode cX6_deletes 128 = .ok (.iadd, 1) := by decide +kernel
theorem dX6_deletes_129 : decode cX6_deletes 129 = .ok (.iload_n 2, 1) := by decide +kernel
theorem dX6_deletes_130 : decode cX6_deletes 130 = .ok (.iastore, 1) := by decide +kernel
theorem dX6_deletes_131 : decode cX6_deletes 131 = .ok (.aload_n 0, 1) := by decide +kernel
theorem dX6_deletes_132 : decode cX6_deletes 132 = .ok (.getfield 7, 3) := by decide +kernel
theorem dX6_deletes_135 : decode cX6_deletes 135 = .ok (.sipush 264, 3) := by decide +kernel
theorem dX6_deletes_138 : decode cX6_deletes 138 = .ok (.iload_n 1, 1) := by decide +kernel
theorem dX6_deletes_139 : decode cX6_deletes 139 = .ok (.iadd, 1) := by decide +kernel
theorem dX6_deletes_140 : decode cX6_deletes 140 = .ok (.dup2, 1) := by decide +kernel
theorem dX6_deletes_141 : decode cX6_deletes 141 = .ok (.iaload, 1) := by decide +kernel
theorem dX6_deletes_142 : decode cX6_deletes 142 = .ok (.iconst 1, 1) := by decide +kernel
theorem dX6_deletes_143 : decode cX6_deletes 143 = .ok (.iadd, 1) := by decide +kernel
theorem dX6_deletes_144 : decode cX6_deletes 144 = .ok (.iastore, 1) := by decide +kernel
theorem dX6_deletes_145 : decode cX6_deletes 145 = .ok (.iconst 0, 1) := by decide +kernel
theorem dX6_deletes_146 : decode cX6_deletes 146 = .ok (.ireturn, 1) := by decide +kernel
theorem dX6_delete_0 : decode cX6_delete 0 = .ok (.iload_n 1, 1) := by decide +kernel
theorem dX6_delete_1 : decode cX6_delete 1 = .ok (.iload_n 2, 1) := by decide +kernel
theorem dX6_delete_2 : decode cX6_delete 2 = .ok (.invokestatic 93, 3) := by decide +kernel
theorem dX6_delete_5 : decode cX6_delete 5 = .ok (.istore_n 3, 1) := by decide +kernel
theorem dX6_delete_6 : decode cX6_delete 6 = .ok (.aload_n 0, 1) := by decide +kernel
theorem dX6_delete_7 : decode cX6_delete 7 = .ok (.iload_n 3, 1) := by decide +kernel
theorem dX6_delete_8 : decode cX6_delete 8 = .ok (.iload_n 3, 1) := by decide +kernel
theorem dX6_delete_9 : decode cX6_delete 9 = .ok (.ifCond .eq 16, 3) := by decide +kernel
theorem dX6_delete_12 : decode cX6_delete 12 = .ok (.aload_n 0, 1) := by decide +kernel
theorem dX6_delete_13 : decode cX6_delete 13 = .ok (.iload_n 1, 1) := by decide +kernel
theorem dX6_delete_14 : decode cX6_delete 14 = .ok (.iload_n 2, 1) := by decide +kernel
theorem dX6_delete_15 : decode cX6_delete 15 = .ok (.invokevirtual 100, 3) := by decide +kernel
theorem dX6_delete_18 : decode cX6_delete 18 = .ok (.ifCond .eq 7, 3) := by decide +kernel
theorem dX6_delete_21 : decode cX6_delete 21 = .ok (.iconst 1, 1) := by decide +kernel
theorem dX6_delete_22 : decode cX6_delete 22 = .ok (.goto 4, 3) := by decide +kernel
theorem dX6_delete_25 : decode cX6_delete 25 = .ok (.iconst 0, 1) := by decide +kernel
theorem dX6_delete_26 : decode cX6_delete 26 = .ok (.invokevirtual 83, 3) := by decide +kernel
theorem dX6_delete_29 : decode cX6_delete 29 = .ok (.ifCond .ne 5, 3) := by decide +kernel
theorem dX6_delete_32 : decode cX6_delete 32 = .ok (.iconst 0, 1) := by decide +kernel
theorem dX6_delete_33 : decode cX6_delete 33 = .ok (.ireturn, 1) := by decide +kernel
theorem dX6_delete_34 : decode cX6_delete 34 = .ok (.aload_n 0, 1) := by decide +kernel
theorem dX6_delete_35 : decode cX6_delete 35 = .ok (.invokevirtual 87, 3) := by decide +kernel
theorem dX6_delete_38 : decode cX6_delete 38 = .ok (.aload_n 0, 1) := by decide +kernel
theorem dX6_delete_39 : decode cX6_delete 39 = .ok (.iload_n 1, 1) := by decide +kernel
theorem dX6_delete_40 : decode cX6_delete 40 = .ok (.iload_n 2, 1) := by decide +kernel
theorem dX6_delete_41 : decode cX6_delete 41 = .ok (.invokevirtual 103, 3) := by decide +kernel
theorem dX6_delete_44 : decode cX6_delete 44 = .ok (.ireturn, 1) := by decide +kernel
theorem dX6_canComeBack_0 : decode cX6_canComeBack 0 = .ok (.aload_n 0, 1) := by decide +kernel
theorem dX6_canComeBack_1 : decode cX6_canComeBack 1 = .ok (.getfield 7, 3) := by decide +kernel
theorem dX6_canComeBack_4 : decode cX6_canComeBack 4 = .ok (.iconst 0, 1) := by decide +kernel
theorem dX6_canComeBack_5 : decode cX6_canComeBack 5 = .ok (.iload_n 1, 1) := by decide +kernel
theorem dX6_canComeBack_6 : decode cX6_canComeBack 6 = .ok (.iload_n 2, 1) := by decide +kernel
theorem dX6_canComeBack_7 : decode cX6_canComeBack 7 = .ok (.invokestatic 40, 3) := by decide +kernel
theorem dX6_canComeBack_10 : decode cX6_canComeBack 10 = .ok (.iaload, 1) := by decide +kernel
theorem dX6_canComeBack_11 : decode cX6_canComeBack 11 = .ok (.iconst 2, 1) := by decide +kernel
theorem dX6_canComeBack_12 : decode cX6_canComeBack 12 = .ok (.if_icmp .ne 23, 3) := by decide +kernel
theorem dX6_canComeBack_15 : decode cX6_canComeBack 15 = .ok (.aload_n 0, 1) := by decide +kernel
theorem dX6_canComeBack_16 : decode cX6_canComeBack 16 = .ok (.iconst 0, 1) := by decide +kernel
theorem dX6_canComeBack_17 : decode cX6_canComeBack 17 = .ok (.iload_n 1, 1) := by decide +kernel
theorem dX6_canComeBack_18 : decode cX6_canComeBack 18 = .ok (.iload_n 2, 1) := by decide +kernel
theorem dX6_canComeBack_19 : decode cX6_canComeBack 19 = .ok (.invokevirtual 44, 3) := by decide +kernel
theorem dX6_canComeBack_22 : decode cX6_canComeBack 22 = .ok (.aload_n 0, 1) := by decide +kernel
theorem dX6_canComeBack_23 : decode cX6_canComeBack 23 = .ok (.getfield 7, 3) := by decide +kernel
theorem dX6_canComeBack_26 : decode cX6_canComeBack 26 = .ok (.iconst 2, 1) := by decide +kernel
theorem dX6_canComeBack_27 : decode cX6_canComeBack 27 = .ok (.iaload, 1) := by decide +kernel
theorem dX6_canComeBack_28 : decode cX6_canComeBack 28 = .ok (.if_icmp .gt 7, 3) := by decide +kernel
theorem dX6_canComeBack_31 : decode cX6_canComeBack 31 = .ok (.iconst 1, 1) := by decide +kernel
theorem dX6_canComeBack_32 : decode cX6_canComeBack 32 = .ok (.goto 4, 3) := by decide +kernel
theorem dX6_canComeBack_35 : decode cX6_canComeBack 35 = .ok (.iconst 0, 1) := by decide +kernel
theorem dX6_canComeBack_36 : decode cX6_canComeBack 36 = .ok (.ireturn, 1) := by decide +kernel
theorem dX6_comesBack_0 : decode cX6_comesBack 0 = .ok (.iconst 0, 1) := by decide +kernel
theorem dX6_comesBack_1 : decode cX6_comesBack 1 = .ok (.iload_n 1, 1) := by decide +kernel
theorem dX6_comesBack_2 : decode cX6_comesBack 2 = .ok (.iload_n 2, 1) := by decide +kernel
theorem dX6_comesBack_3 : decode cX6_comesBack 3 = .ok (.invokestatic 40, 3) := by decide +kernel
theorem dX6_comesBack_6 : decode cX6_comesBack 6 = .ok (.istore_n 3, 1) := by decide +kernel
theorem dX6_comesBack_7 : decode cX6_comesBack 7 = .ok (.aload_n 0, 1) := by decide +kernel
theorem dX6_comesBack_8 : decode cX6_comesBack 8 = .ok (.iconst 0, 1) := by decide +kernel
theorem dX6_comesBack_9 : decode cX6_comesBack 9 = .ok (.iload_n 1, 1) := by decide +kernel
theorem dX6_comesBack_10 : decode cX6_comesBack 10 = .ok (.iload_n 2, 1) := by decide +kernel
theorem dX6_comesBack_11 : decode cX6_comesBack 11 = .ok (.invokevirtual 66, 3) := by decide +kernel
theorem dX6_comesBack_14 : decode cX6_comesBack 14 = .ok (.aload_n 0, 1) := by decide +kernel
theorem dX6_comesBack_15 : decode cX6_comesBack 15 = .ok (.getfield 7, 3) := by decide +kernel
theorem dX6_comesBack_18 : decode cX6_comesBack 18 = .ok (.iload_n 3, 1) := by decide +kernel
theorem dX6_comesBack_19 : decode cX6_comesBack 19 = .ok (.iconst 1, 1) := by decide +kernel
theorem dX6_comesBack_20 : decode cX6_comesBack 20 = .ok (.iastore, 1) := by decide +kernel
theorem dX6_comesBack_21 : decode cX6_comesBack 21 = .ok (.aload_n 0, 1) := by decide +kernel
theorem dX6_comesBack_22 : decode cX6_comesBack 22 = .ok (.getfield 7, 3) := by decide +kernel
theorem dX6_comesBack_25 : decode cX6_comesBack 25 = .ok (.sipush 284, 3) := by decide +kernel
theorem dX6_comesBack_28 : decode cX6_comesBack 28 = .ok (.iload_n 1, 1) := by decide +kernel
theorem dX6_comesBack_29 : decode cX6_comesBack 29 = .ok (.iadd, 1) := by decide +kernel
theorem dX6_comesBack_30 : decode cX6_comesBack 30 = .ok (.dup2, 1) := by decide +kernel
theorem dX6_comesBack_31 : decode cX6_comesBack 31 = .ok (.iaload, 1) := by decide +kernel
theorem dX6_comesBack_32 : decode cX6_comesBack 32 = .ok (.iconst 1, 1) := by decide +kernel
theorem dX6_comesBack_33 : decode cX6_comesBack 33 = .ok (.iadd, 1) := by decide +kernel
theorem dX6_comesBack_34 : decode cX6_comesBack 34 = .ok (.iastore, 1) := by decide +kernel
theorem dX6_comesBack_35 : decode cX6_comesBack 35 = .ok (.aload_n 0, 1) := by decide +kernel
theorem dX6_comesBack_36 : decode cX6_comesBack 36 = .ok (.getfield 7, 3) := by decide +kernel
theorem dX6_comesBack_39 : decode cX6_comesBack 39 = .ok (.iload_n 3, 1) := by decide +kernel
theorem dX6_comesBack_40 : decode cX6_comesBack 40 = .ok (.iconst 1, 1) := by decide +kernel
theorem dX6_comesBack_41 : decode cX6_comesBack 41 = .ok (.iadd, 1) := by decide +kernel
theorem dX6_comesBack_42 : decode cX6_comesBack 42 = .ok (.iaload, 1) := by decide +kernel
theorem dX6_comesBack_43 : decode cX6_comesBack 43 = .ok (.ireturn, 1) := by decide +kernel
theorem dX6_bringBack_0 : decode cX6_bringBack 0 = .ok (.iload_n 1, 1) := by decide +kernel
theorem dX6_bringBack_1 : decode cX6_bringBack 1 = .ok (.iload_n 2, 1) := by decide +kernel
theorem dX6_bringBack_2 : decode cX6_bringBack 2 = .ok (.invokestatic 93, 3) := by decide +kernel
theorem dX6_bringBack_5 : decode cX6_bringBack 5 = .ok (.istore_n 3, 1) := by decide +kernel
theorem dX6_bringBack_6 : decode cX6_bringBack 6 = .ok (.aload_n 0, 1) := by decide +kernel
theorem dX6_bringBack_7 : decode cX6_bringBack 7 = .ok (.iload_n 3, 1) := by decide +kernel
theorem dX6_bringBack_8 : decode cX6_bringBack 8 = .ok (.iload_n 3, 1) := by decide +kernel
theorem dX6_bringBack_9 : decode cX6_bringBack 9 = .ok (.ifCond .eq 16, 3) := by decide +kernel
theorem dX6_bringBack_12 : decode cX6_bringBack 12 = .ok (.aload_n 0, 1) := by decide +kernel
theorem dX6_bringBack_13 : decode cX6_bringBack 13 = .ok (.iload_n 1, 1) := by decide +kernel
theorem dX6_bringBack_14 : decode cX6_bringBack 14 = .ok (.iload_n 2, 1) := by decide +kernel
theorem dX6_bringBack_15 : decode cX6_bringBack 15 = .ok (.invokevirtual 106, 3) := by decide +kernel
theorem dX6_bringBack_18 : decode cX6_bringBack 18 = .ok (.ifCond .eq 7, 3) := by decide +kernel
theorem dX6_bringBack_21 : decode cX6_bringBack 21 = .ok (.iconst 1, 1) := by decide +kernel
theorem dX6_bringBack_22 : decode cX6_bringBack 22 = .ok (.goto 4, 3) := by decide +kernel
theorem dX6_bringBack_25 : decode cX6_bringBack 25 = .ok (.iconst 0, 1) := by decide +kernel
theorem dX6_bringBack_26 : decode cX6_bringBack 26 = .ok (.invokevirtual 83, 3) := by decide +kernel
theorem dX6_bringBack_29 : decode cX6_bringBack 29 = .ok (.ifCond .ne 5, 3) := by decide +kernel
theorem dX6_bringBack_32 : decode cX6_bringBack 32 = .ok (.iconst 0, 1) := by decide +kernel
theorem dX6_bringBack_33 : decode cX6_bringBack 33 = .ok (.ireturn, 1) := by decide +kernel
theorem dX6_bringBack_34 : decode cX6_bringBack 34 = .ok (.aload_n 0, 1) := by decide +kernel
theorem dX6_bringBack_35 : decode cX6_bringBack 35 = .ok (.invokevirtual 87, 3) := by decide +kernel
theorem dX6_bringBack_38 : decode cX6_bringBack 38 = .ok (.aload_n 0, 1) := by decide +kernel
theorem dX6_bringBack_39 : decode cX6_bringBack 39 = .ok (.iload_n 1, 1) := by decide +kernel
theorem dX6_bringBack_40 : decode cX6_bringBack 40 = .ok (.iload_n 2, 1) := by decide +kernel
theorem dX6_bringBack_41 : decode cX6_bringBack 41 = .ok (.invokevirtual 109, 3) := by decide +kernel
theorem dX6_bringBack_44 : decode cX6_bringBack 44 = .ok (.ireturn, 1) := by decide +kernel
theorem dX6_turns_0 : decode cX6_turns 0 = .ok (.aload_n 0, 1) := by decide +kernel
theorem dX6_turns_1 : decode cX6_turns 1 = .ok (.getfield 7, 3) := by decide +kernel
theorem dX6_turns_4 : decode cX6_turns 4 = .ok (.sipush 264, 3) := by decide +kernel
theorem dX6_turns_7 : decode cX6_turns 7 = .ok (.iload_n 1, 1) := by decide +kernel
theorem dX6_turns_8 : decode cX6_turns 8 = .ok (.iadd, 1) := by decide +kernel
theorem dX6_turns_9 : decode cX6_turns 9 = .ok (.iaload, 1) := by decide +kernel
theorem dX6_turns_10 : decode cX6_turns 10 = .ok (.istore_n 2, 1) := by decide +kernel
theorem dX6_turns_11 : decode cX6_turns 11 = .ok (.iconst 0, 1) := by decide +kernel
theorem dX6_turns_12 : decode cX6_turns 12 = .ok (.istore_n 3, 1) := by decide +kernel
theorem dX6_turns_13 : decode cX6_turns 13 = .ok (.iload_n 3, 1) := by decide +kernel
theorem dX6_turns_14 : decode cX6_turns 14 = .ok (.iload_n 2, 1) := by decide +kernel
theorem dX6_turns_15 : decode cX6_turns 15 = .ok (.iconst 2, 1) := by decide +kernel
theorem dX6_turns_16 : decode cX6_turns 16 = .ok (.idiv, 1) := by decide +kernel
theorem dX6_turns_17 : decode cX6_turns 17 = .ok (.if_icmp .ge 69, 3) := by decide +kernel
theorem dX6_turns_20 : decode cX6_turns 20 = .ok (.sipush 200, 3) := by decide +kernel
theorem dX6_turns_23 : decode cX6_turns 23 = .ok (.bipush 16, 2) := by decide +kernel
theorem dX6_turns_25 : decode cX6_turns 25 = .ok (.iload_n 1, 1) := by decide +kernel
theorem dX6_turns_26 : decode cX6_turns 26 = .ok (.imul, 1) := by decide +kernel
theorem dX6_turns_27 : decode cX6_turns 27 = .ok (.iadd, 1) := by decide +kernel
theorem dX6_turns_28 : decode cX6_turns 28 = .ok (.iload_n 3, 1) := by decide +kernel
theorem dX6_turns_29 : decode cX6_turns 29 = .ok (.iadd, 1) := by decide +kernel
theorem dX6_turns_30 : decode cX6_turns 30 = .ok (.istore 4, 2) := by decide +kernel
theorem dX6_turns_32 : decode cX6_turns 32 = .ok (.sipush 200, 3) := by decide +kernel
theorem dX6_turns_35 : decode cX6_turns 35 = .ok (.bipush 16, 2) := by decide +kernel
theorem dX6_turns_37 : decode cX6_turns 37 = .ok (.iload_n 1, 1) := by decide +kernel
theorem dX6_turns_38 : decode cX6_turns 38 = .ok (.imul, 1) := by decide +kernel
theorem dX6_turns_39 : decode cX6_turns 39 = .ok (.iadd, 1) := by decide +kernel
theorem dX6_turns_40 : decode cX6_turns 40 = .ok (.iload_n 2, 1) := by decide +kernel
theorem dX6_turns_41 : decode cX6_turns 41 = .ok (.iadd, 1) := by decide +kernel
theorem dX6_turns_42 : decode cX6_turns 42 = .ok (.iconst 1, 1) := by decide +kernel
theorem dX6_turns_43 : decode cX6_turns 43 = .ok (.isub, 1) := by decide +kernel
theorem dX6_turns_44 : decode cX6_turns 44 = .ok (.iload_n 3, 1) := by decide +kernel
theorem dX6_turns_45 : decode cX6_turns 45 = .ok (.isub, 1) := by decide +kernel
theorem dX6_turns_46 : decode cX6_turns 46 = .ok (.istore 5, 2) := by decide +kernel
theorem dX6_turns_48 : decode cX6_turns 48 = .ok (.aload_n 0, 1) := by decide +kernel
theorem dX6_turns_49 : decode cX6_turns 49 = .ok (.getfield 7, 3) := by decide +kernel
theorem dX6_turns_52 : decode cX6_turns 52 = .ok (.iload 4, 2) := by decide +kernel
theorem dX6_turns_54 : decode cX6_turns 54 = .ok (.iaload, 1) := by decide +kernel
theorem dX6_turns_55 : decode cX6_turns 55 = .ok (.istore 6, 2) := by decide +kernel
theorem dX6_turns_57 : decode cX6_turns 57 = .ok (.aload_n 0, 1) := by decide +kernel
theorem dX6_turns_58 : decode cX6_turns 58 = .ok (.getfield 7, 3) := by decide +kernel
theorem dX6_turns_61 : decode cX6_turns 61 = .ok (.iload 4, 2) := by decide +kernel
theorem dX6_turns_63 : decode cX6_turns 63 = .ok (.aload_n 0, 1) := by decide +kernel
theorem dX6_turns_64 : decode cX6_turns 64 = .ok (.getfield 7, 3) := by decide +kernel
theorem dX6_turns_67 : decode cX6_turns 67 = .ok (.iload 5, 2) := by decide +kernel
theorem dX6_turns_69 : decode cX6_turns 69 = .ok (.iaload, 1) := by decide +kernel
theorem dX6_turns_70 : decode cX6_turns 70 = .ok (.iastore, 1) := by decide +kernel
theorem dX6_turns_71 : decode cX6_turns 71 = .ok (.aload_n 0, 1) := by decide +kernel
theorem dX6_turns_72 : decode cX6_turns 72 = .ok (.getfield 7, 3) := by decide +kernel
theorem dX6_turns_75 : decode cX6_turns 75 = .ok (.iload 5, 2) := by decide +kernel
theorem dX6_turns_77 : decode cX6_turns 77 = .ok (.iload 6, 2) := by decide +kernel
theorem dX6_turns_79 : decode cX6_turns 79 = .ok (.iastore, 1) := by decide +kernel
theorem dX6_turns_80 : decode cX6_turns 80 = .ok (.iinc 3 1, 3) := by decide +kernel
theorem dX6_turns_83 : decode cX6_turns 83 = .ok (.goto (-70), 3) := by decide +kernel
theorem dX6_turns_86 : decode cX6_turns 86 = .ok (.iload_n 2, 1) := by decide +kernel
theorem dX6_turns_87 : decode cX6_turns 87 = .ok (.ifCond .ne 7, 3) := by decide +kernel
theorem dX6_turns_90 : decode cX6_turns 90 = .ok (.iconst (-1), 1) := by decide +kernel
theorem dX6_turns_91 : decode cX6_turns 91 = .ok (.goto 10, 3) := by decide +kernel
theorem dX6_turns_94 : decode cX6_turns 94 = .ok (.aload_n 0, 1) := by decide +kernel
theorem dX6_turns_95 : decode cX6_turns 95 = .ok (.iconst 0, 1) := by decide +kernel
theorem dX6_turns_96 : decode cX6_turns 96 = .ok (.iload_n 1, 1) := by decide +kernel
theorem dX6_turns_97 : decode cX6_turns 97 = .ok (.iconst 0, 1) := by decide +kernel
theorem dX6_turns_98 : decode cX6_turns 98 = .ok (.invokevirtual 50, 3) := by decide +kernel
theorem dX6_turns_101 : decode cX6_turns 101 = .ok (.ireturn, 1) := by decide +kernel
theorem dX6_turn_0 : decode cX6_turn 0 = .ok (.aload_n 0, 1) := by decide +kernel
theorem dX6_turn_1 : decode cX6_turn 1 = .ok (.iload_n 1, 1) := by decide +kernel
theorem dX6_turn_2 : decode cX6_turn 2 = .ok (.invokestatic 36, 3) := by decide +kernel
theorem dX6_turn_5 : decode cX6_turn 5 = .ok (.iconst 1, 1) := by decide +kernel
theorem dX6_turn_6 : decode cX6_turn 6 = .ok (.invokevirtual 83, 3) := by decide +kernel
theorem dX6_turn_9 : decode cX6_turn 9 = .ok (.ifCond .ne 5, 3) := by decide +kernel
theorem dX6_turn_12 : decode cX6_turn 12 = .ok (.iconst 0, 1) := by decide +kernel
theorem dX6_turn_13 : decode cX6_turn 13 = .ok (.ireturn, 1) := by decide +kernel
theorem dX6_turn_14 : decode cX6_turn 14 = .ok (.aload_n 0, 1) := by decide +kernel
theorem dX6_turn_15 : decode cX6_turn 15 = .ok (.invokevirtual 87, 3) := by decide +kernel
theorem dX6_turn_18 : decode cX6_turn 18 = .ok (.aload_n 0, 1) := by decide +kernel
theorem dX6_turn_19 : decode cX6_turn 19 = .ok (.iload_n 1, 1) := by decide +kernel
theorem dX6_turn_20 : decode cX6_turn 20 = .ok (.invokevirtual 112, 3) := by decide +kernel
theorem dX6_turn_23 : decode cX6_turn 23 = .ok (.ireturn, 1) := by decide +kernel
theorem dX6_refers_0 : decode cX6_refers 0 = .ok (.aload_n 0, 1) := by decide +kernel
theorem dX6_refers_1 : decode cX6_refers 1 = .ok (.getfield 7, 3) := by decide +kernel
theorem dX6_refers_4 : decode cX6_refers 4 = .ok (.iconst 0, 1) := by decide +kernel
theorem dX6_refers_5 : decode cX6_refers 5 = .ok (.iload_n 1, 1) := by decide +kernel
theorem dX6_refers_6 : decode cX6_refers 6 = .ok (.iload_n 2, 1) := by decide +kernel
theorem dX6_refers_7 : decode cX6_refers 7 = .ok (.invokestatic 40, 3) := by decide +kernel
theorem dX6_refers_10 : decode cX6_refers 10 = .ok (.iconst 1, 1) := by decide +kernel
theorem dX6_refers_11 : decode cX6_refers 11 = .ok (.iadd, 1) := by decide +kernel
theorem dX6_refers_12 : decode cX6_refers 12 = .ok (.iaload, 1) := by decide +kernel
theorem dX6_refers_13 : decode cX6_refers 13 = .ok (.istore 4, 2) := by decide +kernel
theorem dX6_refers_15 : decode cX6_refers 15 = .ok (.aload_n 0, 1) := by decide +kernel
theorem dX6_refers_16 : decode cX6_refers 16 = .ok (.iload_n 1, 1) := by decide +kernel
theorem dX6_refers_17 : decode cX6_refers 17 = .ok (.iload_n 2, 1) := by decide +kernel
theorem dX6_refers_18 : decode cX6_refers 18 = .ok (.invokevirtual 100, 3) := by decide +kernel
theorem dX6_refers_21 : decode cX6_refers 21 = .ok (.ifCond .eq 9, 3) := by decide +kernel
theorem dX6_refers_24 : decode cX6_refers 24 = .ok (.iload 4, 2) := by decide +kernel
theorem dX6_refers_26 : decode cX6_refers 26 = .ok (.iload_n 3, 1) := by decide +kernel
theorem dX6_refers_27 : decode cX6_refers 27 = .ok (.if_icmp .ge 7, 3) := by decide +kernel
theorem dX6_refers_30 : decode cX6_refers 30 = .ok (.iconst 1, 1) := by decide +kernel
theorem dX6_refers_31 : decode cX6_refers 31 = .ok (.goto 14, 3) := by decide +kernel
theorem dX6_refers_34 : decode cX6_refers 34 = .ok (.iload 4, 2) := by decide +kernel
theorem dX6_refers_36 : decode cX6_refers 36 = .ok (.iload_n 3, 1) := by decide +kernel
theorem dX6_refers_37 : decode cX6_refers 37 = .ok (.if_icmp .ne 7, 3) := by decide +kernel
theorem dX6_refers_40 : decode cX6_refers 40 = .ok (.iconst 0, 1) := by decide +kernel
theorem dX6_refers_41 : decode cX6_refers 41 = .ok (.goto 4, 3) := by decide +kernel
theorem dX6_refers_44 : decode cX6_refers 44 = .ok (.iconst 2, 1) := by decide +kernel
theorem dX6_refers_45 : decode cX6_refers 45 = .ok (.ireturn, 1) := by decide +kernel
theorem dX6_follow_0 : decode cX6_follow 0 = .ok (.aload_n 0, 1) := by decide +kernel
theorem dX6_follow_1 : decode cX6_follow 1 = .ok (.iload_n 1, 1) := by decide +kernel
theorem dX6_follow_2 : decode cX6_follow 2 = .ok (.iload_n 2, 1) := by decide +kernel
theorem dX6_follow_3 : decode cX6_follow 3 = .ok (.invokestatic 93, 3) := by decide +kernel
theorem dX6_follow_6 : decode cX6_follow 6 = .ok (.iload_n 3, 1) := by decide +kernel
theorem dX6_follow_7 : decode cX6_follow 7 = .ok (.iconst 1, 1) := by decide +kernel
theorem dX6_follow_8 : decode cX6_follow 8 = .ok (.if_icmp .lt 7, 3) := by decide +kernel
theorem dX6_follow_11 : decode cX6_follow 11 = .ok (.iconst 1, 1) := by decide +kernel
theorem dX6_follow_12 : decode cX6_follow 12 = .ok (.goto 4, 3) := by decide +kernel
theorem dX6_follow_15 : decode cX6_follow 15 = .ok (.iconst 0, 1) := by decide +kernel
theorem dX6_follow_16 : decode cX6_follow 16 = .ok (.invokevirtual 83, 3) := by decide +kernel
theorem dX6_follow_19 : decode cX6_follow 19 = .ok (.ifCond .ne 5, 3) := by decide +kernel
theorem dX6_follow_22 : decode cX6_follow 22 = .ok (.iconst 0, 1) := by decide +kernel
theorem dX6_follow_23 : decode cX6_follow 23 = .ok (.ireturn, 1) := by decide +kernel
theorem dX6_follow_24 : decode cX6_follow 24 = .ok (.aload_n 0, 1) := by decide +kernel
theorem dX6_follow_25 : decode cX6_follow 25 = .ok (.invokevirtual 87, 3) := by decide +kernel
theorem dX6_follow_28 : decode cX6_follow 28 = .ok (.aload_n 0, 1) := by decide +kernel
theorem dX6_follow_29 : decode cX6_follow 29 = .ok (.iload_n 1, 1) := by decide +kernel
theorem dX6_follow_30 : decode cX6_follow 30 = .ok (.iload_n 2, 1) := by decide +kernel
theorem dX6_follow_31 : decode cX6_follow 31 = .ok (.iload_n 3, 1) := by decide +kernel
theorem dX6_follow_32 : decode cX6_follow 32 = .ok (.invokevirtual 115, 3) := by decide +kernel
theorem dX6_follow_35 : decode cX6_follow 35 = .ok (.istore 4, 2) := by decide +kernel
theorem dX6_follow_37 : decode cX6_follow 37 = .ok (.aload_n 0, 1) := by decide +kernel
theorem dX6_follow_38 : decode cX6_follow 38 = .ok (.getfield 7, 3) := by decide +kernel
theorem dX6_follow_41 : decode cX6_follow 41 = .ok (.sipush 288, 3) := by decide +kernel
theorem dX6_follow_44 : decode cX6_follow 44 = .ok (.dup2, 1) := by decide +kernel
theorem dX6_follow_45 : decode cX6_follow 45 = .ok (.iaload, 1) := by decide +kernel
theorem dX6_follow_46 : decode cX6_follow 46 = .ok (.iconst 1, 1) := by decide +kernel
theorem dX6_follow_47 : decode cX6_follow 47 = .ok (.iadd, 1) := by decide +kernel
theorem dX6_follow_48 : decode cX6_follow 48 = .ok (.iastore, 1) := by decide +kernel
theorem dX6_follow_49 : decode cX6_follow 49 = .ok (.aload_n 0, 1) := by decide +kernel
theorem dX6_follow_50 : decode cX6_follow 50 = .ok (.getfield 7, 3) := by decide +kernel
theorem dX6_follow_53 : decode cX6_follow 53 = .ok (.sipush 289, 3) := by decide +kernel
theorem dX6_follow_56 : decode cX6_follow 56 = .ok (.dup2, 1) := by decide +kernel
theorem dX6_follow_57 : decode cX6_follow 57 = .ok (.iaload, 1) := by decide +kernel
theorem dX6_follow_58 : decode cX6_follow 58 = .ok (.iload 4, 2) := by decide +kernel
theorem dX6_follow_60 : decode cX6_follow 60 = .ok (.iconst 2, 1) := by decide +kernel
theorem dX6_follow_61 : decode cX6_follow 61 = .ok (.if_icmp .ne 7, 3) := by decide +kernel
theorem dX6_follow_64 : decode cX6_follow 64 = .ok (.iconst 1, 1) := by decide +kernel
theorem dX6_follow_65 : decode cX6_follow 65 = .ok (.goto 4, 3) := by decide +kernel
theorem dX6_follow_68 : decode cX6_follow 68 = .ok (.iconst 0, 1) := by decide +kernel
theorem dX6_follow_69 : decode cX6_follow 69 = .ok (.iadd, 1) := by decide +kernel
theorem dX6_follow_70 : decode cX6_follow 70 = .ok (.iastore, 1) := by decide +kernel
theorem dX6_follow_71 : decode cX6_follow 71 = .ok (.aload_n 0, 1) := by decide +kernel
theorem dX6_follow_72 : decode cX6_follow 72 = .ok (.getfield 7, 3) := by decide +kernel
theorem dX6_follow_75 : decode cX6_follow 75 = .ok (.sipush 290, 3) := by decide +kernel
theorem dX6_follow_78 : decode cX6_follow 78 = .ok (.dup2, 1) := by decide +kernel
theorem dX6_follow_79 : decode cX6_follow 79 = .ok (.iaload, 1) := by decide +kernel
theorem dX6_follow_80 : decode cX6_follow 80 = .ok (.iload 4, 2) := by decide +kernel
theorem dX6_follow_82 : decode cX6_follow 82 = .ok (.iconst 1, 1) := by decide +kernel
theorem dX6_follow_83 : decode cX6_follow 83 = .ok (.if_icmp .ne 7, 3) := by decide +kernel
theorem dX6_follow_86 : decode cX6_follow 86 = .ok (.iconst 1, 1) := by decide +kernel
theorem dX6_follow_87 : decode cX6_follow 87 = .ok (.goto 4, 3) := by decide +kernel
theorem dX6_follow_90 : decode cX6_follow 90 = .ok (.iconst 0, 1) := by decide +kernel
theorem dX6_follow_91 : decode cX6_follow 91 = .ok (.iadd, 1) := by decide +kernel
theorem dX6_follow_92 : decode cX6_follow 92 = .ok (.iastore, 1) := by decide +kernel
theorem dX6_follow_93 : decode cX6_follow 93 = .ok (.iload 4, 2) := by decide +kernel
theorem dX6_follow_95 : decode cX6_follow 95 = .ok (.ireturn, 1) := by decide +kernel
theorem dX6_keysIn_0 : decode cX6_keysIn 0 = .ok (.iconst 0, 1) := by decide +kernel
theorem dX6_keysIn_1 : decode cX6_keysIn 1 = .ok (.istore_n 3, 1) := by decide +kernel
theorem dX6_keysIn_2 : decode cX6_keysIn 2 = .ok (.iconst 0, 1) := by decide +kernel
theorem dX6_keysIn_3 : decode cX6_keysIn 3 = .ok (.istore 4, 2) := by decide +kernel
theorem dX6_keysIn_5 : decode cX6_keysIn 5 = .ok (.iload 4, 2) := by decide +kernel
theorem dX6_keysIn_7 : decode cX6_keysIn 7 = .ok (.bipush 64, 2) := by decide +kernel
theorem dX6_keysIn_9 : decode cX6_keysIn 9 = .ok (.if_icmp .ge 88, 3) := by decide +kernel
theorem dX6_keysIn_12 : decode cX6_keysIn 12 = .ok (.iload_n 2, 1) := by decide +kernel
theorem dX6_keysIn_13 : decode cX6_keysIn 13 = .ok (.iconst 4, 1) := by decide +kernel
theorem dX6_keysIn_14 : decode cX6_keysIn 14 = .ok (.if_icmp .ne 21, 3) := by decide +kernel
theorem dX6_keysIn_17 : decode cX6_keysIn 17 = .ok (.aload_n 0, 1) := by decide +kernel
theorem dX6_keysIn_18 : decode cX6_keysIn 18 = .ok (.iconst 0, 1) := by decide +kernel
theorem dX6_keysIn_19 : decode cX6_keysIn 19 = .ok (.iload 4, 2) := by decide +kernel
theorem dX6_keysIn_21 : decode cX6_keysIn 21 = .ok (.bipush 16, 2) := by decide +kernel
theorem dX6_keysIn_23 : decode cX6_keysIn 23 = .ok (.idiv, 1) := by decide +kernel
theorem dX6_keysIn_24 : decode cX6_keysIn 24 = .ok (.iload 4, 2) := by decide +kernel
theorem dX6_keysIn_26 : decode cX6_keysIn 26 = .ok (.bipush 16, 2) := by decide +kernel
theorem dX6_keysIn_28 : decode cX6_keysIn 28 = .ok (.irem, 1) := by decide +kernel
theorem dX6_keysIn_29 : decode cX6_keysIn 29 = .ok (.invokevirtual 47, 3) := by decide +kernel
theorem dX6_keysIn_32 : decode cX6_keysIn 32 = .ok (.goto 31, 3) := by decide +kernel
theorem dX6_keysIn_35 : decode cX6_keysIn 35 = .ok (.aload_n 0, 1) := by decide +kernel
theorem dX6_keysIn_36 : decode cX6_keysIn 36 = .ok (.getfield 7, 3) := by decide +kernel
theorem dX6_keysIn_39 : decode cX6_keysIn 39 = .ok (.iconst 0, 1) := by decide +kernel
theorem dX6_keysIn_40 : decode cX6_keysIn 40 = .ok (.iload 4, 2) := by decide +kernel
theorem dX6_keysIn_42 : decode cX6_keysIn 42 = .ok (.bipush 16, 2) := by decide +kernel
theorem dX6_keysIn_44 : decode cX6_keysIn 44 = .ok (.idiv, 1) := by decide +kernel
theorem dX6_keysIn_45 : decode cX6_keysIn 45 = .ok (.iload 4, 2) := by decide +kernel
theorem dX6_keysIn_47 : decode cX6_keysIn 47 = .ok (.bipush 16, 2) := by decide +kernel
theorem dX6_keysIn_49 : decode cX6_keysIn 49 = .ok (.irem, 1) := by decide +kernel
theorem dX6_keysIn_50 : decode cX6_keysIn 50 = .ok (.invokestatic 40, 3) := by decide +kernel
theorem dX6_keysIn_53 : decode cX6_keysIn 53 = .ok (.iaload, 1) := by decide +kernel
theorem dX6_keysIn_54 : decode cX6_keysIn 54 = .ok (.iload_n 2, 1) := by decide +kernel
theorem dX6_keysIn_55 : decode cX6_keysIn 55 = .ok (.if_icmp .ne 7, 3) := by decide +kernel
theorem dX6_keysIn_58 : decode cX6_keysIn 58 = .ok (.iconst 1, 1) := by decide +kernel
theorem dX6_keysIn_59 : decode cX6_keysIn 59 = .ok (.goto 4, 3) := by decide +kernel
theorem dX6_keysIn_62 : decode cX6_keysIn 62 = .ok (.iconst 0, 1) := by decide +kernel
theorem dX6_keysIn_63 : decode cX6_keysIn 63 = .ok (.istore 5, 2) := by decide +kernel
theorem dX6_keysIn_65 : decode cX6_keysIn 65 = .ok (.iload_n 3, 1) := by decide +kernel
theorem dX6_keysIn_66 : decode cX6_keysIn 66 = .ok (.iload 5, 2) := by decide +kernel
theorem dX6_keysIn_68 : decode cX6_keysIn 68 = .ok (.ifCond .eq 20, 3) := by decide +kernel
theorem dX6_keysIn_71 : decode cX6_keysIn 71 = .ok (.iload_n 1, 1) := by decide +kernel
theorem dX6_keysIn_72 : decode cX6_keysIn 72 = .ok (.ifCond .lt 12, 3) := by decide +kernel
theorem dX6_keysIn_75 : decode cX6_keysIn 75 = .ok (.iload 4, 2) := by decide +kernel
theorem dX6_keysIn_77 : decode cX6_keysIn 77 = .ok (.bipush 16, 2) := by decide +kernel
theorem dX6_keysIn_79 : decode cX6_keysIn 79 = .ok (.idiv, 1) := by decide +kernel
theorem dX6_keysIn_80 : decode cX6_keysIn 80 = .ok (.iload_n 1, 1) := by decide +kernel
theorem dX6_keysIn_81 : decode cX6_keysIn 81 = .ok (.if_icmp .ne 7, 3) := by decide +kernel
theorem dX6_keysIn_84 : decode cX6_keysIn 84 = .ok (.iconst 1, 1) := by decide +kernel
theorem dX6_keysIn_85 : decode cX6_keysIn 85 = .ok (.goto 4, 3) := by decide +kernel
theorem dX6_keysIn_88 : decode cX6_keysIn 88 = .ok (.iconst 0, 1) := by decide +kernel
theorem dX6_keysIn_89 : decode cX6_keysIn 89 = .ok (.iadd, 1) := by decide +kernel
theorem dX6_keysIn_90 : decode cX6_keysIn 90 = .ok (.istore_n 3, 1) := by decide +kernel
theorem dX6_keysIn_91 : decode cX6_keysIn 91 = .ok (.iinc 4 1, 3) := by decide +kernel
theorem dX6_keysIn_94 : decode cX6_keysIn 94 = .ok (.goto (-89), 3) := by decide +kernel
theorem dX6_keysIn_97 : decode cX6_keysIn 97 = .ok (.iload_n 3, 1) := by decide +kernel
theorem dX6_keysIn_98 : decode cX6_keysIn 98 = .ok (.ireturn, 1) := by decide +kernel
theorem dX6_passes_0 : decode cX6_passes 0 = .ok (.aload_n 0, 1) := by decide +kernel
theorem dX6_passes_1 : decode cX6_passes 1 = .ok (.getfield 7, 3) := by decide +kernel
theorem dX6_passes_4 : decode cX6_passes 4 = .ok (.iconst 3, 1) := by decide +kernel
theorem dX6_passes_5 : decode cX6_passes 5 = .ok (.dup2, 1) := by decide +kernel
theorem dX6_passes_6 : decode cX6_passes 6 = .ok (.iaload, 1) := by decide +kernel
theorem dX6_passes_7 : decode cX6_passes 7 = .ok (.iload_n 1, 1) := by decide +kernel
theorem dX6_passes_8 : decode cX6_passes 8 = .ok (.iadd, 1) := by decide +kernel
theorem dX6_passes_9 : decode cX6_passes 9 = .ok (.iastore, 1) := by decide +kernel
theorem dX6_passes_10 : decode cX6_passes 10 = .ok (.aload_n 0, 1) := by decide +kernel
theorem dX6_passes_11 : decode cX6_passes 11 = .ok (.iconst (-1), 1) := by decide +kernel
theorem dX6_passes_12 : decode cX6_passes 12 = .ok (.iconst 4, 1) := by decide +kernel
theorem dX6_passes_13 : decode cX6_passes 13 = .ok (.invokevirtual 118, 3) := by decide +kernel
theorem dX6_passes_16 : decode cX6_passes 16 = .ok (.ireturn, 1) := by decide +kernel
theorem dX6_pass_0 : decode cX6_pass 0 = .ok (.iload_n 1, 1) := by decide +kernel
theorem dX6_pass_1 : decode cX6_pass 1 = .ok (.iconst 1, 1) := by decide +kernel
theorem dX6_pass_2 : decode cX6_pass 2 = .ok (.bipush 99, 2) := by decide +kernel
theorem dX6_pass_4 : decode cX6_pass 4 = .ok (.invokestatic 32, 3) := by decide +kernel
theorem dX6_pass_7 : decode cX6_pass 7 = .ok (.istore_n 2, 1) := by decide +kernel
theorem dX6_pass_8 : decode cX6_pass 8 = .ok (.aload_n 0, 1) := by decide +kernel
theorem dX6_pass_9 : decode cX6_pass 9 = .ok (.iload_n 2, 1) := by decide +kernel
theorem dX6_pass_10 : decode cX6_pass 10 = .ok (.iload_n 2, 1) := by decide +kernel
theorem dX6_pass_11 : decode cX6_pass 11 = .ok (.ifCond .eq 21, 3) := by decide +kernel
theorem dX6_pass_14 : decode cX6_pass 14 = .ok (.aload_n 0, 1) := by decide +kernel
theorem dX6_pass_15 : decode cX6_pass 15 = .ok (.getfield 7, 3) := by decide +kernel
theorem dX6_pass_18 : decode cX6_pass 18 = .ok (.iconst 3, 1) := by decide +kernel
theorem dX6_pass_19 : decode cX6_pass 19 = .ok (.iaload, 1) := by decide +kernel
theorem dX6_pass_20 : decode cX6_pass 20 = .ok (.sipush 9999, 3) := by decide +kernel
theorem dX6_pass_23 : decode cX6_pass 23 = .ok (.iload_n 1, 1) := by decide +kernel
theorem dX6_pass_24 : decode cX6_pass 24 = .ok (.isub, 1) := by decide +kernel
theorem dX6_pass_25 : decode cX6_pass 25 = .ok (.if_icmp .gt 7, 3) := by decide +kernel
theorem dX6_pass_28 : decode cX6_pass 28 = .ok (.iconst 1, 1) := by decide +kernel
theorem dX6_pass_29 : decode cX6_pass 29 = .ok (.goto 4, 3) := by decide +kernel
theorem dX6_pass_32 : decode cX6_pass 32 = .ok (.iconst 0, 1) := by decide +kernel
theorem dX6_pass_33 : decode cX6_pass 33 = .ok (.invokevirtual 83, 3) := by decide +kernel
theorem dX6_pass_36 : decode cX6_pass 36 = .ok (.ifCond .ne 5, 3) := by decide +kernel
theorem dX6_pass_39 : decode cX6_pass 39 = .ok (.iconst 0, 1) := by decide +kernel
theorem dX6_pass_40 : decode cX6_pass 40 = .ok (.ireturn, 1) := by decide +kernel
theorem dX6_pass_41 : decode cX6_pass 41 = .ok (.aload_n 0, 1) := by decide +kernel
theorem dX6_pass_42 : decode cX6_pass 42 = .ok (.invokevirtual 87, 3) := by decide +kernel
theorem dX6_pass_45 : decode cX6_pass 45 = .ok (.aload_n 0, 1) := by decide +kernel
theorem dX6_pass_46 : decode cX6_pass 46 = .ok (.iload_n 1, 1) := by decide +kernel
theorem dX6_pass_47 : decode cX6_pass 47 = .ok (.invokevirtual 121, 3) := by decide +kernel
theorem dX6_pass_50 : decode cX6_pass 50 = .ok (.ireturn, 1) := by decide +kernel
theorem dX6_changes_0 : decode cX6_changes 0 = .ok (.aload_n 0, 1) := by decide +kernel
theorem dX6_changes_1 : decode cX6_changes 1 = .ok (.getfield 7, 3) := by decide +kernel
theorem dX6_changes_4 : decode cX6_changes 4 = .ok (.iload_n 1, 1) := by decide +kernel
theorem dX6_changes_5 : decode cX6_changes 5 = .ok (.iaload, 1) := by decide +kernel
theorem dX6_changes_6 : decode cX6_changes 6 = .ok (.istore_n 3, 1) := by decide +kernel
theorem dX6_changes_7 : decode cX6_changes 7 = .ok (.aload_n 0, 1) := by decide +kernel
theorem dX6_changes_8 : decode cX6_changes 8 = .ok (.getfield 7, 3) := by decide +kernel
theorem dX6_changes_11 : decode cX6_changes 11 = .ok (.iload_n 1, 1) := by decide +kernel
theorem dX6_changes_12 : decode cX6_changes 12 = .ok (.iload_n 2, 1) := by decide +kernel
theorem dX6_changes_13 : decode cX6_changes 13 = .ok (.iastore, 1) := by decide +kernel
theorem dX6_changes_14 : decode cX6_changes 14 = .ok (.iload_n 3, 1) := by decide +kernel
theorem dX6_changes_15 : decode cX6_changes 15 = .ok (.ireturn, 1) := by decide +kernel
theorem dX6_season_0 : decode cX6_season 0 = .ok (.aload_n 0, 1) := by decide +kernel
theorem dX6_season_1 : decode cX6_season 1 = .ok (.iload_n 1, 1) := by decide +kernel
theorem dX6_season_2 : decode cX6_season 2 = .ok (.invokestatic 36, 3) := by decide +kernel
theorem dX6_season_5 : decode cX6_season 5 = .ok (.iload_n 2, 1) := by decide +kernel
theorem dX6_season_6 : decode cX6_season 6 = .ok (.iconst 0, 1) := by decide +kernel
theorem dX6_season_7 : decode cX6_season 7 = .ok (.bipush 99, 2) := by decide +kernel
theorem dX6_season_9 : decode cX6_season 9 = .ok (.invokestatic 32, 3) := by decide +kernel
theorem dX6_season_12 : decode cX6_season 12 = .ok (.invokevirtual 83, 3) := by decide +kernel
theorem dX6_season_15 : decode cX6_season 15 = .ok (.ifCond .ne 5, 3) := by decide +kernel
theorem dX6_season_18 : decode cX6_season 18 = .ok (.iconst 0, 1) := by decide +kernel
theorem dX6_season_19 : decode cX6_season 19 = .ok (.ireturn, 1) := by decide +kernel
theorem dX6_season_20 : decode cX6_season 20 = .ok (.aload_n 0, 1) := by decide +kernel
theorem dX6_season_21 : decode cX6_season 21 = .ok (.invokevirtual 87, 3) := by decide +kernel
theorem dX6_season_24 : decode cX6_season 24 = .ok (.aload_n 0, 1) := by decide +kernel
theorem dX6_season_25 : decode cX6_season 25 = .ok (.iconst 4, 1) := by decide +kernel
theorem dX6_season_26 : decode cX6_season 26 = .ok (.iload_n 1, 1) := by decide +kernel
theorem dX6_season_27 : decode cX6_season 27 = .ok (.iadd, 1) := by decide +kernel
theorem dX6_season_28 : decode cX6_season 28 = .ok (.iload_n 2, 1) := by decide +kernel
theorem dX6_season_29 : decode cX6_season 29 = .ok (.invokevirtual 124, 3) := by decide +kernel
theorem dX6_season_32 : decode cX6_season 32 = .ok (.ireturn, 1) := by decide +kernel
theorem dX6_set_0 : decode cX6_set 0 = .ok (.aload_n 0, 1) := by decide +kernel
theorem dX6_set_1 : decode cX6_set 1 = .ok (.iload_n 1, 1) := by decide +kernel
theorem dX6_set_2 : decode cX6_set 2 = .ok (.iconst 0, 1) := by decide +kernel
theorem dX6_set_3 : decode cX6_set 3 = .ok (.iconst 2, 1) := by decide +kernel
theorem dX6_set_4 : decode cX6_set 4 = .ok (.invokestatic 32, 3) := by decide +kernel
theorem dX6_set_7 : decode cX6_set 7 = .ok (.iload_n 2, 1) := by decide +kernel
theorem dX6_set_8 : decode cX6_set 8 = .ok (.iload_n 1, 1) := by decide +kernel
theorem dX6_set_9 : decode cX6_set 9 = .ok (.iconst 1, 1) := by decide +kernel
theorem dX6_set_10 : decode cX6_set 10 = .ok (.if_icmp .ne 7, 3) := by decide +kernel
theorem dX6_set_13 : decode cX6_set 13 = .ok (.iconst 1, 1) := by decide +kernel
theorem dX6_set_14 : decode cX6_set 14 = .ok (.goto 4, 3) := by decide +kernel
theorem dX6_set_17 : decode cX6_set 17 = .ok (.iconst 0, 1) := by decide +kernel
theorem dX6_set_18 : decode cX6_set 18 = .ok (.iload_n 1, 1) := by decide +kernel
theorem dX6_set_19 : decode cX6_set 19 = .ok (.ifCond .ne 7, 3) := by decide +kernel
theorem dX6_set_22 : decode cX6_set 22 = .ok (.iconst 3, 1) := by decide +kernel
theorem dX6_set_23 : decode cX6_set 23 = .ok (.goto 15, 3) := by decide +kernel
theorem dX6_set_26 : decode cX6_set 26 = .ok (.iload_n 1, 1) := by decide +kernel
theorem dX6_set_27 : decode cX6_set 27 = .ok (.iconst 1, 1) := by decide +kernel
theorem dX6_set_28 : decode cX6_set 28 = .ok (.if_icmp .ne 8, 3) := by decide +kernel
theorem dX6_set_31 : decode cX6_set 31 = .ok (.bipush 9, 2) := by decide +kernel
theorem dX6_set_33 : decode cX6_set 33 = .ok (.goto 5, 3) := by decide +kernel
theorem dX6_set_36 : decode cX6_set 36 = .ok (.bipush 20, 2) := by decide +kernel
theorem dX6_set_38 : decode cX6_set 38 = .ok (.invokestatic 32, 3) := by decide +kernel
theorem dX6_set_41 : decode cX6_set 41 = .ok (.invokevirtual 83, 3) := by decide +kernel
theorem dX6_set_44 : decode cX6_set 44 = .ok (.ifCond .ne 5, 3) := by decide +kernel
theorem dX6_set_47 : decode cX6_set 47 = .ok (.iconst 0, 1) := by decide +kernel
theorem dX6_set_48 : decode cX6_set 48 = .ok (.ireturn, 1) := by decide +kernel
theorem dX6_set_49 : decode cX6_set 49 = .ok (.aload_n 0, 1) := by decide +kernel
theorem dX6_set_50 : decode cX6_set 50 = .ok (.invokevirtual 87, 3) := by decide +kernel
theorem dX6_set_53 : decode cX6_set 53 = .ok (.aload_n 0, 1) := by decide +kernel
theorem dX6_set_54 : decode cX6_set 54 = .ok (.iload_n 1, 1) := by decide +kernel
theorem dX6_set_55 : decode cX6_set 55 = .ok (.iload_n 2, 1) := by decide +kernel
theorem dX6_set_56 : decode cX6_set 56 = .ok (.invokevirtual 124, 3) := by decide +kernel
theorem dX6_set_59 : decode cX6_set 59 = .ok (.ireturn, 1) := by decide +kernel
theorem dX6_append_0 : decode cX6_append 0 = .ok (.aload_n 0, 1) := by decide +kernel
theorem dX6_append_1 : decode cX6_append 1 = .ok (.iload_n 1, 1) := by decide +kernel
theorem dX6_append_2 : decode cX6_append 2 = .ok (.bipush 33, 2) := by decide +kernel
theorem dX6_append_4 : decode cX6_append 4 = .ok (.bipush 126, 2) := by decide +kernel
theorem dX6_append_6 : decode cX6_append 6 = .ok (.invokestatic 32, 3) := by decide +kernel
theorem dX6_append_9 : decode cX6_append 9 = .ok (.aload_n 0, 1) := by decide +kernel
theorem dX6_append_10 : decode cX6_append 10 = .ok (.getfield 127, 3) := by decide +kernel
theorem dX6_append_13 : decode cX6_append 13 = .ok (.bipush 60, 2) := by decide +kernel
theorem dX6_append_15 : decode cX6_append 15 = .ok (.if_icmp .ge 7, 3) := by decide +kernel
theorem dX6_append_18 : decode cX6_append 18 = .ok (.iconst 1, 1) := by decide +kernel
theorem dX6_append_19 : decode cX6_append 19 = .ok (.goto 4, 3) := by decide +kernel
theorem dX6_append_22 : decode cX6_append 22 = .ok (.iconst 0, 1) := by decide +kernel
theorem dX6_append_23 : decode cX6_append 23 = .ok (.invokevirtual 83, 3) := by decide +kernel
theorem dX6_append_26 : decode cX6_append 26 = .ok (.ifCond .ne 5, 3) := by decide +kernel
theorem dX6_append_29 : decode cX6_append 29 = .ok (.iconst 0, 1) := by decide +kernel
theorem dX6_append_30 : decode cX6_append 30 = .ok (.ireturn, 1) := by decide +kernel
theorem dX6_append_31 : decode cX6_append 31 = .ok (.aload_n 0, 1) := by decide +kernel
theorem dX6_append_32 : decode cX6_append 32 = .ok (.getfield 17, 3) := by decide +kernel
theorem dX6_append_35 : decode cX6_append 35 = .ok (.aload_n 0, 1) := by decide +kernel
theorem dX6_append_36 : decode cX6_append 36 = .ok (.getfield 127, 3) := by decide +kernel
theorem dX6_append_39 : decode cX6_append 39 = .ok (.iload_n 1, 1) := by decide +kernel
theorem dX6_append_40 : decode cX6_append 40 = .ok (.i2c, 1) := by decide +kernel
theorem dX6_append_41 : decode cX6_append 41 = .ok (.castore, 1) := by decide +kernel
theorem dX6_append_42 : decode cX6_append 42 = .ok (.aload_n 0, 1) := by decide +kernel
theorem dX6_append_43 : decode cX6_append 43 = .ok (.dup, 1) := by decide +kernel
theorem dX6_append_44 : decode cX6_append 44 = .ok (.getfield 127, 3) := by decide +kernel
theorem dX6_append_47 : decode cX6_append 47 = .ok (.iconst 1, 1) := by decide +kernel
theorem dX6_append_48 : decode cX6_append 48 = .ok (.iadd, 1) := by decide +kernel
theorem dX6_append_49 : decode cX6_append 49 = .ok (.putfield 127, 3) := by decide +kernel
theorem dX6_append_52 : decode cX6_append 52 = .ok (.aload_n 0, 1) := by decide +kernel
theorem dX6_append_53 : decode cX6_append 53 = .ok (.getfield 127, 3) := by decide +kernel
theorem dX6_append_56 : decode cX6_append 56 = .ok (.ireturn, 1) := by decide +kernel
theorem dX6_clearBuffer_0 : decode cX6_clearBuffer 0 = .ok (.aload_n 0, 1) := by decide +kernel
theorem dX6_clearBuffer_1 : decode cX6_clearBuffer 1 = .ok (.iconst 0, 1) := by decide +kernel
theorem dX6_clearBuffer_2 : decode cX6_clearBuffer 2 = .ok (.putfield 21, 3) := by decide +kernel
theorem dX6_clearBuffer_5 : decode cX6_clearBuffer 5 = .ok (.aload_n 0, 1) := by decide +kernel
theorem dX6_clearBuffer_6 : decode cX6_clearBuffer 6 = .ok (.getfield 127, 3) := by decide +kernel
theorem dX6_clearBuffer_9 : decode cX6_clearBuffer 9 = .ok (.istore_n 1, 1) := by decide +kernel
theorem dX6_clearBuffer_10 : decode cX6_clearBuffer 10 = .ok (.aload_n 0, 1) := by decide +kernel
theorem dX6_clearBuffer_11 : decode cX6_clearBuffer 11 = .ok (.iconst 0, 1) := by decide +kernel
theorem dX6_clearBuffer_12 : decode cX6_clearBuffer 12 = .ok (.putfield 127, 3) := by decide +kernel
theorem dX6_clearBuffer_15 : decode cX6_clearBuffer 15 = .ok (.iload_n 1, 1) := by decide +kernel
theorem dX6_clearBuffer_16 : decode cX6_clearBuffer 16 = .ok (.ireturn, 1) := by decide +kernel
theorem dX6_isSign_0 : decode cX6_isSign 0 = .ok (.aload_n 0, 1) := by decide +kernel
theorem dX6_isSign_1 : decode cX6_isSign 1 = .ok (.getfield 130, 3) := by decide +kernel
theorem dX6_isSign_4 : decode cX6_isSign 4 = .ok (.aload_n 0, 1) := by decide +kernel
theorem dX6_isSign_5 : decode cX6_isSign 5 = .ok (.getfield 127, 3) := by decide +kernel
theorem dX6_isSign_8 : decode cX6_isSign 8 = .ok (.if_icmp .ge 24, 3) := by decide +kernel
theorem dX6_isSign_11 : decode cX6_isSign 11 = .ok (.aload_n 0, 1) := by decide +kernel
theorem dX6_isSign_12 : decode cX6_isSign 12 = .ok (.getfield 17, 3) := by decide +kernel
theorem dX6_isSign_15 : decode cX6_isSign 15 = .ok (.aload_n 0, 1) := by decide +kernel
theorem dX6_isSign_16 : decode cX6_isSign 16 = .ok (.getfield 130, 3) := by decide +kernel
theorem dX6_isSign_19 : decode cX6_isSign 19 = .ok (.caload, 1) := by decide +kernel
theorem dX6_isSign_20 : decode cX6_isSign 20 = .ok (.iload_n 1, 1) := by decide +kernel
theorem dX6_isSign_21 : decode cX6_isSign 21 = .ok (.iload_n 2, 1) := by decide +kernel
theorem dX6_isSign_22 : decode cX6_isSign 22 = .ok (.invokestatic 32, 3) := by decide +kernel
theorem dX6_isSign_25 : decode cX6_isSign 25 = .ok (.ifCond .eq 7, 3) := by decide +kernel
theorem dX6_isSign_28 : decode cX6_isSign 28 = .ok (.iconst 1, 1) := by decide +kernel
theorem dX6_isSign_29 : decode cX6_isSign 29 = .ok (.goto 4, 3) := by decide +kernel
theorem dX6_isSign_32 : decode cX6_isSign 32 = .ok (.iconst 0, 1) := by decide +kernel
theorem dX6_isSign_33 : decode cX6_isSign 33 = .ok (.ireturn, 1) := by decide +kernel
theorem dX6_takesKind_0 : decode cX6_takesKind 0 = .ok (.aload_n 0, 1) := by decide +kernel
theorem dX6_takesKind_1 : decode cX6_takesKind 1 = .ok (.bipush 48, 2) := by decide +kernel
theorem dX6_takesKind_3 : decode cX6_takesKind 3 = .ok (.bipush 51, 2) := by decide +kernel
theorem dX6_takesKind_5 : decode cX6_takesKind 5 = .ok (.invokevirtual 133, 3) := by decide +kernel
theorem dX6_takesKind_8 : decode cX6_takesKind 8 = .ok (.istore_n 1, 1) := by decide +kernel
theorem dX6_takesKind_9 : decode cX6_takesKind 9 = .ok (.aload_n 0, 1) := by decide +kernel
theorem dX6_takesKind_10 : decode cX6_takesKind 10 = .ok (.iload_n 1, 1) := by decide +kernel
theorem dX6_takesKind_11 : decode cX6_takesKind 11 = .ok (.ifCond .eq 18, 3) := by decide +kernel
theorem dX6_takesKind_14 : decode cX6_takesKind 14 = .ok (.aload_n 0, 1) := by decide +kernel
theorem dX6_takesKind_15 : decode cX6_takesKind 15 = .ok (.getfield 17, 3) := by decide +kernel
theorem dX6_takesKind_18 : decode cX6_takesKind 18 = .ok (.aload_n 0, 1) := by decide +kernel
theorem dX6_takesKind_19 : decode cX6_takesKind 19 = .ok (.getfield 130, 3) := by decide +kernel
theorem dX6_takesKind_22 : decode cX6_takesKind 22 = .ok (.caload, 1) := by decide +kernel
theorem dX6_takesKind_23 : decode cX6_takesKind 23 = .ok (.bipush 48, 2) := by decide +kernel
theorem dX6_takesKind_25 : decode cX6_takesKind 25 = .ok (.isub, 1) := by decide +kernel
theorem dX6_takesKind_26 : decode cX6_takesKind 26 = .ok (.goto 4, 3) := by decide +kernel
theorem dX6_takesKind_29 : decode cX6_takesKind 29 = .ok (.iconst (-1), 1) := by decide +kernel
theorem dX6_takesKind_30 : decode cX6_takesKind 30 = .ok (.putfield 137, 3) := by decide +kernel
theorem dX6_takesKind_33 : decode cX6_takesKind 33 = .ok (.aload_n 0, 1) := by decide +kernel
theorem dX6_takesKind_34 : decode cX6_takesKind 34 = .ok (.dup, 1) := by decide +kernel
theorem dX6_takesKind_35 : decode cX6_takesKind 35 = .ok (.getfield 130, 3) := by decide +kernel
theorem dX6_takesKind_38 : decode cX6_takesKind 38 = .ok (.iload_n 1, 1) := by decide +kernel
theorem dX6_takesKind_39 : decode cX6_takesKind 39 = .ok (.ifCond .eq 7, 3) := by decide +kernel
theorem dX6_takesKind_42 : decode cX6_takesKind 42 = .ok (.iconst 1, 1) := by decide +kernel
theorem dX6_takesKind_43 : decode cX6_takesKind 43 = .ok (.goto 4, 3) := by decide +kernel
theorem dX6_takesKind_46 : decode cX6_takesKind 46 = .ok (.iconst 0, 1) := by decide +kernel
theorem dX6_takesKind_47 : decode cX6_takesKind 47 = .ok (.iadd, 1) := by decide +kernel
theorem dX6_takesKind_48 : decode cX6_takesKind 48 = .ok (.putfield 130, 3) := by decide +kernel
theorem dX6_takesKind_51 : decode cX6_takesKind 51 = .ok (.iload_n 1, 1) := by decide +kernel
theorem dX6_takesKind_52 : decode cX6_takesKind 52 = .ok (.ireturn, 1) := by decide +kernel
theorem dX6_takesKey_0 : decode cX6_takesKey 0 = .ok (.aload_n 0, 1) := by decide +kernel
theorem dX6_takesKey_1 : decode cX6_takesKey 1 = .ok (.bipush 46, 2) := by decide +kernel
theorem dX6_takesKey_3 : decode cX6_takesKey 3 = .ok (.bipush 46, 2) := by decide +kernel
theorem dX6_takesKey_5 : decode cX6_takesKey 5 = .ok (.invokevirtual 133, 3) := by decide +kernel
theorem dX6_takesKey_8 : decode cX6_takesKey 8 = .ok (.ifCond .ne 5, 3) := by decide +kernel
theorem dX6_takesKey_11 : decode cX6_takesKey 11 = .ok (.iconst 0, 1) := by decide +kernel
theorem dX6_takesKey_12 : decode cX6_takesKey 12 = .ok (.ireturn, 1) := by decide +kernel
theorem dX6_takesKey_13 : decode cX6_takesKey 13 = .ok (.aload_n 0, 1) := by decide +kernel
theorem dX6_takesKey_14 : decode cX6_takesKey 14 = .ok (.dup, 1) := by decide +kernel
theorem dX6_takesKey_15 : decode cX6_takesKey 15 = .ok (.getfield 130, 3) := by decide +kernel
theorem dX6_takesKey_18 : decode cX6_takesKey 18 = .ok (.iconst 1, 1) := by decide +kernel
theorem dX6_takesKey_19 : decode cX6_takesKey 19 = .ok (.iadd, 1) := by decide +kernel
theorem dX6_takesKey_20 : decode cX6_takesKey 20 = .ok (.putfield 130, 3) := by decide +kernel
theorem dX6_takesKey_23 : decode cX6_takesKey 23 = .ok (.aload_n 0, 1) := by decide +kernel
theorem dX6_takesKey_24 : decode cX6_takesKey 24 = .ok (.bipush 48, 2) := by decide +kernel
theorem dX6_takesKey_26 : decode cX6_takesKey 26 = .ok (.bipush 57, 2) := by decide +kernel
theorem dX6_takesKey_28 : decode cX6_takesKey 28 = .ok (.invokevirtual 133, 3) := by decide +kernel
theorem dX6_takesKey_31 : decode cX6_takesKey 31 = .ok (.ifCond .ne 5, 3) := by decide +kernel
theorem dX6_takesKey_34 : decode cX6_takesKey 34 = .ok (.iconst 0, 1) := by decide +kernel
theorem dX6_takesKey_35 : decode cX6_takesKey 35 = .ok (.ireturn, 1) := by decide +kernel
theorem dX6_takesKey_36 : decode cX6_takesKey 36 = .ok (.aload_n 0, 1) := by decide +kernel
theorem dX6_takesKey_37 : decode cX6_takesKey 37 = .ok (.aload_n 0, 1) := by decide +kernel
theorem dX6_takesKey_38 : decode cX6_takesKey 38 = .ok (.getfield 17, 3) := by decide +kernel
theorem dX6_takesKey_41 : decode cX6_takesKey 41 = .ok (.aload_n 0, 1) := by decide +kernel
theorem dX6_takesKey_42 : decode cX6_takesKey 42 = .ok (.getfield 130, 3) := by decide +kernel
theorem dX6_takesKey_45 : decode cX6_takesKey 45 = .ok (.caload, 1) := by decide +kernel
theorem dX6_takesKey_46 : decode cX6_takesKey 46 = .ok (.bipush 48, 2) := by decide +kernel
theorem dX6_takesKey_48 : decode cX6_takesKey 48 = .ok (.isub, 1) := by decide +kernel
theorem dX6_takesKey_49 : decode cX6_takesKey 49 = .ok (.putfield 140, 3) := by decide +kernel
theorem dX6_takesKey_52 : decode cX6_takesKey 52 = .ok (.aload_n 0, 1) := by decide +kernel
theorem dX6_takesKey_53 : decode cX6_takesKey 53 = .ok (.dup, 1) := by decide +kernel
theorem dX6_takesKey_54 : decode cX6_takesKey 54 = .ok (.getfield 130, 3) := by decide +kernel
theorem dX6_takesKey_57 : decode cX6_takesKey 57 = .ok (.iconst 1, 1) := by decide +kernel
theorem dX6_takesKey_58 : decode cX6_takesKey 58 = .ok (.iadd, 1) := by decide +kernel
theorem dX6_takesKey_59 : decode cX6_takesKey 59 = .ok (.putfield 130, 3) := by decide +kernel
theorem dX6_takesKey_62 : decode cX6_takesKey 62 = .ok (.aload_n 0, 1) := by decide +kernel
theorem dX6_takesKey_63 : decode cX6_takesKey 63 = .ok (.getfield 140, 3) := by decide +kernel
theorem dX6_takesKey_66 : decode cX6_takesKey 66 = .ok (.iconst 1, 1) := by decide +kernel
theorem dX6_takesKey_67 : decode cX6_takesKey 67 = .ok (.if_icmp .ne 43, 3) := by decide +kernel
theorem dX6_takesKey_70 : decode cX6_takesKey 70 = .ok (.aload_n 0, 1) := by decide +kernel
theorem dX6_takesKey_71 : decode cX6_takesKey 71 = .ok (.bipush 48, 2) := by decide +kernel
theorem dX6_takesKey_73 : decode cX6_takesKey 73 = .ok (.bipush 53, 2) := by decide +kernel
theorem dX6_takesKey_75 : decode cX6_takesKey 75 = .ok (.invokevirtual 133, 3) := by decide +kernel
theorem dX6_takesKey_78 : decode cX6_takesKey 78 = .ok (.ifCond .eq 32, 3) := by decide +kernel
theorem dX6_takesKey_81 : decode cX6_takesKey 81 = .ok (.aload_n 0, 1) := by decide +kernel
theorem dX6_takesKey_82 : decode cX6_takesKey 82 = .ok (.bipush 10, 2) := by decide +kernel
theorem dX6_takesKey_84 : decode cX6_takesKey 84 = .ok (.aload_n 0, 1) := by decide +kernel
theorem dX6_takesKey_85 : decode cX6_takesKey 85 = .ok (.getfield 17, 3) := by decide +kernel
theorem dX6_takesKey_88 : decode cX6_takesKey 88 = .ok (.aload_n 0, 1) := by decide +kernel
theorem dX6_takesKey_89 : decode cX6_takesKey 89 = .ok (.getfield 130, 3) := by decide +kernel
theorem dX6_takesKey_92 : decode cX6_takesKey 92 = .ok (.caload, 1) := by decide +kernel
theorem dX6_takesKey_93 : decode cX6_takesKey 93 = .ok (.iadd, 1) := by decide +kernel
theorem dX6_takesKey_94 : decode cX6_takesKey 94 = .ok (.bipush 48, 2) := by decide +kernel
theorem dX6_takesKey_96 : decode cX6_takesKey 96 = .ok (.isub, 1) := by decide +kernel
theorem dX6_takesKey_97 : decode cX6_takesKey 97 = .ok (.putfield 140, 3) := by decide +kernel
theorem dX6_takesKey_100 : decode cX6_takesKey 100 = .ok (.aload_n 0, 1) := by decide +kernel
theorem dX6_takesKey_101 : decode cX6_takesKey 101 = .ok (.dup, 1) := by decide +kernel
theorem dX6_takesKey_102 : decode cX6_takesKey 102 = .ok (.getfield 130, 3) := by decide +kernel
theorem dX6_takesKey_105 : decode cX6_takesKey 105 = .ok (.iconst 1, 1) := by decide +kernel
theorem dX6_takesKey_106 : decode cX6_takesKey 106 = .ok (.iadd, 1) := by decide +kernel
theorem dX6_takesKey_107 : decode cX6_takesKey 107 = .ok (.putfield 130, 3) := by decide +kernel
theorem dX6_takesKey_110 : decode cX6_takesKey 110 = .ok (.iconst 1, 1) := by decide +kernel
theorem dX6_takesKey_111 : decode cX6_takesKey 111 = .ok (.ireturn, 1) := by decide +kernel
theorem dX6_takesDays_0 : decode cX6_takesDays 0 = .ok (.aload_n 0, 1) := by decide +kernel
theorem dX6_takesDays_1 : decode cX6_takesDays 1 = .ok (.bipush 49, 2) := by decide +kernel
theorem dX6_takesDays_3 : decode cX6_takesDays 3 = .ok (.bipush 57, 2) := by decide +kernel
theorem dX6_takesDays_5 : decode cX6_takesDays 5 = .ok (.invokevirtual 133, 3) := by decide +kernel
theorem dX6_takesDays_8 : decode cX6_takesDays 8 = .ok (.ifCond .ne 5, 3) := by decide +kernel
theorem dX6_takesDays_11 : decode cX6_takesDays 11 = .ok (.iconst 0, 1) := by decide +kernel
theorem dX6_takesDays_12 : decode cX6_takesDays 12 = .ok (.ireturn, 1) := by decide +kernel
theorem dX6_takesDays_13 : decode cX6_takesDays 13 = .ok (.aload_n 0, 1) := by decide +kernel
theorem dX6_takesDays_14 : decode cX6_takesDays 14 = .ok (.aload_n 0, 1) := by decide +kernel
theorem dX6_takesDays_15 : decode cX6_takesDays 15 = .ok (.getfield 17, 3) := by decide +kernel
end
section
theorem dX6_takesDays_18 : decode cX6_takesDays 18 = .ok (.aload_n 0, 1) := by decide +kernel
theorem dX6_takesDays_19 : decode cX6_takesDays 19 = .ok (.getfield 130, 3) := by decide +kernel
theorem dX6_takesDays_22 : decode cX6_takesDays 22 = .ok (.caload, 1) := by decide +kernel
theorem dX6_takesDays_23 : decode cX6_takesDays 23 = .ok (.bipush 48, 2) := by decide +kernel
theorem dX6_takesDays_25 : decode cX6_takesDays 25 = .ok (.isub, 1) := by decide +kernel
theorem dX6_takesDays_26 : decode cX6_takesDays 26 = .ok (.putfield 137, 3) := by decide +kernel
theorem dX6_takesDays_29 : decode cX6_takesDays 29 = .ok (.aload_n 0, 1) := by decide +kernel
theorem dX6_takesDays_30 : decode cX6_takesDays 30 = .ok (.dup, 1) := by decide +kernel
theorem dX6_takesDays_31 : decode cX6_takesDays 31 = .ok (.getfield 130, 3) := by decide +kernel
theorem dX6_takesDays_34 : decode cX6_takesDays 34 = .ok (.iconst 1, 1) := by decide +kernel
theorem dX6_takesDays_35 : decode cX6_takesDays 35 = .ok (.iadd, 1) := by decide +kernel
theorem dX6_takesDays_36 : decode cX6_takesDays 36 = .ok (.putfield 130, 3) := by decide +kernel
theorem dX6_takesDays_39 : decode cX6_takesDays 39 = .ok (.aload_n 0, 1) := by decide +kernel
theorem dX6_takesDays_40 : decode cX6_takesDays 40 = .ok (.bipush 48, 2) := by decide +kernel
theorem dX6_takesDays_42 : decode cX6_takesDays 42 = .ok (.bipush 57, 2) := by decide +kernel
theorem dX6_takesDays_44 : decode cX6_takesDays 44 = .ok (.invokevirtual 133, 3) := by decide +kernel
theorem dX6_takesDays_47 : decode cX6_takesDays 47 = .ok (.ifCond .eq 37, 3) := by decide +kernel
theorem dX6_takesDays_50 : decode cX6_takesDays 50 = .ok (.aload_n 0, 1) := by decide +kernel
theorem dX6_takesDays_51 : decode cX6_takesDays 51 = .ok (.bipush 10, 2) := by decide +kernel
theorem dX6_takesDays_53 : decode cX6_takesDays 53 = .ok (.aload_n 0, 1) := by decide +kernel
theorem dX6_takesDays_54 : decode cX6_takesDays 54 = .ok (.getfield 137, 3) := by decide +kernel
theorem dX6_takesDays_57 : decode cX6_takesDays 57 = .ok (.imul, 1) := by decide +kernel
theorem dX6_takesDays_58 : decode cX6_takesDays 58 = .ok (.aload_n 0, 1) := by decide +kernel
theorem dX6_takesDays_59 : decode cX6_takesDays 59 = .ok (.getfield 17, 3) := by decide +kernel
theorem dX6_takesDays_62 : decode cX6_takesDays 62 = .ok (.aload_n 0, 1) := by decide +kernel
theorem dX6_takesDays_63 : decode cX6_takesDays 63 = .ok (.getfield 130, 3) := by decide +kernel
theorem dX6_takesDays_66 : decode cX6_takesDays 66 = .ok (.caload, 1) := by decide +kernel
theorem dX6_takesDays_67 : decode cX6_takesDays 67 = .ok (.iadd, 1) := by decide +kernel
theorem dX6_takesDays_68 : decode cX6_takesDays 68 = .ok (.bipush 48, 2) := by decide +kernel
theorem dX6_takesDays_70 : decode cX6_takesDays 70 = .ok (.isub, 1) := by decide +kernel
theorem dX6_takesDays_71 : decode cX6_takesDays 71 = .ok (.putfield 137, 3) := by decide +kernel
theorem dX6_takesDays_74 : decode cX6_takesDays 74 = .ok (.aload_n 0, 1) := by decide +kernel
theorem dX6_takesDays_75 : decode cX6_takesDays 75 = .ok (.dup, 1) := by decide +kernel
theorem dX6_takesDays_76 : decode cX6_takesDays 76 = .ok (.getfield 130, 3) := by decide +kernel
theorem dX6_takesDays_79 : decode cX6_takesDays 79 = .ok (.iconst 1, 1) := by decide +kernel
theorem dX6_takesDays_80 : decode cX6_takesDays 80 = .ok (.iadd, 1) := by decide +kernel
theorem dX6_takesDays_81 : decode cX6_takesDays 81 = .ok (.putfield 130, 3) := by decide +kernel
theorem dX6_takesDays_84 : decode cX6_takesDays 84 = .ok (.iconst 1, 1) := by decide +kernel
theorem dX6_takesDays_85 : decode cX6_takesDays 85 = .ok (.ireturn, 1) := by decide +kernel
theorem dX6_order_0 : decode cX6_order 0 = .ok (.aload_n 0, 1) := by decide +kernel
theorem dX6_order_1 : decode cX6_order 1 = .ok (.getfield 130, 3) := by decide +kernel
theorem dX6_order_4 : decode cX6_order 4 = .ok (.aload_n 0, 1) := by decide +kernel
theorem dX6_order_5 : decode cX6_order 5 = .ok (.getfield 127, 3) := by decide +kernel
theorem dX6_order_8 : decode cX6_order 8 = .ok (.if_icmp .ge 15, 3) := by decide +kernel
theorem dX6_order_11 : decode cX6_order 11 = .ok (.aload_n 0, 1) := by decide +kernel
theorem dX6_order_12 : decode cX6_order 12 = .ok (.getfield 17, 3) := by decide +kernel
theorem dX6_order_15 : decode cX6_order 15 = .ok (.aload_n 0, 1) := by decide +kernel
theorem dX6_order_16 : decode cX6_order 16 = .ok (.getfield 130, 3) := by decide +kernel
theorem dX6_order_19 : decode cX6_order 19 = .ok (.caload, 1) := by decide +kernel
theorem dX6_order_20 : decode cX6_order 20 = .ok (.goto 5, 3) := by decide +kernel
theorem dX6_order_23 : decode cX6_order 23 = .ok (.bipush 32, 2) := by decide +kernel
theorem dX6_order_25 : decode cX6_order 25 = .ok (.istore_n 1, 1) := by decide +kernel
theorem dX6_order_26 : decode cX6_order 26 = .ok (.iload_n 1, 1) := by decide +kernel
theorem dX6_order_27 : decode cX6_order 27 = .ok (.bipush 100, 2) := by decide +kernel
theorem dX6_order_29 : decode cX6_order 29 = .ok (.if_icmp .eq 9, 3) := by decide +kernel
theorem dX6_order_32 : decode cX6_order 32 = .ok (.iload_n 1, 1) := by decide +kernel
theorem dX6_order_33 : decode cX6_order 33 = .ok (.bipush 98, 2) := by decide +kernel
theorem dX6_order_35 : decode cX6_order 35 = .ok (.if_icmp .ne 7, 3) := by decide +kernel
theorem dX6_order_38 : decode cX6_order 38 = .ok (.iconst 1, 1) := by decide +kernel
theorem dX6_order_39 : decode cX6_order 39 = .ok (.goto 4, 3) := by decide +kernel
theorem dX6_order_42 : decode cX6_order 42 = .ok (.iconst 0, 1) := by decide +kernel
theorem dX6_order_43 : decode cX6_order 43 = .ok (.istore_n 2, 1) := by decide +kernel
theorem dX6_order_44 : decode cX6_order 44 = .ok (.iload_n 2, 1) := by decide +kernel
theorem dX6_order_45 : decode cX6_order 45 = .ok (.ifCond .ne 24, 3) := by decide +kernel
theorem dX6_order_48 : decode cX6_order 48 = .ok (.iload_n 1, 1) := by decide +kernel
theorem dX6_order_49 : decode cX6_order 49 = .ok (.bipush 97, 2) := by decide +kernel
theorem dX6_order_51 : decode cX6_order 51 = .ok (.if_icmp .eq 18, 3) := by decide +kernel
theorem dX6_order_54 : decode cX6_order 54 = .ok (.iload_n 1, 1) := by decide +kernel
theorem dX6_order_55 : decode cX6_order 55 = .ok (.bipush 112, 2) := by decide +kernel
theorem dX6_order_57 : decode cX6_order 57 = .ok (.if_icmp .eq 12, 3) := by decide +kernel
theorem dX6_order_60 : decode cX6_order 60 = .ok (.iload_n 1, 1) := by decide +kernel
theorem dX6_order_61 : decode cX6_order 61 = .ok (.bipush 116, 2) := by decide +kernel
theorem dX6_order_63 : decode cX6_order 63 = .ok (.if_icmp .eq 6, 3) := by decide +kernel
theorem dX6_order_66 : decode cX6_order 66 = .ok (.bipush 32, 2) := by decide +kernel
theorem dX6_order_68 : decode cX6_order 68 = .ok (.ireturn, 1) := by decide +kernel
theorem dX6_order_69 : decode cX6_order 69 = .ok (.aload_n 0, 1) := by decide +kernel
theorem dX6_order_70 : decode cX6_order 70 = .ok (.dup, 1) := by decide +kernel
theorem dX6_order_71 : decode cX6_order 71 = .ok (.getfield 130, 3) := by decide +kernel
theorem dX6_order_74 : decode cX6_order 74 = .ok (.iconst 1, 1) := by decide +kernel
theorem dX6_order_75 : decode cX6_order 75 = .ok (.iadd, 1) := by decide +kernel
theorem dX6_order_76 : decode cX6_order 76 = .ok (.putfield 130, 3) := by decide +kernel
theorem dX6_order_79 : decode cX6_order 79 = .ok (.iload_n 1, 1) := by decide +kernel
theorem dX6_order_80 : decode cX6_order 80 = .ok (.bipush 116, 2) := by decide +kernel
theorem dX6_order_82 : decode cX6_order 82 = .ok (.if_icmp .ne 10, 3) := by decide +kernel
theorem dX6_order_85 : decode cX6_order 85 = .ok (.aload_n 0, 1) := by decide +kernel
theorem dX6_order_86 : decode cX6_order 86 = .ok (.invokevirtual 143, 3) := by decide +kernel
theorem dX6_order_89 : decode cX6_order 89 = .ok (.goto 26, 3) := by decide +kernel
theorem dX6_order_92 : decode cX6_order 92 = .ok (.aload_n 0, 1) := by decide +kernel
theorem dX6_order_93 : decode cX6_order 93 = .ok (.invokevirtual 147, 3) := by decide +kernel
theorem dX6_order_96 : decode cX6_order 96 = .ok (.ifCond .eq 18, 3) := by decide +kernel
theorem dX6_order_99 : decode cX6_order 99 = .ok (.iload_n 2, 1) := by decide +kernel
theorem dX6_order_100 : decode cX6_order 100 = .ok (.ifCond .eq 10, 3) := by decide +kernel
theorem dX6_order_103 : decode cX6_order 103 = .ok (.aload_n 0, 1) := by decide +kernel
theorem dX6_order_104 : decode cX6_order 104 = .ok (.invokevirtual 150, 3) := by decide +kernel
theorem dX6_order_107 : decode cX6_order 107 = .ok (.ifCond .eq 7, 3) := by decide +kernel
theorem dX6_order_110 : decode cX6_order 110 = .ok (.iconst 1, 1) := by decide +kernel
theorem dX6_order_111 : decode cX6_order 111 = .ok (.goto 4, 3) := by decide +kernel
theorem dX6_order_114 : decode cX6_order 114 = .ok (.iconst 0, 1) := by decide +kernel
theorem dX6_order_115 : decode cX6_order 115 = .ok (.istore_n 3, 1) := by decide +kernel
theorem dX6_order_116 : decode cX6_order 116 = .ok (.iload_n 3, 1) := by decide +kernel
theorem dX6_order_117 : decode cX6_order 117 = .ok (.ifCond .eq 7, 3) := by decide +kernel
theorem dX6_order_120 : decode cX6_order 120 = .ok (.iload_n 1, 1) := by decide +kernel
theorem dX6_order_121 : decode cX6_order 121 = .ok (.goto 5, 3) := by decide +kernel
theorem dX6_order_124 : decode cX6_order 124 = .ok (.bipush 32, 2) := by decide +kernel
theorem dX6_order_126 : decode cX6_order 126 = .ok (.ireturn, 1) := by decide +kernel
theorem dX6_error_0 : decode cX6_error 0 = .ok (.aload_n 0, 1) := by decide +kernel
theorem dX6_error_1 : decode cX6_error 1 = .ok (.iconst 0, 1) := by decide +kernel
theorem dX6_error_2 : decode cX6_error 2 = .ok (.putfield 130, 3) := by decide +kernel
theorem dX6_error_5 : decode cX6_error 5 = .ok (.aload_n 0, 1) := by decide +kernel
theorem dX6_error_6 : decode cX6_error 6 = .ok (.invokevirtual 153, 3) := by decide +kernel
theorem dX6_error_9 : decode cX6_error 9 = .ok (.bipush 32, 2) := by decide +kernel
theorem dX6_error_11 : decode cX6_error 11 = .ok (.if_icmp .eq 48, 3) := by decide +kernel
theorem dX6_error_14 : decode cX6_error 14 = .ok (.aload_n 0, 1) := by decide +kernel
theorem dX6_error_15 : decode cX6_error 15 = .ok (.getfield 130, 3) := by decide +kernel
theorem dX6_error_18 : decode cX6_error 18 = .ok (.aload_n 0, 1) := by decide +kernel
theorem dX6_error_19 : decode cX6_error 19 = .ok (.getfield 127, 3) := by decide +kernel
theorem dX6_error_22 : decode cX6_error 22 = .ok (.if_icmp .ne 5, 3) := by decide +kernel
theorem dX6_error_25 : decode cX6_error 25 = .ok (.iconst (-1), 1) := by decide +kernel
theorem dX6_error_26 : decode cX6_error 26 = .ok (.ireturn, 1) := by decide +kernel
theorem dX6_error_27 : decode cX6_error 27 = .ok (.aload_n 0, 1) := by decide +kernel
theorem dX6_error_28 : decode cX6_error 28 = .ok (.getfield 17, 3) := by decide +kernel
theorem dX6_error_31 : decode cX6_error 31 = .ok (.aload_n 0, 1) := by decide +kernel
theorem dX6_error_32 : decode cX6_error 32 = .ok (.getfield 130, 3) := by decide +kernel
theorem dX6_error_35 : decode cX6_error 35 = .ok (.caload, 1) := by decide +kernel
theorem dX6_error_36 : decode cX6_error 36 = .ok (.bipush 59, 2) := by decide +kernel
theorem dX6_error_38 : decode cX6_error 38 = .ok (.if_icmp .eq 8, 3) := by decide +kernel
theorem dX6_error_41 : decode cX6_error 41 = .ok (.aload_n 0, 1) := by decide +kernel
theorem dX6_error_42 : decode cX6_error 42 = .ok (.getfield 130, 3) := by decide +kernel
theorem dX6_error_45 : decode cX6_error 45 = .ok (.ireturn, 1) := by decide +kernel
theorem dX6_error_46 : decode cX6_error 46 = .ok (.aload_n 0, 1) := by decide +kernel
theorem dX6_error_47 : decode cX6_error 47 = .ok (.dup, 1) := by decide +kernel
theorem dX6_error_48 : decode cX6_error 48 = .ok (.getfield 130, 3) := by decide +kernel
theorem dX6_error_51 : decode cX6_error 51 = .ok (.iconst 1, 1) := by decide +kernel
theorem dX6_error_52 : decode cX6_error 52 = .ok (.iadd, 1) := by decide +kernel
theorem dX6_error_53 : decode cX6_error 53 = .ok (.putfield 130, 3) := by decide +kernel
theorem dX6_error_56 : decode cX6_error 56 = .ok (.goto (-51), 3) := by decide +kernel
theorem dX6_error_59 : decode cX6_error 59 = .ok (.aload_n 0, 1) := by decide +kernel
theorem dX6_error_60 : decode cX6_error 60 = .ok (.getfield 130, 3) := by decide +kernel
theorem dX6_error_63 : decode cX6_error 63 = .ok (.ireturn, 1) := by decide +kernel
theorem dX6_firstError_0 : decode cX6_firstError 0 = .ok (.aload_n 0, 1) := by decide +kernel
theorem dX6_firstError_1 : decode cX6_firstError 1 = .ok (.iconst 0, 1) := by decide +kernel
theorem dX6_firstError_2 : decode cX6_firstError 2 = .ok (.putfield 21, 3) := by decide +kernel
theorem dX6_firstError_5 : decode cX6_firstError 5 = .ok (.aload_n 0, 1) := by decide +kernel
theorem dX6_firstError_6 : decode cX6_firstError 6 = .ok (.invokevirtual 157, 3) := by decide +kernel
theorem dX6_firstError_9 : decode cX6_firstError 9 = .ok (.istore_n 1, 1) := by decide +kernel
theorem dX6_firstError_10 : decode cX6_firstError 10 = .ok (.iload_n 1, 1) := by decide +kernel
theorem dX6_firstError_11 : decode cX6_firstError 11 = .ok (.ifCond .ge 10, 3) := by decide +kernel
theorem dX6_firstError_14 : decode cX6_firstError 14 = .ok (.aload_n 0, 1) := by decide +kernel
theorem dX6_firstError_15 : decode cX6_firstError 15 = .ok (.getfield 127, 3) := by decide +kernel
theorem dX6_firstError_18 : decode cX6_firstError 18 = .ok (.goto 4, 3) := by decide +kernel
theorem dX6_firstError_21 : decode cX6_firstError 21 = .ok (.iload_n 1, 1) := by decide +kernel
theorem dX6_firstError_22 : decode cX6_firstError 22 = .ok (.ireturn, 1) := by decide +kernel
theorem dX6_does_0 : decode cX6_does 0 = .ok (.iload_n 1, 1) := by decide +kernel
theorem dX6_does_1 : decode cX6_does 1 = .ok (.lookupswitch 152 #[(97, 43), (98, 98), (100, 62), (112, 134)], 43) := by decide +kernel
theorem dX6_does_44 : decode cX6_does 44 = .ok (.aload_n 0, 1) := by decide +kernel
theorem dX6_does_45 : decode cX6_does 45 = .ok (.aload_n 0, 1) := by decide +kernel
theorem dX6_does_46 : decode cX6_does 46 = .ok (.getfield 137, 3) := by decide +kernel
theorem dX6_does_49 : decode cX6_does 49 = .ok (.invokevirtual 90, 3) := by decide +kernel
theorem dX6_does_52 : decode cX6_does 52 = .ok (.bipush 100, 2) := by decide +kernel
theorem dX6_does_54 : decode cX6_does 54 = .ok (.if_icmp .ge 7, 3) := by decide +kernel
theorem dX6_does_57 : decode cX6_does 57 = .ok (.iconst 1, 1) := by decide +kernel
theorem dX6_does_58 : decode cX6_does 58 = .ok (.goto 4, 3) := by decide +kernel
theorem dX6_does_61 : decode cX6_does 61 = .ok (.iconst 0, 1) := by decide +kernel
theorem dX6_does_62 : decode cX6_does 62 = .ok (.ireturn, 1) := by decide +kernel
theorem dX6_does_63 : decode cX6_does 63 = .ok (.aload_n 0, 1) := by decide +kernel
theorem dX6_does_64 : decode cX6_does 64 = .ok (.aload_n 0, 1) := by decide +kernel
theorem dX6_does_65 : decode cX6_does 65 = .ok (.getfield 137, 3) := by decide +kernel
theorem dX6_does_68 : decode cX6_does 68 = .ok (.aload_n 0, 1) := by decide +kernel
theorem dX6_does_69 : decode cX6_does 69 = .ok (.getfield 140, 3) := by decide +kernel
theorem dX6_does_72 : decode cX6_does 72 = .ok (.invokevirtual 100, 3) := by decide +kernel
theorem dX6_does_75 : decode cX6_does 75 = .ok (.ifCond .eq 22, 3) := by decide +kernel
theorem dX6_does_78 : decode cX6_does 78 = .ok (.aload_n 0, 1) := by decide +kernel
theorem dX6_does_79 : decode cX6_does 79 = .ok (.aload_n 0, 1) := by decide +kernel
theorem dX6_does_80 : decode cX6_does 80 = .ok (.getfield 137, 3) := by decide +kernel
theorem dX6_does_83 : decode cX6_does 83 = .ok (.aload_n 0, 1) := by decide +kernel
theorem dX6_does_84 : decode cX6_does 84 = .ok (.getfield 140, 3) := by decide +kernel
theorem dX6_does_87 : decode cX6_does 87 = .ok (.invokevirtual 103, 3) := by decide +kernel
theorem dX6_does_90 : decode cX6_does 90 = .ok (.ifCond .lt 7, 3) := by decide +kernel
theorem dX6_does_93 : decode cX6_does 93 = .ok (.iconst 1, 1) := by decide +kernel
theorem dX6_does_94 : decode cX6_does 94 = .ok (.goto 4, 3) := by decide +kernel
theorem dX6_does_97 : decode cX6_does 97 = .ok (.iconst 0, 1) := by decide +kernel
theorem dX6_does_98 : decode cX6_does 98 = .ok (.ireturn, 1) := by decide +kernel
theorem dX6_does_99 : decode cX6_does 99 = .ok (.aload_n 0, 1) := by decide +kernel
theorem dX6_does_100 : decode cX6_does 100 = .ok (.aload_n 0, 1) := by decide +kernel
theorem dX6_does_101 : decode cX6_does 101 = .ok (.getfield 137, 3) := by decide +kernel
theorem dX6_does_104 : decode cX6_does 104 = .ok (.aload_n 0, 1) := by decide +kernel
theorem dX6_does_105 : decode cX6_does 105 = .ok (.getfield 140, 3) := by decide +kernel
theorem dX6_does_108 : decode cX6_does 108 = .ok (.invokevirtual 106, 3) := by decide +kernel
theorem dX6_does_111 : decode cX6_does 111 = .ok (.ifCond .eq 22, 3) := by decide +kernel
theorem dX6_does_114 : decode cX6_does 114 = .ok (.aload_n 0, 1) := by decide +kernel
theorem dX6_does_115 : decode cX6_does 115 = .ok (.aload_n 0, 1) := by decide +kernel
theorem dX6_does_116 : decode cX6_does 116 = .ok (.getfield 137, 3) := by decide +kernel
theorem dX6_does_119 : decode cX6_does 119 = .ok (.aload_n 0, 1) := by decide +kernel
theorem dX6_does_120 : decode cX6_does 120 = .ok (.getfield 140, 3) := by decide +kernel
theorem dX6_does_123 : decode cX6_does 123 = .ok (.invokevirtual 109, 3) := by decide +kernel
theorem dX6_does_126 : decode cX6_does 126 = .ok (.ifCond .lt 7, 3) := by decide +kernel
theorem dX6_does_129 : decode cX6_does 129 = .ok (.iconst 1, 1) := by decide +kernel
theorem dX6_does_130 : decode cX6_does 130 = .ok (.goto 4, 3) := by decide +kernel
theorem dX6_does_133 : decode cX6_does 133 = .ok (.iconst 0, 1) := by decide +kernel
theorem dX6_does_134 : decode cX6_does 134 = .ok (.ireturn, 1) := by decide +kernel
theorem dX6_does_135 : decode cX6_does 135 = .ok (.aload_n 0, 1) := by decide +kernel
theorem dX6_does_136 : decode cX6_does 136 = .ok (.aload_n 0, 1) := by decide +kernel
theorem dX6_does_137 : decode cX6_does 137 = .ok (.getfield 137, 3) := by decide +kernel
theorem dX6_does_140 : decode cX6_does 140 = .ok (.invokevirtual 112, 3) := by decide +kernel
theorem dX6_does_143 : decode cX6_does 143 = .ok (.iconst (-1), 1) := by decide +kernel
theorem dX6_does_144 : decode cX6_does 144 = .ok (.if_icmp .lt 7, 3) := by decide +kernel
theorem dX6_does_147 : decode cX6_does 147 = .ok (.iconst 1, 1) := by decide +kernel
theorem dX6_does_148 : decode cX6_does 148 = .ok (.goto 4, 3) := by decide +kernel
theorem dX6_does_151 : decode cX6_does 151 = .ok (.iconst 0, 1) := by decide +kernel
theorem dX6_does_152 : decode cX6_does 152 = .ok (.ireturn, 1) := by decide +kernel
theorem dX6_does_153 : decode cX6_does 153 = .ok (.aload_n 0, 1) := by decide +kernel
theorem dX6_does_154 : decode cX6_does 154 = .ok (.getfield 7, 3) := by decide +kernel
theorem dX6_does_157 : decode cX6_does 157 = .ok (.iconst 3, 1) := by decide +kernel
theorem dX6_does_158 : decode cX6_does 158 = .ok (.iaload, 1) := by decide +kernel
theorem dX6_does_159 : decode cX6_does 159 = .ok (.sipush 9999, 3) := by decide +kernel
theorem dX6_does_162 : decode cX6_does 162 = .ok (.aload_n 0, 1) := by decide +kernel
theorem dX6_does_163 : decode cX6_does 163 = .ok (.getfield 137, 3) := by decide +kernel
theorem dX6_does_166 : decode cX6_does 166 = .ok (.isub, 1) := by decide +kernel
theorem dX6_does_167 : decode cX6_does 167 = .ok (.if_icmp .gt 18, 3) := by decide +kernel
theorem dX6_does_170 : decode cX6_does 170 = .ok (.aload_n 0, 1) := by decide +kernel
theorem dX6_does_171 : decode cX6_does 171 = .ok (.aload_n 0, 1) := by decide +kernel
theorem dX6_does_172 : decode cX6_does 172 = .ok (.getfield 137, 3) := by decide +kernel
theorem dX6_does_175 : decode cX6_does 175 = .ok (.invokevirtual 121, 3) := by decide +kernel
theorem dX6_does_178 : decode cX6_does 178 = .ok (.ifCond .lt 7, 3) := by decide +kernel
theorem dX6_does_181 : decode cX6_does 181 = .ok (.iconst 1, 1) := by decide +kernel
theorem dX6_does_182 : decode cX6_does 182 = .ok (.goto 4, 3) := by decide +kernel
theorem dX6_does_185 : decode cX6_does 185 = .ok (.iconst 0, 1) := by decide +kernel
theorem dX6_does_186 : decode cX6_does 186 = .ok (.ireturn, 1) := by decide +kernel
theorem dX6_run_0 : decode cX6_run 0 = .ok (.aload_n 0, 1) := by decide +kernel
theorem dX6_run_1 : decode cX6_run 1 = .ok (.aload_n 0, 1) := by decide +kernel
theorem dX6_run_2 : decode cX6_run 2 = .ok (.invokevirtual 157, 3) := by decide +kernel
theorem dX6_run_5 : decode cX6_run 5 = .ok (.ifCond .ge 7, 3) := by decide +kernel
theorem dX6_run_8 : decode cX6_run 8 = .ok (.iconst 1, 1) := by decide +kernel
theorem dX6_run_9 : decode cX6_run 9 = .ok (.goto 4, 3) := by decide +kernel
theorem dX6_run_12 : decode cX6_run 12 = .ok (.iconst 0, 1) := by decide +kernel
theorem dX6_run_13 : decode cX6_run 13 = .ok (.iconst 1, 1) := by decide +kernel
theorem dX6_run_14 : decode cX6_run 14 = .ok (.invokevirtual 83, 3) := by decide +kernel
theorem dX6_run_17 : decode cX6_run 17 = .ok (.ifCond .ne 5, 3) := by decide +kernel
theorem dX6_run_20 : decode cX6_run 20 = .ok (.iconst 0, 1) := by decide +kernel
theorem dX6_run_21 : decode cX6_run 21 = .ok (.ireturn, 1) := by decide +kernel
theorem dX6_run_22 : decode cX6_run 22 = .ok (.aload_n 0, 1) := by decide +kernel
theorem dX6_run_23 : decode cX6_run 23 = .ok (.invokevirtual 87, 3) := by decide +kernel
theorem dX6_run_26 : decode cX6_run 26 = .ok (.aload_n 0, 1) := by decide +kernel
theorem dX6_run_27 : decode cX6_run 27 = .ok (.iconst 0, 1) := by decide +kernel
theorem dX6_run_28 : decode cX6_run 28 = .ok (.putfield 130, 3) := by decide +kernel
theorem dX6_run_31 : decode cX6_run 31 = .ok (.iconst 0, 1) := by decide +kernel
theorem dX6_run_32 : decode cX6_run 32 = .ok (.istore_n 1, 1) := by decide +kernel
theorem dX6_run_33 : decode cX6_run 33 = .ok (.iconst 1, 1) := by decide +kernel
theorem dX6_run_34 : decode cX6_run 34 = .ok (.istore_n 2, 1) := by decide +kernel
theorem dX6_run_35 : decode cX6_run 35 = .ok (.aload_n 0, 1) := by decide +kernel
theorem dX6_run_36 : decode cX6_run 36 = .ok (.getfield 130, 3) := by decide +kernel
theorem dX6_run_39 : decode cX6_run 39 = .ok (.aload_n 0, 1) := by decide +kernel
theorem dX6_run_40 : decode cX6_run 40 = .ok (.getfield 127, 3) := by decide +kernel
theorem dX6_run_43 : decode cX6_run 43 = .ok (.if_icmp .ge 41, 3) := by decide +kernel
theorem dX6_run_46 : decode cX6_run 46 = .ok (.iload_n 2, 1) := by decide +kernel
theorem dX6_run_47 : decode cX6_run 47 = .ok (.ifCond .eq 37, 3) := by decide +kernel
theorem dX6_run_50 : decode cX6_run 50 = .ok (.aload_n 0, 1) := by decide +kernel
theorem dX6_run_51 : decode cX6_run 51 = .ok (.aload_n 0, 1) := by decide +kernel
theorem dX6_run_52 : decode cX6_run 52 = .ok (.invokevirtual 153, 3) := by decide +kernel
theorem dX6_run_55 : decode cX6_run 55 = .ok (.invokevirtual 161, 3) := by decide +kernel
theorem dX6_run_58 : decode cX6_run 58 = .ok (.istore_n 2, 1) := by decide +kernel
theorem dX6_run_59 : decode cX6_run 59 = .ok (.iload_n 1, 1) := by decide +kernel
theorem dX6_run_60 : decode cX6_run 60 = .ok (.iload_n 2, 1) := by decide +kernel
theorem dX6_run_61 : decode cX6_run 61 = .ok (.ifCond .eq 7, 3) := by decide +kernel
theorem dX6_run_64 : decode cX6_run 64 = .ok (.iconst 1, 1) := by decide +kernel
theorem dX6_run_65 : decode cX6_run 65 = .ok (.goto 4, 3) := by decide +kernel
theorem dX6_run_68 : decode cX6_run 68 = .ok (.iconst 0, 1) := by decide +kernel
theorem dX6_run_69 : decode cX6_run 69 = .ok (.iadd, 1) := by decide +kernel
theorem dX6_run_70 : decode cX6_run 70 = .ok (.istore_n 1, 1) := by decide +kernel
theorem dX6_run_71 : decode cX6_run 71 = .ok (.aload_n 0, 1) := by decide +kernel
theorem dX6_run_72 : decode cX6_run 72 = .ok (.dup, 1) := by decide +kernel
theorem dX6_run_73 : decode cX6_run 73 = .ok (.getfield 130, 3) := by decide +kernel
theorem dX6_run_76 : decode cX6_run 76 = .ok (.iconst 1, 1) := by decide +kernel
theorem dX6_run_77 : decode cX6_run 77 = .ok (.iadd, 1) := by decide +kernel
theorem dX6_run_78 : decode cX6_run 78 = .ok (.putfield 130, 3) := by decide +kernel
theorem dX6_run_81 : decode cX6_run 81 = .ok (.goto (-46), 3) := by decide +kernel
theorem dX6_run_84 : decode cX6_run 84 = .ok (.aload_n 0, 1) := by decide +kernel
theorem dX6_run_85 : decode cX6_run 85 = .ok (.iconst 0, 1) := by decide +kernel
theorem dX6_run_86 : decode cX6_run 86 = .ok (.putfield 127, 3) := by decide +kernel
theorem dX6_run_89 : decode cX6_run 89 = .ok (.iload_n 1, 1) := by decide +kernel
theorem dX6_run_90 : decode cX6_run 90 = .ok (.ireturn, 1) := by decide +kernel
theorem dX6_keep_0 : decode cX6_keep 0 = .ok (.aload_n 0, 1) := by decide +kernel
theorem dX6_keep_1 : decode cX6_keep 1 = .ok (.iload_n 1, 1) := by decide +kernel
theorem dX6_keep_2 : decode cX6_keep 2 = .ok (.iconst 0, 1) := by decide +kernel
theorem dX6_keep_3 : decode cX6_keep 3 = .ok (.iconst 1, 1) := by decide +kernel
theorem dX6_keep_4 : decode cX6_keep 4 = .ok (.invokestatic 32, 3) := by decide +kernel
theorem dX6_keep_7 : decode cX6_keep 7 = .ok (.iconst 1, 1) := by decide +kernel
theorem dX6_keep_8 : decode cX6_keep 8 = .ok (.invokevirtual 83, 3) := by decide +kernel
theorem dX6_keep_11 : decode cX6_keep 11 = .ok (.ifCond .ne 5, 3) := by decide +kernel
theorem dX6_keep_14 : decode cX6_keep 14 = .ok (.iconst 0, 1) := by decide +kernel
theorem dX6_keep_15 : decode cX6_keep 15 = .ok (.ireturn, 1) := by decide +kernel
theorem dX6_keep_16 : decode cX6_keep 16 = .ok (.aload_n 0, 1) := by decide +kernel
theorem dX6_keep_17 : decode cX6_keep 17 = .ok (.iconst 0, 1) := by decide +kernel
theorem dX6_keep_18 : decode cX6_keep 18 = .ok (.bipush 7, 2) := by decide +kernel
theorem dX6_keep_20 : decode cX6_keep 20 = .ok (.iload_n 1, 1) := by decide +kernel
theorem dX6_keep_21 : decode cX6_keep 21 = .ok (.iadd, 1) := by decide +kernel
theorem dX6_keep_22 : decode cX6_keep 22 = .ok (.invokevirtual 28, 3) := by decide +kernel
theorem dX6_keep_25 : decode cX6_keep 25 = .ok (.aload_n 0, 1) := by decide +kernel
theorem dX6_keep_26 : decode cX6_keep 26 = .ok (.getfield 13, 3) := by decide +kernel
theorem dX6_keep_29 : decode cX6_keep 29 = .ok (.iload_n 1, 1) := by decide +kernel
theorem dX6_keep_30 : decode cX6_keep 30 = .ok (.iconst 1, 1) := by decide +kernel
theorem dX6_keep_31 : decode cX6_keep 31 = .ok (.bastore, 1) := by decide +kernel
theorem dX6_keep_32 : decode cX6_keep 32 = .ok (.aload_n 0, 1) := by decide +kernel
theorem dX6_keep_33 : decode cX6_keep 33 = .ok (.getfield 7, 3) := by decide +kernel
theorem dX6_keep_36 : decode cX6_keep 36 = .ok (.iconst 3, 1) := by decide +kernel
theorem dX6_keep_37 : decode cX6_keep 37 = .ok (.iaload, 1) := by decide +kernel
theorem dX6_keep_38 : decode cX6_keep 38 = .ok (.ireturn, 1) := by decide +kernel
theorem dX6_goBack_0 : decode cX6_goBack 0 = .ok (.aload_n 0, 1) := by decide +kernel
theorem dX6_goBack_1 : decode cX6_goBack 1 = .ok (.iload_n 1, 1) := by decide +kernel
theorem dX6_goBack_2 : decode cX6_goBack 2 = .ok (.iconst 0, 1) := by decide +kernel
theorem dX6_goBack_3 : decode cX6_goBack 3 = .ok (.iconst 1, 1) := by decide +kernel
theorem dX6_goBack_4 : decode cX6_goBack 4 = .ok (.invokestatic 32, 3) := by decide +kernel
theorem dX6_goBack_7 : decode cX6_goBack 7 = .ok (.iload_n 1, 1) := by decide +kernel
theorem dX6_goBack_8 : decode cX6_goBack 8 = .ok (.iconst 0, 1) := by decide +kernel
theorem dX6_goBack_9 : decode cX6_goBack 9 = .ok (.iconst 1, 1) := by decide +kernel
theorem dX6_goBack_10 : decode cX6_goBack 10 = .ok (.invokestatic 32, 3) := by decide +kernel
theorem dX6_goBack_13 : decode cX6_goBack 13 = .ok (.ifCond .eq 16, 3) := by decide +kernel
theorem dX6_goBack_16 : decode cX6_goBack 16 = .ok (.aload_n 0, 1) := by decide +kernel
theorem dX6_goBack_17 : decode cX6_goBack 17 = .ok (.getfield 13, 3) := by decide +kernel
theorem dX6_goBack_20 : decode cX6_goBack 20 = .ok (.iload_n 1, 1) := by decide +kernel
theorem dX6_goBack_21 : decode cX6_goBack 21 = .ok (.baload, 1) := by decide +kernel
theorem dX6_goBack_22 : decode cX6_goBack 22 = .ok (.ifCond .eq 7, 3) := by decide +kernel
theorem dX6_goBack_25 : decode cX6_goBack 25 = .ok (.iconst 1, 1) := by decide +kernel
theorem dX6_goBack_26 : decode cX6_goBack 26 = .ok (.goto 4, 3) := by decide +kernel
theorem dX6_goBack_29 : decode cX6_goBack 29 = .ok (.iconst 0, 1) := by decide +kernel
theorem dX6_goBack_30 : decode cX6_goBack 30 = .ok (.invokevirtual 83, 3) := by decide +kernel
theorem dX6_goBack_33 : decode cX6_goBack 33 = .ok (.ifCond .ne 5, 3) := by decide +kernel
theorem dX6_goBack_36 : decode cX6_goBack 36 = .ok (.iconst 0, 1) := by decide +kernel
theorem dX6_goBack_37 : decode cX6_goBack 37 = .ok (.ireturn, 1) := by decide +kernel
theorem dX6_goBack_38 : decode cX6_goBack 38 = .ok (.aload_n 0, 1) := by decide +kernel
theorem dX6_goBack_39 : decode cX6_goBack 39 = .ok (.invokevirtual 87, 3) := by decide +kernel
theorem dX6_goBack_42 : decode cX6_goBack 42 = .ok (.aload_n 0, 1) := by decide +kernel
theorem dX6_goBack_43 : decode cX6_goBack 43 = .ok (.bipush 7, 2) := by decide +kernel
theorem dX6_goBack_45 : decode cX6_goBack 45 = .ok (.iload_n 1, 1) := by decide +kernel
theorem dX6_goBack_46 : decode cX6_goBack 46 = .ok (.iadd, 1) := by decide +kernel
theorem dX6_goBack_47 : decode cX6_goBack 47 = .ok (.iconst 0, 1) := by decide +kernel
theorem dX6_goBack_48 : decode cX6_goBack 48 = .ok (.invokevirtual 28, 3) := by decide +kernel
theorem dX6_goBack_51 : decode cX6_goBack 51 = .ok (.aload_n 0, 1) := by decide +kernel
theorem dX6_goBack_52 : decode cX6_goBack 52 = .ok (.getfield 7, 3) := by decide +kernel
theorem dX6_goBack_55 : decode cX6_goBack 55 = .ok (.iconst 3, 1) := by decide +kernel
theorem dX6_goBack_56 : decode cX6_goBack 56 = .ok (.iaload, 1) := by decide +kernel
theorem dX6_goBack_57 : decode cX6_goBack 57 = .ok (.ireturn, 1) := by decide +kernel
theorem dX6_undo_0 : decode cX6_undo 0 = .ok (.aload_n 0, 1) := by decide +kernel
theorem dX6_undo_1 : decode cX6_undo 1 = .ok (.aload_n 0, 1) := by decide +kernel
theorem dX6_undo_2 : decode cX6_undo 2 = .ok (.getfield 25, 3) := by decide +kernel
theorem dX6_undo_5 : decode cX6_undo 5 = .ok (.ifCond .le 7, 3) := by decide +kernel
theorem dX6_undo_8 : decode cX6_undo 8 = .ok (.iconst 1, 1) := by decide +kernel
theorem dX6_undo_9 : decode cX6_undo 9 = .ok (.goto 4, 3) := by decide +kernel
theorem dX6_undo_12 : decode cX6_undo 12 = .ok (.iconst 0, 1) := by decide +kernel
theorem dX6_undo_13 : decode cX6_undo 13 = .ok (.iconst 1, 1) := by decide +kernel
theorem dX6_undo_14 : decode cX6_undo 14 = .ok (.invokevirtual 83, 3) := by decide +kernel
theorem dX6_undo_17 : decode cX6_undo 17 = .ok (.ifCond .ne 5, 3) := by decide +kernel
theorem dX6_undo_20 : decode cX6_undo 20 = .ok (.iconst 0, 1) := by decide +kernel
theorem dX6_undo_21 : decode cX6_undo 21 = .ok (.ireturn, 1) := by decide +kernel
theorem dX6_undo_22 : decode cX6_undo 22 = .ok (.aload_n 0, 1) := by decide +kernel
theorem dX6_undo_23 : decode cX6_undo 23 = .ok (.aload_n 0, 1) := by decide +kernel
theorem dX6_undo_24 : decode cX6_undo 24 = .ok (.getfield 25, 3) := by decide +kernel
theorem dX6_undo_27 : decode cX6_undo 27 = .ok (.iconst 0, 1) := by decide +kernel
theorem dX6_undo_28 : decode cX6_undo 28 = .ok (.invokevirtual 28, 3) := by decide +kernel
theorem dX6_undo_31 : decode cX6_undo 31 = .ok (.aload_n 0, 1) := by decide +kernel
theorem dX6_undo_32 : decode cX6_undo 32 = .ok (.dup, 1) := by decide +kernel
theorem dX6_undo_33 : decode cX6_undo 33 = .ok (.getfield 25, 3) := by decide +kernel
theorem dX6_undo_36 : decode cX6_undo 36 = .ok (.iconst 1, 1) := by decide +kernel
theorem dX6_undo_37 : decode cX6_undo 37 = .ok (.isub, 1) := by decide +kernel
theorem dX6_undo_38 : decode cX6_undo 38 = .ok (.putfield 25, 3) := by decide +kernel
theorem dX6_undo_41 : decode cX6_undo 41 = .ok (.aload_n 0, 1) := by decide +kernel
theorem dX6_undo_42 : decode cX6_undo 42 = .ok (.getfield 25, 3) := by decide +kernel
theorem dX6_undo_45 : decode cX6_undo 45 = .ok (.ireturn, 1) := by decide +kernel
theorem dX6_keys_0 : decode cX6_keys 0 = .ok (.iconst 0, 1) := by decide +kernel
theorem dX6_keys_1 : decode cX6_keys 1 = .ok (.iload_n 1, 1) := by decide +kernel
theorem dX6_keys_2 : decode cX6_keys 2 = .ok (.iload_n 2, 1) := by decide +kernel
theorem dX6_keys_3 : decode cX6_keys 3 = .ok (.invokestatic 40, 3) := by decide +kernel
theorem dX6_keys_6 : decode cX6_keys 6 = .ok (.istore 4, 2) := by decide +kernel
theorem dX6_keys_8 : decode cX6_keys 8 = .ok (.iload_n 3, 1) := by decide +kernel
theorem dX6_keys_9 : decode cX6_keys 9 = .ok (.iconst 2, 1) := by decide +kernel
theorem dX6_keys_10 : decode cX6_keys 10 = .ok (.if_icmp .ge 13, 3) := by decide +kernel
theorem dX6_keys_13 : decode cX6_keys 13 = .ok (.aload_n 0, 1) := by decide +kernel
theorem dX6_keys_14 : decode cX6_keys 14 = .ok (.getfield 7, 3) := by decide +kernel
theorem dX6_keys_17 : decode cX6_keys 17 = .ok (.iload 4, 2) := by decide +kernel
theorem dX6_keys_19 : decode cX6_keys 19 = .ok (.iload_n 3, 1) := by decide +kernel
theorem dX6_keys_20 : decode cX6_keys 20 = .ok (.iadd, 1) := by decide +kernel
theorem dX6_keys_21 : decode cX6_keys 21 = .ok (.iaload, 1) := by decide +kernel
theorem dX6_keys_22 : decode cX6_keys 22 = .ok (.ireturn, 1) := by decide +kernel
theorem dX6_keys_23 : decode cX6_keys 23 = .ok (.aload_n 0, 1) := by decide +kernel
theorem dX6_keys_24 : decode cX6_keys 24 = .ok (.getfield 7, 3) := by decide +kernel
theorem dX6_keys_27 : decode cX6_keys 27 = .ok (.iload 4, 2) := by decide +kernel
theorem dX6_keys_29 : decode cX6_keys 29 = .ok (.iaload, 1) := by decide +kernel
theorem dX6_keys_30 : decode cX6_keys 30 = .ok (.iconst 2, 1) := by decide +kernel
theorem dX6_keys_31 : decode cX6_keys 31 = .ok (.if_icmp .eq 5, 3) := by decide +kernel
theorem dX6_keys_34 : decode cX6_keys 34 = .ok (.iconst (-1), 1) := by decide +kernel
theorem dX6_keys_35 : decode cX6_keys 35 = .ok (.ireturn, 1) := by decide +kernel
theorem dX6_keys_36 : decode cX6_keys 36 = .ok (.aload_n 0, 1) := by decide +kernel
theorem dX6_keys_37 : decode cX6_keys 37 = .ok (.getfield 7, 3) := by decide +kernel
theorem dX6_keys_40 : decode cX6_keys 40 = .ok (.iconst 4, 1) := by decide +kernel
theorem dX6_keys_41 : decode cX6_keys 41 = .ok (.iload_n 1, 1) := by decide +kernel
theorem dX6_keys_42 : decode cX6_keys 42 = .ok (.iadd, 1) := by decide +kernel
theorem dX6_keys_43 : decode cX6_keys 43 = .ok (.iaload, 1) := by decide +kernel
theorem dX6_keys_44 : decode cX6_keys 44 = .ok (.aload_n 0, 1) := by decide +kernel
theorem dX6_keys_45 : decode cX6_keys 45 = .ok (.iconst 0, 1) := by decide +kernel
theorem dX6_keys_46 : decode cX6_keys 46 = .ok (.iload_n 1, 1) := by decide +kernel
theorem dX6_keys_47 : decode cX6_keys 47 = .ok (.iload_n 2, 1) := by decide +kernel
theorem dX6_keys_48 : decode cX6_keys 48 = .ok (.invokevirtual 44, 3) := by decide +kernel
theorem dX6_keys_51 : decode cX6_keys 51 = .ok (.isub, 1) := by decide +kernel
theorem dX6_keys_52 : decode cX6_keys 52 = .ok (.istore 5, 2) := by decide +kernel
theorem dX6_keys_54 : decode cX6_keys 54 = .ok (.iload_n 3, 1) := by decide +kernel
theorem dX6_keys_55 : decode cX6_keys 55 = .ok (.iconst 2, 1) := by decide +kernel
theorem dX6_keys_56 : decode cX6_keys 56 = .ok (.if_icmp .ne 13, 3) := by decide +kernel
theorem dX6_keys_59 : decode cX6_keys 59 = .ok (.aload_n 0, 1) := by decide +kernel
theorem dX6_keys_60 : decode cX6_keys 60 = .ok (.iconst 0, 1) := by decide +kernel
theorem dX6_keys_61 : decode cX6_keys 61 = .ok (.iload_n 1, 1) := by decide +kernel
theorem dX6_keys_62 : decode cX6_keys 62 = .ok (.iload_n 2, 1) := by decide +kernel
theorem dX6_keys_63 : decode cX6_keys 63 = .ok (.invokevirtual 53, 3) := by decide +kernel
theorem dX6_keys_66 : decode cX6_keys 66 = .ok (.goto 29, 3) := by decide +kernel
theorem dX6_keys_69 : decode cX6_keys 69 = .ok (.iload_n 3, 1) := by decide +kernel
theorem dX6_keys_70 : decode cX6_keys 70 = .ok (.iconst 3, 1) := by decide +kernel
theorem dX6_keys_71 : decode cX6_keys 71 = .ok (.if_icmp .ne 13, 3) := by decide +kernel
theorem dX6_keys_74 : decode cX6_keys 74 = .ok (.aload_n 0, 1) := by decide +kernel
theorem dX6_keys_75 : decode cX6_keys 75 = .ok (.iconst 0, 1) := by decide +kernel
theorem dX6_keys_76 : decode cX6_keys 76 = .ok (.iload_n 1, 1) := by decide +kernel
theorem dX6_keys_77 : decode cX6_keys 77 = .ok (.iload_n 2, 1) := by decide +kernel
theorem dX6_keys_78 : decode cX6_keys 78 = .ok (.invokevirtual 44, 3) := by decide +kernel
theorem dX6_keys_81 : decode cX6_keys 81 = .ok (.goto 14, 3) := by decide +kernel
theorem dX6_keys_84 : decode cX6_keys 84 = .ok (.iload 5, 2) := by decide +kernel
theorem dX6_keys_86 : decode cX6_keys 86 = .ok (.ifCond .ge 7, 3) := by decide +kernel
theorem dX6_keys_89 : decode cX6_keys 89 = .ok (.iconst 0, 1) := by decide +kernel
theorem dX6_keys_90 : decode cX6_keys 90 = .ok (.goto 5, 3) := by decide +kernel
theorem dX6_keys_93 : decode cX6_keys 93 = .ok (.iload 5, 2) := by decide +kernel
theorem dX6_keys_95 : decode cX6_keys 95 = .ok (.ireturn, 1) := by decide +kernel
theorem dX6_keyOf_0 : decode cX6_keyOf 0 = .ok (.aload_n 0, 1) := by decide +kernel
theorem dX6_keyOf_1 : decode cX6_keyOf 1 = .ok (.iload_n 1, 1) := by decide +kernel
theorem dX6_keyOf_2 : decode cX6_keyOf 2 = .ok (.iload_n 2, 1) := by decide +kernel
theorem dX6_keyOf_3 : decode cX6_keyOf 3 = .ok (.invokestatic 93, 3) := by decide +kernel
theorem dX6_keyOf_6 : decode cX6_keyOf 6 = .ok (.iload_n 3, 1) := by decide +kernel
theorem dX6_keyOf_7 : decode cX6_keyOf 7 = .ok (.iconst 0, 1) := by decide +kernel
theorem dX6_keyOf_8 : decode cX6_keyOf 8 = .ok (.iconst 4, 1) := by decide +kernel
theorem dX6_keyOf_9 : decode cX6_keyOf 9 = .ok (.invokestatic 32, 3) := by decide +kernel
theorem dX6_keyOf_12 : decode cX6_keyOf 12 = .ok (.invokevirtual 83, 3) := by decide +kernel
theorem dX6_keyOf_15 : decode cX6_keyOf 15 = .ok (.ifCond .eq 13, 3) := by decide +kernel
theorem dX6_keyOf_18 : decode cX6_keyOf 18 = .ok (.aload_n 0, 1) := by decide +kernel
theorem dX6_keyOf_19 : decode cX6_keyOf 19 = .ok (.iload_n 1, 1) := by decide +kernel
theorem dX6_keyOf_20 : decode cX6_keyOf 20 = .ok (.iload_n 2, 1) := by decide +kernel
theorem dX6_keyOf_21 : decode cX6_keyOf 21 = .ok (.iload_n 3, 1) := by decide +kernel
theorem dX6_keyOf_22 : decode cX6_keyOf 22 = .ok (.invokevirtual 165, 3) := by decide +kernel
theorem dX6_keyOf_25 : decode cX6_keyOf 25 = .ok (.goto 4, 3) := by decide +kernel
theorem dX6_keyOf_28 : decode cX6_keyOf 28 = .ok (.iconst 0, 1) := by decide +kernel
theorem dX6_keyOf_29 : decode cX6_keyOf 29 = .ok (.ireturn, 1) := by decide +kernel
theorem dX6_kinds_0 : decode cX6_kinds 0 = .ok (.iload_n 2, 1) := by decide +kernel
theorem dX6_kinds_1 : decode cX6_kinds 1 = .ok (.tableswitch 87 0 5 #[39, 48, 55, 62, 73, 80], 39) := by decide +kernel
theorem dX6_kinds_40 : decode cX6_kinds 40 = .ok (.aload_n 0, 1) := by decide +kernel
theorem dX6_kinds_41 : decode cX6_kinds 41 = .ok (.getfield 7, 3) := by decide +kernel
theorem dX6_kinds_44 : decode cX6_kinds 44 = .ok (.iconst 4, 1) := by decide +kernel
theorem dX6_kinds_45 : decode cX6_kinds 45 = .ok (.iload_n 1, 1) := by decide +kernel
theorem dX6_kinds_46 : decode cX6_kinds 46 = .ok (.iadd, 1) := by decide +kernel
theorem dX6_kinds_47 : decode cX6_kinds 47 = .ok (.iaload, 1) := by decide +kernel
theorem dX6_kinds_48 : decode cX6_kinds 48 = .ok (.ireturn, 1) := by decide +kernel
theorem dX6_kinds_49 : decode cX6_kinds 49 = .ok (.aload_n 0, 1) := by decide +kernel
theorem dX6_kinds_50 : decode cX6_kinds 50 = .ok (.iload_n 1, 1) := by decide +kernel
theorem dX6_kinds_51 : decode cX6_kinds 51 = .ok (.iconst 0, 1) := by decide +kernel
theorem dX6_kinds_52 : decode cX6_kinds 52 = .ok (.invokevirtual 118, 3) := by decide +kernel
theorem dX6_kinds_55 : decode cX6_kinds 55 = .ok (.ireturn, 1) := by decide +kernel
theorem dX6_kinds_56 : decode cX6_kinds 56 = .ok (.aload_n 0, 1) := by decide +kernel
theorem dX6_kinds_57 : decode cX6_kinds 57 = .ok (.iload_n 1, 1) := by decide +kernel
theorem dX6_kinds_58 : decode cX6_kinds 58 = .ok (.iconst 1, 1) := by decide +kernel
theorem dX6_kinds_59 : decode cX6_kinds 59 = .ok (.invokevirtual 118, 3) := by decide +kernel
theorem dX6_kinds_62 : decode cX6_kinds 62 = .ok (.ireturn, 1) := by decide +kernel
theorem dX6_kinds_63 : decode cX6_kinds 63 = .ok (.aload_n 0, 1) := by decide +kernel
theorem dX6_kinds_64 : decode cX6_kinds 64 = .ok (.getfield 7, 3) := by decide +kernel
theorem dX6_kinds_67 : decode cX6_kinds 67 = .ok (.sipush 264, 3) := by decide +kernel
theorem dX6_kinds_70 : decode cX6_kinds 70 = .ok (.iload_n 1, 1) := by decide +kernel
theorem dX6_kinds_71 : decode cX6_kinds 71 = .ok (.iadd, 1) := by decide +kernel
theorem dX6_kinds_72 : decode cX6_kinds 72 = .ok (.iaload, 1) := by decide +kernel
theorem dX6_kinds_73 : decode cX6_kinds 73 = .ok (.ireturn, 1) := by decide +kernel
theorem dX6_kinds_74 : decode cX6_kinds 74 = .ok (.aload_n 0, 1) := by decide +kernel
theorem dX6_kinds_75 : decode cX6_kinds 75 = .ok (.iload_n 1, 1) := by decide +kernel
theorem dX6_kinds_76 : decode cX6_kinds 76 = .ok (.iconst 4, 1) := by decide +kernel
theorem dX6_kinds_77 : decode cX6_kinds 77 = .ok (.invokevirtual 118, 3) := by decide +kernel
theorem dX6_kinds_80 : decode cX6_kinds 80 = .ok (.ireturn, 1) := by decide +kernel
theorem dX6_kinds_81 : decode cX6_kinds 81 = .ok (.aload_n 0, 1) := by decide +kernel
theorem dX6_kinds_82 : decode cX6_kinds 82 = .ok (.iload_n 1, 1) := by decide +kernel
theorem dX6_kinds_83 : decode cX6_kinds 83 = .ok (.iconst 3, 1) := by decide +kernel
theorem dX6_kinds_84 : decode cX6_kinds 84 = .ok (.invokevirtual 118, 3) := by decide +kernel
theorem dX6_kinds_87 : decode cX6_kinds 87 = .ok (.ireturn, 1) := by decide +kernel
theorem dX6_kinds_88 : decode cX6_kinds 88 = .ok (.aload_n 0, 1) := by decide +kernel
theorem dX6_kinds_89 : decode cX6_kinds 89 = .ok (.getfield 7, 3) := by decide +kernel
theorem dX6_kinds_92 : decode cX6_kinds 92 = .ok (.sipush 268, 3) := by decide +kernel
theorem dX6_kinds_95 : decode cX6_kinds 95 = .ok (.iconst 4, 1) := by decide +kernel
theorem dX6_kinds_96 : decode cX6_kinds 96 = .ok (.iload_n 2, 1) := by decide +kernel
theorem dX6_kinds_97 : decode cX6_kinds 97 = .ok (.bipush 6, 2) := by decide +kernel
theorem dX6_kinds_99 : decode cX6_kinds 99 = .ok (.isub, 1) := by decide +kernel
theorem dX6_kinds_100 : decode cX6_kinds 100 = .ok (.imul, 1) := by decide +kernel
theorem dX6_kinds_101 : decode cX6_kinds 101 = .ok (.iadd, 1) := by decide +kernel
theorem dX6_kinds_102 : decode cX6_kinds 102 = .ok (.iload_n 1, 1) := by decide +kernel
theorem dX6_kinds_103 : decode cX6_kinds 103 = .ok (.iadd, 1) := by decide +kernel
theorem dX6_kinds_104 : decode cX6_kinds 104 = .ok (.iaload, 1) := by decide +kernel
theorem dX6_kinds_105 : decode cX6_kinds 105 = .ok (.ireturn, 1) := by decide +kernel
theorem dX6_kindOf_0 : decode cX6_kindOf 0 = .ok (.aload_n 0, 1) := by decide +kernel
theorem dX6_kindOf_1 : decode cX6_kindOf 1 = .ok (.iload_n 1, 1) := by decide +kernel
theorem dX6_kindOf_2 : decode cX6_kindOf 2 = .ok (.invokestatic 36, 3) := by decide +kernel
theorem dX6_kindOf_5 : decode cX6_kindOf 5 = .ok (.iload_n 2, 1) := by decide +kernel
theorem dX6_kindOf_6 : decode cX6_kindOf 6 = .ok (.iconst 0, 1) := by decide +kernel
theorem dX6_kindOf_7 : decode cX6_kindOf 7 = .ok (.bipush 10, 2) := by decide +kernel
theorem dX6_kindOf_9 : decode cX6_kindOf 9 = .ok (.invokestatic 32, 3) := by decide +kernel
theorem dX6_kindOf_12 : decode cX6_kindOf 12 = .ok (.invokevirtual 83, 3) := by decide +kernel
theorem dX6_kindOf_15 : decode cX6_kindOf 15 = .ok (.ifCond .eq 12, 3) := by decide +kernel
theorem dX6_kindOf_18 : decode cX6_kindOf 18 = .ok (.aload_n 0, 1) := by decide +kernel
theorem dX6_kindOf_19 : decode cX6_kindOf 19 = .ok (.iload_n 1, 1) := by decide +kernel
theorem dX6_kindOf_20 : decode cX6_kindOf 20 = .ok (.iload_n 2, 1) := by decide +kernel
theorem dX6_kindOf_21 : decode cX6_kindOf 21 = .ok (.invokevirtual 168, 3) := by decide +kernel
theorem dX6_kindOf_24 : decode cX6_kindOf 24 = .ok (.goto 4, 3) := by decide +kernel
theorem dX6_kindOf_27 : decode cX6_kindOf 27 = .ok (.iconst 0, 1) := by decide +kernel
theorem dX6_kindOf_28 : decode cX6_kindOf 28 = .ok (.ireturn, 1) := by decide +kernel
theorem dX6_piled_0 : decode cX6_piled 0 = .ok (.iload_n 2, 1) := by decide +kernel
theorem dX6_piled_1 : decode cX6_piled 1 = .ok (.aload_n 0, 1) := by decide +kernel
theorem dX6_piled_2 : decode cX6_piled 2 = .ok (.getfield 7, 3) := by decide +kernel
theorem dX6_piled_5 : decode cX6_piled 5 = .ok (.sipush 264, 3) := by decide +kernel
theorem dX6_piled_8 : decode cX6_piled 8 = .ok (.iload_n 1, 1) := by decide +kernel
theorem dX6_piled_9 : decode cX6_piled 9 = .ok (.iadd, 1) := by decide +kernel
theorem dX6_piled_10 : decode cX6_piled 10 = .ok (.iaload, 1) := by decide +kernel
theorem dX6_piled_11 : decode cX6_piled 11 = .ok (.if_icmp .lt 7, 3) := by decide +kernel
theorem dX6_piled_14 : decode cX6_piled 14 = .ok (.iconst (-1), 1) := by decide +kernel
theorem dX6_piled_15 : decode cX6_piled 15 = .ok (.goto 10, 3) := by decide +kernel
theorem dX6_piled_18 : decode cX6_piled 18 = .ok (.aload_n 0, 1) := by decide +kernel
theorem dX6_piled_19 : decode cX6_piled 19 = .ok (.iconst 0, 1) := by decide +kernel
theorem dX6_piled_20 : decode cX6_piled 20 = .ok (.iload_n 1, 1) := by decide +kernel
theorem dX6_piled_21 : decode cX6_piled 21 = .ok (.iload_n 2, 1) := by decide +kernel
theorem dX6_piled_22 : decode cX6_piled 22 = .ok (.invokevirtual 50, 3) := by decide +kernel
theorem dX6_piled_25 : decode cX6_piled 25 = .ok (.ireturn, 1) := by decide +kernel
theorem dX6_pile_0 : decode cX6_pile 0 = .ok (.aload_n 0, 1) := by decide +kernel
theorem dX6_pile_1 : decode cX6_pile 1 = .ok (.iload_n 1, 1) := by decide +kernel
theorem dX6_pile_2 : decode cX6_pile 2 = .ok (.invokestatic 36, 3) := by decide +kernel
theorem dX6_pile_5 : decode cX6_pile 5 = .ok (.iload_n 2, 1) := by decide +kernel
theorem dX6_pile_6 : decode cX6_pile 6 = .ok (.ifCond .lt 7, 3) := by decide +kernel
theorem dX6_pile_9 : decode cX6_pile 9 = .ok (.iconst 1, 1) := by decide +kernel
theorem dX6_pile_10 : decode cX6_pile 10 = .ok (.goto 4, 3) := by decide +kernel
theorem dX6_pile_13 : decode cX6_pile 13 = .ok (.iconst 0, 1) := by decide +kernel
theorem dX6_pile_14 : decode cX6_pile 14 = .ok (.invokevirtual 83, 3) := by decide +kernel
theorem dX6_pile_17 : decode cX6_pile 17 = .ok (.ifCond .eq 12, 3) := by decide +kernel
theorem dX6_pile_20 : decode cX6_pile 20 = .ok (.aload_n 0, 1) := by decide +kernel
theorem dX6_pile_21 : decode cX6_pile 21 = .ok (.iload_n 1, 1) := by decide +kernel
theorem dX6_pile_22 : decode cX6_pile 22 = .ok (.iload_n 2, 1) := by decide +kernel
theorem dX6_pile_23 : decode cX6_pile 23 = .ok (.invokevirtual 171, 3) := by decide +kernel
theorem dX6_pile_26 : decode cX6_pile 26 = .ok (.goto 4, 3) := by decide +kernel
theorem dX6_pile_29 : decode cX6_pile 29 = .ok (.iconst 0, 1) := by decide +kernel
theorem dX6_pile_30 : decode cX6_pile 30 = .ok (.ireturn, 1) := by decide +kernel
theorem dX6_sum_0 : decode cX6_sum 0 = .ok (.aload_n 0, 1) := by decide +kernel
theorem dX6_sum_1 : decode cX6_sum 1 = .ok (.getfield 7, 3) := by decide +kernel
theorem dX6_sum_4 : decode cX6_sum 4 = .ok (.iload_n 1, 1) := by decide +kernel
theorem dX6_sum_5 : decode cX6_sum 5 = .ok (.iaload, 1) := by decide +kernel
theorem dX6_sum_6 : decode cX6_sum 6 = .ok (.aload_n 0, 1) := by decide +kernel
theorem dX6_sum_7 : decode cX6_sum 7 = .ok (.getfield 7, 3) := by decide +kernel
theorem dX6_sum_10 : decode cX6_sum 10 = .ok (.iload_n 1, 1) := by decide +kernel
theorem dX6_sum_11 : decode cX6_sum 11 = .ok (.iconst 1, 1) := by decide +kernel
theorem dX6_sum_12 : decode cX6_sum 12 = .ok (.iadd, 1) := by decide +kernel
theorem dX6_sum_13 : decode cX6_sum 13 = .ok (.iaload, 1) := by decide +kernel
theorem dX6_sum_14 : decode cX6_sum 14 = .ok (.iadd, 1) := by decide +kernel
theorem dX6_sum_15 : decode cX6_sum 15 = .ok (.aload_n 0, 1) := by decide +kernel
theorem dX6_sum_16 : decode cX6_sum 16 = .ok (.getfield 7, 3) := by decide +kernel
theorem dX6_sum_19 : decode cX6_sum 19 = .ok (.iload_n 1, 1) := by decide +kernel
theorem dX6_sum_20 : decode cX6_sum 20 = .ok (.iconst 2, 1) := by decide +kernel
theorem dX6_sum_21 : decode cX6_sum 21 = .ok (.iadd, 1) := by decide +kernel
theorem dX6_sum_22 : decode cX6_sum 22 = .ok (.iaload, 1) := by decide +kernel
theorem dX6_sum_23 : decode cX6_sum 23 = .ok (.iadd, 1) := by decide +kernel
theorem dX6_sum_24 : decode cX6_sum 24 = .ok (.aload_n 0, 1) := by decide +kernel
theorem dX6_sum_25 : decode cX6_sum 25 = .ok (.getfield 7, 3) := by decide +kernel
theorem dX6_sum_28 : decode cX6_sum 28 = .ok (.iload_n 1, 1) := by decide +kernel
theorem dX6_sum_29 : decode cX6_sum 29 = .ok (.iconst 3, 1) := by decide +kernel
theorem dX6_sum_30 : decode cX6_sum 30 = .ok (.iadd, 1) := by decide +kernel
theorem dX6_sum_31 : decode cX6_sum 31 = .ok (.iaload, 1) := by decide +kernel
theorem dX6_sum_32 : decode cX6_sum 32 = .ok (.iadd, 1) := by decide +kernel
theorem dX6_sum_33 : decode cX6_sum 33 = .ok (.ireturn, 1) := by decide +kernel
theorem dX6_greatestRound_0 : decode cX6_greatestRound 0 = .ok (.iconst 0, 1) := by decide +kernel
theorem dX6_greatestRound_1 : decode cX6_greatestRound 1 = .ok (.istore_n 1, 1) := by decide +kernel
theorem dX6_greatestRound_2 : decode cX6_greatestRound 2 = .ok (.iconst 0, 1) := by decide +kernel
theorem dX6_greatestRound_3 : decode cX6_greatestRound 3 = .ok (.istore_n 2, 1) := by decide +kernel
theorem dX6_greatestRound_4 : decode cX6_greatestRound 4 = .ok (.iload_n 2, 1) := by decide +kernel
theorem dX6_greatestRound_5 : decode cX6_greatestRound 5 = .ok (.bipush 64, 2) := by decide +kernel
theorem dX6_greatestRound_7 : decode cX6_greatestRound 7 = .ok (.if_icmp .ge 34, 3) := by decide +kernel
theorem dX6_greatestRound_10 : decode cX6_greatestRound 10 = .ok (.aload_n 0, 1) := by decide +kernel
theorem dX6_greatestRound_11 : decode cX6_greatestRound 11 = .ok (.getfield 7, 3) := by decide +kernel
theorem dX6_greatestRound_14 : decode cX6_greatestRound 14 = .ok (.bipush 8, 2) := by decide +kernel
theorem dX6_greatestRound_16 : decode cX6_greatestRound 16 = .ok (.iconst 3, 1) := by decide +kernel
theorem dX6_greatestRound_17 : decode cX6_greatestRound 17 = .ok (.iload_n 2, 1) := by decide +kernel
theorem dX6_greatestRound_18 : decode cX6_greatestRound 18 = .ok (.imul, 1) := by decide +kernel
theorem dX6_greatestRound_19 : decode cX6_greatestRound 19 = .ok (.iadd, 1) := by decide +kernel
theorem dX6_greatestRound_20 : decode cX6_greatestRound 20 = .ok (.iconst 1, 1) := by decide +kernel
theorem dX6_greatestRound_21 : decode cX6_greatestRound 21 = .ok (.iadd, 1) := by decide +kernel
theorem dX6_greatestRound_22 : decode cX6_greatestRound 22 = .ok (.iaload, 1) := by decide +kernel
theorem dX6_greatestRound_23 : decode cX6_greatestRound 23 = .ok (.istore_n 3, 1) := by decide +kernel
theorem dX6_greatestRound_24 : decode cX6_greatestRound 24 = .ok (.iload_n 3, 1) := by decide +kernel
theorem dX6_greatestRound_25 : decode cX6_greatestRound 25 = .ok (.iload_n 1, 1) := by decide +kernel
theorem dX6_greatestRound_26 : decode cX6_greatestRound 26 = .ok (.if_icmp .le 7, 3) := by decide +kernel
theorem dX6_greatestRound_29 : decode cX6_greatestRound 29 = .ok (.iload_n 3, 1) := by decide +kernel
theorem dX6_greatestRound_30 : decode cX6_greatestRound 30 = .ok (.goto 4, 3) := by decide +kernel
theorem dX6_greatestRound_33 : decode cX6_greatestRound 33 = .ok (.iload_n 1, 1) := by decide +kernel
theorem dX6_greatestRound_34 : decode cX6_greatestRound 34 = .ok (.istore_n 1, 1) := by decide +kernel
theorem dX6_greatestRound_35 : decode cX6_greatestRound 35 = .ok (.iinc 2 1, 3) := by decide +kernel
theorem dX6_greatestRound_38 : decode cX6_greatestRound 38 = .ok (.goto (-34), 3) := by decide +kernel
theorem dX6_greatestRound_41 : decode cX6_greatestRound 41 = .ok (.iload_n 1, 1) := by decide +kernel
theorem dX6_greatestRound_42 : decode cX6_greatestRound 42 = .ok (.ireturn, 1) := by decide +kernel
theorem dX6_counted_0 : decode cX6_counted 0 = .ok (.iload_n 1, 1) := by decide +kernel
theorem dX6_counted_1 : decode cX6_counted 1 = .ok (.tableswitch 122 0 8 #[51, 58, 65, 89, 97, 104, 104, 104, 117], 51) := by decide +kernel
theorem dX6_counted_52 : decode cX6_counted 52 = .ok (.aload_n 0, 1) := by decide +kernel
theorem dX6_counted_53 : decode cX6_counted 53 = .ok (.getfield 7, 3) := by decide +kernel
theorem dX6_counted_56 : decode cX6_counted 56 = .ok (.iconst 3, 1) := by decide +kernel
theorem dX6_counted_57 : decode cX6_counted 57 = .ok (.iaload, 1) := by decide +kernel
theorem dX6_counted_58 : decode cX6_counted 58 = .ok (.ireturn, 1) := by decide +kernel
theorem dX6_counted_59 : decode cX6_counted 59 = .ok (.aload_n 0, 1) := by decide +kernel
theorem dX6_counted_60 : decode cX6_counted 60 = .ok (.iconst (-1), 1) := by decide +kernel
theorem dX6_counted_61 : decode cX6_counted 61 = .ok (.iconst 1, 1) := by decide +kernel
theorem dX6_counted_62 : decode cX6_counted 62 = .ok (.invokevirtual 118, 3) := by decide +kernel
theorem dX6_counted_65 : decode cX6_counted 65 = .ok (.ireturn, 1) := by decide +kernel
theorem dX6_counted_66 : decode cX6_counted 66 = .ok (.aload_n 0, 1) := by decide +kernel
theorem dX6_counted_67 : decode cX6_counted 67 = .ok (.sipush 268, 3) := by decide +kernel
theorem dX6_counted_70 : decode cX6_counted 70 = .ok (.invokevirtual 174, 3) := by decide +kernel
theorem dX6_counted_73 : decode cX6_counted 73 = .ok (.aload_n 0, 1) := by decide +kernel
theorem dX6_counted_74 : decode cX6_counted 74 = .ok (.sipush 284, 3) := by decide +kernel
theorem dX6_counted_77 : decode cX6_counted 77 = .ok (.invokevirtual 174, 3) := by decide +kernel
theorem dX6_counted_80 : decode cX6_counted 80 = .ok (.iadd, 1) := by decide +kernel
theorem dX6_counted_81 : decode cX6_counted 81 = .ok (.aload_n 0, 1) := by decide +kernel
theorem dX6_counted_82 : decode cX6_counted 82 = .ok (.sipush 272, 3) := by decide +kernel
theorem dX6_counted_85 : decode cX6_counted 85 = .ok (.invokevirtual 174, 3) := by decide +kernel
theorem dX6_counted_88 : decode cX6_counted 88 = .ok (.isub, 1) := by decide +kernel
theorem dX6_counted_89 : decode cX6_counted 89 = .ok (.ireturn, 1) := by decide +kernel
theorem dX6_counted_90 : decode cX6_counted 90 = .ok (.aload_n 0, 1) := by decide +kernel
theorem dX6_counted_91 : decode cX6_counted 91 = .ok (.sipush 264, 3) := by decide +kernel
theorem dX6_counted_94 : decode cX6_counted 94 = .ok (.invokevirtual 174, 3) := by decide +kernel
theorem dX6_counted_97 : decode cX6_counted 97 = .ok (.ireturn, 1) := by decide +kernel
theorem dX6_counted_98 : decode cX6_counted 98 = .ok (.aload_n 0, 1) := by decide +kernel
theorem dX6_counted_99 : decode cX6_counted 99 = .ok (.iconst (-1), 1) := by decide +kernel
theorem dX6_counted_100 : decode cX6_counted 100 = .ok (.iconst 4, 1) := by decide +kernel
theorem dX6_counted_101 : decode cX6_counted 101 = .ok (.invokevirtual 118, 3) := by decide +kernel
theorem dX6_counted_104 : decode cX6_counted 104 = .ok (.ireturn, 1) := by decide +kernel
theorem dX6_counted_105 : decode cX6_counted 105 = .ok (.aload_n 0, 1) := by decide +kernel
theorem dX6_counted_106 : decode cX6_counted 106 = .ok (.getfield 7, 3) := by decide +kernel
theorem dX6_counted_109 : decode cX6_counted 109 = .ok (.sipush 288, 3) := by decide +kernel
theorem dX6_counted_112 : decode cX6_counted 112 = .ok (.iload_n 1, 1) := by decide +kernel
theorem dX6_counted_113 : decode cX6_counted 113 = .ok (.iadd, 1) := by decide +kernel
theorem dX6_counted_114 : decode cX6_counted 114 = .ok (.iconst 5, 1) := by decide +kernel
theorem dX6_counted_115 : decode cX6_counted 115 = .ok (.isub, 1) := by decide +kernel
theorem dX6_counted_116 : decode cX6_counted 116 = .ok (.iaload, 1) := by decide +kernel
theorem dX6_counted_117 : decode cX6_counted 117 = .ok (.ireturn, 1) := by decide +kernel
theorem dX6_counted_118 : decode cX6_counted 118 = .ok (.aload_n 0, 1) := by decide +kernel
theorem dX6_counted_119 : decode cX6_counted 119 = .ok (.invokevirtual 177, 3) := by decide +kernel
theorem dX6_counted_122 : decode cX6_counted 122 = .ok (.ireturn, 1) := by decide +kernel
theorem dX6_counted_123 : decode cX6_counted 123 = .ok (.aload_n 0, 1) := by decide +kernel
theorem dX6_counted_124 : decode cX6_counted 124 = .ok (.getfield 25, 3) := by decide +kernel
theorem dX6_counted_127 : decode cX6_counted 127 = .ok (.ireturn, 1) := by decide +kernel
theorem dX6_count_0 : decode cX6_count 0 = .ok (.aload_n 0, 1) := by decide +kernel
theorem dX6_count_1 : decode cX6_count 1 = .ok (.iload_n 1, 1) := by decide +kernel
theorem dX6_count_2 : decode cX6_count 2 = .ok (.iconst 0, 1) := by decide +kernel
theorem dX6_count_3 : decode cX6_count 3 = .ok (.bipush 9, 2) := by decide +kernel
theorem dX6_count_5 : decode cX6_count 5 = .ok (.invokestatic 32, 3) := by decide +kernel
theorem dX6_count_8 : decode cX6_count 8 = .ok (.iconst 1, 1) := by decide +kernel
theorem dX6_count_9 : decode cX6_count 9 = .ok (.invokevirtual 83, 3) := by decide +kernel
theorem dX6_count_12 : decode cX6_count 12 = .ok (.ifCond .eq 11, 3) := by decide +kernel
theorem dX6_count_15 : decode cX6_count 15 = .ok (.aload_n 0, 1) := by decide +kernel
theorem dX6_count_16 : decode cX6_count 16 = .ok (.iload_n 1, 1) := by decide +kernel
theorem dX6_count_17 : decode cX6_count 17 = .ok (.invokevirtual 180, 3) := by decide +kernel
theorem dX6_count_20 : decode cX6_count 20 = .ok (.goto 4, 3) := by decide +kernel
theorem dX6_count_23 : decode cX6_count 23 = .ok (.iconst 0, 1) := by decide +kernel
theorem dX6_count_24 : decode cX6_count 24 = .ok (.ireturn, 1) := by decide +kernel
theorem dX6_setting_0 : decode cX6_setting 0 = .ok (.aload_n 0, 1) := by decide +kernel
theorem dX6_setting_1 : decode cX6_setting 1 = .ok (.iload_n 1, 1) := by decide +kernel
theorem dX6_setting_2 : decode cX6_setting 2 = .ok (.iconst 0, 1) := by decide +kernel
theorem dX6_setting_3 : decode cX6_setting 3 = .ok (.iconst 2, 1) := by decide +kernel
theorem dX6_setting_4 : decode cX6_setting 4 = .ok (.invokestatic 32, 3) := by decide +kernel
theorem dX6_setting_7 : decode cX6_setting 7 = .ok (.iconst 1, 1) := by decide +kernel
theorem dX6_setting_8 : decode cX6_setting 8 = .ok (.invokevirtual 83, 3) := by decide +kernel
theorem dX6_setting_11 : decode cX6_setting 11 = .ok (.ifCond .eq 12, 3) := by decide +kernel
theorem dX6_setting_14 : decode cX6_setting 14 = .ok (.aload_n 0, 1) := by decide +kernel
theorem dX6_setting_15 : decode cX6_setting 15 = .ok (.getfield 7, 3) := by decide +kernel
theorem dX6_setting_18 : decode cX6_setting 18 = .ok (.iload_n 1, 1) := by decide +kernel
theorem dX6_setting_19 : decode cX6_setting 19 = .ok (.iaload, 1) := by decide +kernel
theorem dX6_setting_20 : decode cX6_setting 20 = .ok (.goto 4, 3) := by decide +kernel
theorem dX6_setting_23 : decode cX6_setting 23 = .ok (.iconst 0, 1) := by decide +kernel
theorem dX6_setting_24 : decode cX6_setting 24 = .ok (.ireturn, 1) := by decide +kernel
theorem dX6_wouldAsk_0 : decode cX6_wouldAsk 0 = .ok (.aload_n 0, 1) := by decide +kernel
theorem dX6_wouldAsk_1 : decode cX6_wouldAsk 1 = .ok (.iconst 0, 1) := by decide +kernel
theorem dX6_wouldAsk_2 : decode cX6_wouldAsk 2 = .ok (.iload_n 1, 1) := by decide +kernel
theorem dX6_wouldAsk_3 : decode cX6_wouldAsk 3 = .ok (.invokevirtual 70, 3) := by decide +kernel
theorem dX6_wouldAsk_6 : decode cX6_wouldAsk 6 = .ok (.istore_n 2, 1) := by decide +kernel
theorem dX6_wouldAsk_7 : decode cX6_wouldAsk 7 = .ok (.iload_n 2, 1) := by decide +kernel
theorem dX6_wouldAsk_8 : decode cX6_wouldAsk 8 = .ok (.ifCond .ge 14, 3) := by decide +kernel
theorem dX6_wouldAsk_11 : decode cX6_wouldAsk 11 = .ok (.bipush 100, 2) := by decide +kernel
theorem dX6_wouldAsk_13 : decode cX6_wouldAsk 13 = .ok (.aload_n 0, 1) := by decide +kernel
theorem dX6_wouldAsk_14 : decode cX6_wouldAsk 14 = .ok (.iload_n 1, 1) := by decide +kernel
theorem dX6_wouldAsk_15 : decode cX6_wouldAsk 15 = .ok (.invokevirtual 73, 3) := by decide +kernel
theorem dX6_wouldAsk_18 : decode cX6_wouldAsk 18 = .ok (.iadd, 1) := by decide +kernel
theorem dX6_wouldAsk_19 : decode cX6_wouldAsk 19 = .ok (.goto 4, 3) := by decide +kernel
theorem dX6_wouldAsk_22 : decode cX6_wouldAsk 22 = .ok (.iload_n 2, 1) := by decide +kernel
theorem dX6_wouldAsk_23 : decode cX6_wouldAsk 23 = .ok (.ireturn, 1) := by decide +kernel
theorem dX6_ifAsked_0 : decode cX6_ifAsked 0 = .ok (.aload_n 0, 1) := by decide +kernel
theorem dX6_ifAsked_1 : decode cX6_ifAsked 1 = .ok (.iload_n 1, 1) := by decide +kernel
theorem dX6_ifAsked_2 : decode cX6_ifAsked 2 = .ok (.invokestatic 36, 3) := by decide +kernel
theorem dX6_ifAsked_5 : decode cX6_ifAsked 5 = .ok (.iconst 1, 1) := by decide +kernel
theorem dX6_ifAsked_6 : decode cX6_ifAsked 6 = .ok (.invokevirtual 83, 3) := by decide +kernel
theorem dX6_ifAsked_9 : decode cX6_ifAsked 9 = .ok (.ifCond .eq 11, 3) := by decide +kernel
theorem dX6_ifAsked_12 : decode cX6_ifAsked 12 = .ok (.aload_n 0, 1) := by decide +kernel
theorem dX6_ifAsked_13 : decode cX6_ifAsked 13 = .ok (.iload_n 1, 1) := by decide +kernel
theorem dX6_ifAsked_14 : decode cX6_ifAsked 14 = .ok (.invokevirtual 183, 3) := by decide +kernel
theorem dX6_ifAsked_17 : decode cX6_ifAsked 17 = .ok (.goto 4, 3) := by decide +kernel
theorem dX6_ifAsked_20 : decode cX6_ifAsked 20 = .ok (.iconst 0, 1) := by decide +kernel
theorem dX6_ifAsked_21 : decode cX6_ifAsked 21 = .ok (.ireturn, 1) := by decide +kernel
theorem dX6_soonest_0 : decode cX6_soonest 0 = .ok (.aload_n 0, 1) := by decide +kernel
theorem dX6_soonest_1 : decode cX6_soonest 1 = .ok (.iconst 0, 1) := by decide +kernel
theorem dX6_soonest_2 : decode cX6_soonest 2 = .ok (.iload_n 1, 1) := by decide +kernel
theorem dX6_soonest_3 : decode cX6_soonest 3 = .ok (.invokevirtual 70, 3) := by decide +kernel
theorem dX6_soonest_6 : decode cX6_soonest 6 = .ok (.ifCond .lt 5, 3) := by decide +kernel
theorem dX6_soonest_9 : decode cX6_soonest 9 = .ok (.iconst 0, 1) := by decide +kernel
theorem dX6_soonest_10 : decode cX6_soonest 10 = .ok (.ireturn, 1) := by decide +kernel
theorem dX6_soonest_11 : decode cX6_soonest 11 = .ok (.iconst (-1), 1) := by decide +kernel
theorem dX6_soonest_12 : decode cX6_soonest 12 = .ok (.istore_n 2, 1) := by decide +kernel
theorem dX6_soonest_13 : decode cX6_soonest 13 = .ok (.iconst 0, 1) := by decide +kernel
theorem dX6_soonest_14 : decode cX6_soonest 14 = .ok (.istore_n 3, 1) := by decide +kernel
theorem dX6_soonest_15 : decode cX6_soonest 15 = .ok (.iload_n 3, 1) := by decide +kernel
theorem dX6_soonest_16 : decode cX6_soonest 16 = .ok (.aload_n 0, 1) := by decide +kernel
theorem dX6_soonest_17 : decode cX6_soonest 17 = .ok (.getfield 7, 3) := by decide +kernel
theorem dX6_soonest_20 : decode cX6_soonest 20 = .ok (.sipush 264, 3) := by decide +kernel
theorem dX6_soonest_23 : decode cX6_soonest 23 = .ok (.iload_n 1, 1) := by decide +kernel
theorem dX6_soonest_24 : decode cX6_soonest 24 = .ok (.iadd, 1) := by decide +kernel
theorem dX6_soonest_25 : decode cX6_soonest 25 = .ok (.iaload, 1) := by decide +kernel
theorem dX6_soonest_26 : decode cX6_soonest 26 = .ok (.if_icmp .ge 41, 3) := by decide +kernel
theorem dX6_soonest_29 : decode cX6_soonest 29 = .ok (.aload_n 0, 1) := by decide +kernel
theorem dX6_soonest_30 : decode cX6_soonest 30 = .ok (.iload_n 1, 1) := by decide +kernel
theorem dX6_soonest_31 : decode cX6_soonest 31 = .ok (.aload_n 0, 1) := by decide +kernel
theorem dX6_soonest_32 : decode cX6_soonest 32 = .ok (.iconst 0, 1) := by decide +kernel
theorem dX6_soonest_33 : decode cX6_soonest 33 = .ok (.iload_n 1, 1) := by decide +kernel
theorem dX6_soonest_34 : decode cX6_soonest 34 = .ok (.iload_n 3, 1) := by decide +kernel
theorem dX6_soonest_35 : decode cX6_soonest 35 = .ok (.invokevirtual 50, 3) := by decide +kernel
theorem dX6_soonest_38 : decode cX6_soonest 38 = .ok (.iconst 4, 1) := by decide +kernel
theorem dX6_soonest_39 : decode cX6_soonest 39 = .ok (.invokevirtual 165, 3) := by decide +kernel
theorem dX6_soonest_42 : decode cX6_soonest 42 = .ok (.istore 4, 2) := by decide +kernel
theorem dX6_soonest_44 : decode cX6_soonest 44 = .ok (.iload_n 2, 1) := by decide +kernel
theorem dX6_soonest_45 : decode cX6_soonest 45 = .ok (.ifCond .lt 9, 3) := by decide +kernel
theorem dX6_soonest_48 : decode cX6_soonest 48 = .ok (.iload 4, 2) := by decide +kernel
theorem dX6_soonest_50 : decode cX6_soonest 50 = .ok (.iload_n 2, 1) := by decide +kernel
theorem dX6_soonest_51 : decode cX6_soonest 51 = .ok (.if_icmp .ge 8, 3) := by decide +kernel
theorem dX6_soonest_54 : decode cX6_soonest 54 = .ok (.iload 4, 2) := by decide +kernel
theorem dX6_soonest_56 : decode cX6_soonest 56 = .ok (.goto 4, 3) := by decide +kernel
theorem dX6_soonest_59 : decode cX6_soonest 59 = .ok (.iload_n 2, 1) := by decide +kernel
theorem dX6_soonest_60 : decode cX6_soonest 60 = .ok (.istore_n 2, 1) := by decide +kernel
theorem dX6_soonest_61 : decode cX6_soonest 61 = .ok (.iinc 3 1, 3) := by decide +kernel
theorem dX6_soonest_64 : decode cX6_soonest 64 = .ok (.goto (-49), 3) := by decide +kernel
theorem dX6_soonest_67 : decode cX6_soonest 67 = .ok (.iload_n 2, 1) := by decide +kernel
theorem dX6_soonest_68 : decode cX6_soonest 68 = .ok (.ireturn, 1) := by decide +kernel
theorem dX6_keyIn_0 : decode cX6_keyIn 0 = .ok (.aload_n 0, 1) := by decide +kernel
theorem dX6_keyIn_1 : decode cX6_keyIn 1 = .ok (.iload_n 1, 1) := by decide +kernel
theorem dX6_keyIn_2 : decode cX6_keyIn 2 = .ok (.invokestatic 36, 3) := by decide +kernel
theorem dX6_keyIn_5 : decode cX6_keyIn 5 = .ok (.iconst 1, 1) := by decide +kernel
theorem dX6_keyIn_6 : decode cX6_keyIn 6 = .ok (.invokevirtual 83, 3) := by decide +kernel
theorem dX6_keyIn_9 : decode cX6_keyIn 9 = .ok (.ifCond .eq 11, 3) := by decide +kernel
theorem dX6_keyIn_12 : decode cX6_keyIn 12 = .ok (.aload_n 0, 1) := by decide +kernel
theorem dX6_keyIn_13 : decode cX6_keyIn 13 = .ok (.iload_n 1, 1) := by decide +kernel
theorem dX6_keyIn_14 : decode cX6_keyIn 14 = .ok (.invokevirtual 186, 3) := by decide +kernel
theorem dX6_keyIn_17 : decode cX6_keyIn 17 = .ok (.goto 4, 3) := by decide +kernel
theorem dX6_keyIn_20 : decode cX6_keyIn 20 = .ok (.iconst 0, 1) := by decide +kernel
theorem dX6_keyIn_21 : decode cX6_keyIn 21 = .ok (.ireturn, 1) := by decide +kernel
theorem dX6_comes_0 : decode cX6_comes 0 = .ok (.aload_n 0, 1) := by decide +kernel
theorem dX6_comes_1 : decode cX6_comes 1 = .ok (.iconst 0, 1) := by decide +kernel
theorem dX6_comes_2 : decode cX6_comes 2 = .ok (.bipush 9, 2) := by decide +kernel
theorem dX6_comes_4 : decode cX6_comes 4 = .ok (.invokevirtual 28, 3) := by decide +kernel
theorem dX6_comes_7 : decode cX6_comes 7 = .ok (.sipush 2619, 3) := by decide +kernel
theorem dX6_comes_10 : decode cX6_comes 10 = .ok (.istore_n 3, 1) := by decide +kernel
theorem dX6_comes_11 : decode cX6_comes 11 = .ok (.iconst (-1), 1) := by decide +kernel
theorem dX6_comes_12 : decode cX6_comes 12 = .ok (.istore 4, 2) := by decide +kernel
theorem dX6_comes_14 : decode cX6_comes 14 = .ok (.iconst 0, 1) := by decide +kernel
theorem dX6_comes_15 : decode cX6_comes 15 = .ok (.istore 5, 2) := by decide +kernel
theorem dX6_comes_17 : decode cX6_comes 17 = .ok (.iload 5, 2) := by decide +kernel
theorem dX6_comes_19 : decode cX6_comes 19 = .ok (.iload_n 2, 1) := by decide +kernel
theorem dX6_comes_20 : decode cX6_comes 20 = .ok (.if_icmp .ge 32, 3) := by decide +kernel
theorem dX6_comes_23 : decode cX6_comes 23 = .ok (.aload_n 0, 1) := by decide +kernel
theorem dX6_comes_24 : decode cX6_comes 24 = .ok (.iload_n 3, 1) := by decide +kernel
theorem dX6_comes_25 : decode cX6_comes 25 = .ok (.iload_n 1, 1) := by decide +kernel
theorem dX6_comes_26 : decode cX6_comes 26 = .ok (.invokevirtual 70, 3) := by decide +kernel
theorem dX6_comes_29 : decode cX6_comes 29 = .ok (.istore 4, 2) := by decide +kernel
theorem dX6_comes_31 : decode cX6_comes 31 = .ok (.iload 4, 2) := by decide +kernel
theorem dX6_comes_33 : decode cX6_comes 33 = .ok (.ifCond .ge 5, 3) := by decide +kernel
theorem dX6_comes_36 : decode cX6_comes 36 = .ok (.iconst (-1), 1) := by decide +kernel
theorem dX6_comes_37 : decode cX6_comes 37 = .ok (.ireturn, 1) := by decide +kernel
theorem dX6_comes_38 : decode cX6_comes 38 = .ok (.aload_n 0, 1) := by decide +kernel
theorem dX6_comes_39 : decode cX6_comes 39 = .ok (.iload_n 3, 1) := by decide +kernel
theorem dX6_comes_40 : decode cX6_comes 40 = .ok (.iload_n 1, 1) := by decide +kernel
theorem dX6_comes_41 : decode cX6_comes 41 = .ok (.iload 4, 2) := by decide +kernel
theorem dX6_comes_43 : decode cX6_comes 43 = .ok (.invokevirtual 80, 3) := by decide +kernel
theorem dX6_comes_46 : decode cX6_comes 46 = .ok (.iinc 5 1, 3) := by decide +kernel
theorem dX6_comes_49 : decode cX6_comes 49 = .ok (.goto (-32), 3) := by decide +kernel
theorem dX6_comes_52 : decode cX6_comes 52 = .ok (.iload 4, 2) := by decide +kernel
theorem dX6_comes_54 : decode cX6_comes 54 = .ok (.ireturn, 1) := by decide +kernel
theorem dX6_coming_0 : decode cX6_coming 0 = .ok (.aload_n 0, 1) := by decide +kernel
theorem dX6_coming_1 : decode cX6_coming 1 = .ok (.iload_n 1, 1) := by decide +kernel
theorem dX6_coming_2 : decode cX6_coming 2 = .ok (.invokestatic 36, 3) := by decide +kernel
theorem dX6_coming_5 : decode cX6_coming 5 = .ok (.iload_n 2, 1) := by decide +kernel
theorem dX6_coming_6 : decode cX6_coming 6 = .ok (.iconst 1, 1) := by decide +kernel
theorem dX6_coming_7 : decode cX6_coming 7 = .ok (.bipush 16, 2) := by decide +kernel
theorem dX6_coming_9 : decode cX6_coming 9 = .ok (.invokestatic 32, 3) := by decide +kernel
theorem dX6_coming_12 : decode cX6_coming 12 = .ok (.invokevirtual 83, 3) := by decide +kernel
theorem dX6_coming_15 : decode cX6_coming 15 = .ok (.ifCond .eq 12, 3) := by decide +kernel
theorem dX6_coming_18 : decode cX6_coming 18 = .ok (.aload_n 0, 1) := by decide +kernel
theorem dX6_coming_19 : decode cX6_coming 19 = .ok (.iload_n 1, 1) := by decide +kernel
theorem dX6_coming_20 : decode cX6_coming 20 = .ok (.iload_n 2, 1) := by decide +kernel
theorem dX6_coming_21 : decode cX6_coming 21 = .ok (.invokevirtual 189, 3) := by decide +kernel
theorem dX6_coming_24 : decode cX6_coming 24 = .ok (.goto 4, 3) := by decide +kernel
theorem dX6_coming_27 : decode cX6_coming 27 = .ok (.iconst 0, 1) := by decide +kernel
theorem dX6_coming_28 : decode cX6_coming 28 = .ok (.ireturn, 1) := by decide +kernel
theorem dX6_longestSeason_0 : decode cX6_longestSeason 0 = .ok (.aload_n 0, 1) := by decide +kernel
theorem dX6_longestSeason_1 : decode cX6_longestSeason 1 = .ok (.iconst 0, 1) := by decide +kernel
theorem dX6_longestSeason_2 : decode cX6_longestSeason 2 = .ok (.iload_n 1, 1) := by decide +kernel
theorem dX6_longestSeason_3 : decode cX6_longestSeason 3 = .ok (.invokevirtual 56, 3) := by decide +kernel
theorem dX6_longestSeason_6 : decode cX6_longestSeason 6 = .ok (.ifCond .lt 6, 3) := by decide +kernel
theorem dX6_longestSeason_9 : decode cX6_longestSeason 9 = .ok (.bipush 99, 2) := by decide +kernel
theorem dX6_longestSeason_11 : decode cX6_longestSeason 11 = .ok (.ireturn, 1) := by decide +kernel
theorem dX6_longestSeason_12 : decode cX6_longestSeason 12 = .ok (.iconst (-1), 1) := by decide +kernel
theorem dX6_longestSeason_13 : decode cX6_longestSeason 13 = .ok (.istore_n 2, 1) := by decide +kernel
theorem dX6_longestSeason_14 : decode cX6_longestSeason 14 = .ok (.iconst 0, 1) := by decide +kernel
theorem dX6_longestSeason_15 : decode cX6_longestSeason 15 = .ok (.istore_n 3, 1) := by decide +kernel
theorem dX6_longestSeason_16 : decode cX6_longestSeason 16 = .ok (.iload_n 3, 1) := by decide +kernel
theorem dX6_longestSeason_17 : decode cX6_longestSeason 17 = .ok (.aload_n 0, 1) := by decide +kernel
theorem dX6_longestSeason_18 : decode cX6_longestSeason 18 = .ok (.getfield 7, 3) := by decide +kernel
theorem dX6_longestSeason_21 : decode cX6_longestSeason 21 = .ok (.sipush 264, 3) := by decide +kernel
theorem dX6_longestSeason_24 : decode cX6_longestSeason 24 = .ok (.iload_n 1, 1) := by decide +kernel
theorem dX6_longestSeason_25 : decode cX6_longestSeason 25 = .ok (.iadd, 1) := by decide +kernel
theorem dX6_longestSeason_26 : decode cX6_longestSeason 26 = .ok (.iaload, 1) := by decide +kernel
theorem dX6_longestSeason_27 : decode cX6_longestSeason 27 = .ok (.if_icmp .ge 37, 3) := by decide +kernel
theorem dX6_longestSeason_30 : decode cX6_longestSeason 30 = .ok (.aload_n 0, 1) := by decide +kernel
theorem dX6_longestSeason_31 : decode cX6_longestSeason 31 = .ok (.iconst 0, 1) := by decide +kernel
theorem dX6_longestSeason_32 : decode cX6_longestSeason 32 = .ok (.iload_n 1, 1) := by decide +kernel
theorem dX6_longestSeason_33 : decode cX6_longestSeason 33 = .ok (.aload_n 0, 1) := by decide +kernel
theorem dX6_longestSeason_34 : decode cX6_longestSeason 34 = .ok (.iconst 0, 1) := by decide +kernel
theorem dX6_longestSeason_35 : decode cX6_longestSeason 35 = .ok (.iload_n 1, 1) := by decide +kernel
theorem dX6_longestSeason_36 : decode cX6_longestSeason 36 = .ok (.iload_n 3, 1) := by decide +kernel
theorem dX6_longestSeason_37 : decode cX6_longestSeason 37 = .ok (.invokevirtual 50, 3) := by decide +kernel
theorem dX6_longestSeason_40 : decode cX6_longestSeason 40 = .ok (.invokevirtual 44, 3) := by decide +kernel
theorem dX6_longestSeason_43 : decode cX6_longestSeason 43 = .ok (.istore 4, 2) := by decide +kernel
theorem dX6_longestSeason_45 : decode cX6_longestSeason 45 = .ok (.iload 4, 2) := by decide +kernel
theorem dX6_longestSeason_47 : decode cX6_longestSeason 47 = .ok (.iload_n 2, 1) := by decide +kernel
theorem dX6_longestSeason_48 : decode cX6_longestSeason 48 = .ok (.if_icmp .le 8, 3) := by decide +kernel
theorem dX6_longestSeason_51 : decode cX6_longestSeason 51 = .ok (.iload 4, 2) := by decide +kernel
theorem dX6_longestSeason_53 : decode cX6_longestSeason 53 = .ok (.goto 4, 3) := by decide +kernel
theorem dX6_longestSeason_56 : decode cX6_longestSeason 56 = .ok (.iload_n 2, 1) := by decide +kernel
theorem dX6_longestSeason_57 : decode cX6_longestSeason 57 = .ok (.istore_n 2, 1) := by decide +kernel
theorem dX6_longestSeason_58 : decode cX6_longestSeason 58 = .ok (.iinc 3 1, 3) := by decide +kernel
theorem dX6_longestSeason_61 : decode cX6_longestSeason 61 = .ok (.goto (-45), 3) := by decide +kernel
theorem dX6_longestSeason_64 : decode cX6_longestSeason 64 = .ok (.iload_n 2, 1) := by decide +kernel
theorem dX6_longestSeason_65 : decode cX6_longestSeason 65 = .ok (.bipush 99, 2) := by decide +kernel
theorem dX6_longestSeason_67 : decode cX6_longestSeason 67 = .ok (.if_icmp .le 8, 3) := by decide +kernel
theorem dX6_longestSeason_70 : decode cX6_longestSeason 70 = .ok (.bipush 99, 2) := by decide +kernel
theorem dX6_longestSeason_72 : decode cX6_longestSeason 72 = .ok (.goto 4, 3) := by decide +kernel
theorem dX6_longestSeason_75 : decode cX6_longestSeason 75 = .ok (.iload_n 2, 1) := by decide +kernel
theorem dX6_longestSeason_76 : decode cX6_longestSeason 76 = .ok (.ireturn, 1) := by decide +kernel
theorem dX6_longest_0 : decode cX6_longest 0 = .ok (.aload_n 0, 1) := by decide +kernel
theorem dX6_longest_1 : decode cX6_longest 1 = .ok (.iload_n 1, 1) := by decide +kernel
theorem dX6_longest_2 : decode cX6_longest 2 = .ok (.invokestatic 36, 3) := by decide +kernel
theorem dX6_longest_5 : decode cX6_longest 5 = .ok (.iconst 1, 1) := by decide +kernel
theorem dX6_longest_6 : decode cX6_longest 6 = .ok (.invokevirtual 83, 3) := by decide +kernel
theorem dX6_longest_9 : decode cX6_longest 9 = .ok (.ifCond .eq 11, 3) := by decide +kernel
theorem dX6_longest_12 : decode cX6_longest 12 = .ok (.aload_n 0, 1) := by decide +kernel
theorem dX6_longest_13 : decode cX6_longest 13 = .ok (.iload_n 1, 1) := by decide +kernel
theorem dX6_longest_14 : decode cX6_longest 14 = .ok (.invokevirtual 192, 3) := by decide +kernel
theorem dX6_longest_17 : decode cX6_longest 17 = .ok (.goto 4, 3) := by decide +kernel
theorem dX6_longest_20 : decode cX6_longest 20 = .ok (.iconst 0, 1) := by decide +kernel
theorem dX6_longest_21 : decode cX6_longest 21 = .ok (.ireturn, 1) := by decide +kernel
theorem dX6_ifFollowed_0 : decode cX6_ifFollowed 0 = .ok (.aload_n 0, 1) := by decide +kernel
theorem dX6_ifFollowed_1 : decode cX6_ifFollowed 1 = .ok (.iload_n 1, 1) := by decide +kernel
theorem dX6_ifFollowed_2 : decode cX6_ifFollowed 2 = .ok (.iload_n 2, 1) := by decide +kernel
theorem dX6_ifFollowed_3 : decode cX6_ifFollowed 3 = .ok (.invokestatic 93, 3) := by decide +kernel
theorem dX6_ifFollowed_6 : decode cX6_ifFollowed 6 = .ok (.iload_n 3, 1) := by decide +kernel
theorem dX6_ifFollowed_7 : decode cX6_ifFollowed 7 = .ok (.iconst 1, 1) := by decide +kernel
theorem dX6_ifFollowed_8 : decode cX6_ifFollowed 8 = .ok (.if_icmp .lt 7, 3) := by decide +kernel
theorem dX6_ifFollowed_11 : decode cX6_ifFollowed 11 = .ok (.iconst 1, 1) := by decide +kernel
theorem dX6_ifFollowed_12 : decode cX6_ifFollowed 12 = .ok (.goto 4, 3) := by decide +kernel
theorem dX6_ifFollowed_15 : decode cX6_ifFollowed 15 = .ok (.iconst 0, 1) := by decide +kernel
theorem dX6_ifFollowed_16 : decode cX6_ifFollowed 16 = .ok (.invokevirtual 83, 3) := by decide +kernel
theorem dX6_ifFollowed_19 : decode cX6_ifFollowed 19 = .ok (.ifCond .eq 13, 3) := by decide +kernel
theorem dX6_ifFollowed_22 : decode cX6_ifFollowed 22 = .ok (.aload_n 0, 1) := by decide +kernel
theorem dX6_ifFollowed_23 : decode cX6_ifFollowed 23 = .ok (.iload_n 1, 1) := by decide +kernel
theorem dX6_ifFollowed_24 : decode cX6_ifFollowed 24 = .ok (.iload_n 2, 1) := by decide +kernel
theorem dX6_ifFollowed_25 : decode cX6_ifFollowed 25 = .ok (.iload_n 3, 1) := by decide +kernel
theorem dX6_ifFollowed_26 : decode cX6_ifFollowed 26 = .ok (.invokevirtual 115, 3) := by decide +kernel
theorem dX6_ifFollowed_29 : decode cX6_ifFollowed 29 = .ok (.goto 4, 3) := by decide +kernel
theorem dX6_ifFollowed_32 : decode cX6_ifFollowed 32 = .ok (.iconst 0, 1) := by decide +kernel
theorem dX6_ifFollowed_33 : decode cX6_ifFollowed 33 = .ok (.ireturn, 1) := by decide +kernel
theorem dX6_fewest_0 : decode cX6_fewest 0 = .ok (.iconst 0, 1) := by decide +kernel
theorem dX6_fewest_1 : decode cX6_fewest 1 = .ok (.istore_n 1, 1) := by decide +kernel
theorem dX6_fewest_2 : decode cX6_fewest 2 = .ok (.iconst 1, 1) := by decide +kernel
theorem dX6_fewest_3 : decode cX6_fewest 3 = .ok (.istore_n 2, 1) := by decide +kernel
theorem dX6_fewest_4 : decode cX6_fewest 4 = .ok (.iload_n 2, 1) := by decide +kernel
theorem dX6_fewest_5 : decode cX6_fewest 5 = .ok (.iconst 4, 1) := by decide +kernel
theorem dX6_fewest_6 : decode cX6_fewest 6 = .ok (.if_icmp .ge 44, 3) := by decide +kernel
theorem dX6_fewest_9 : decode cX6_fewest 9 = .ok (.aload_n 0, 1) := by decide +kernel
theorem dX6_fewest_10 : decode cX6_fewest 10 = .ok (.iload_n 2, 1) := by decide +kernel
theorem dX6_fewest_11 : decode cX6_fewest 11 = .ok (.iconst 0, 1) := by decide +kernel
theorem dX6_fewest_12 : decode cX6_fewest 12 = .ok (.invokevirtual 118, 3) := by decide +kernel
theorem dX6_fewest_15 : decode cX6_fewest 15 = .ok (.aload_n 0, 1) := by decide +kernel
theorem dX6_fewest_16 : decode cX6_fewest 16 = .ok (.iload_n 2, 1) := by decide +kernel
theorem dX6_fewest_17 : decode cX6_fewest 17 = .ok (.iconst 4, 1) := by decide +kernel
theorem dX6_fewest_18 : decode cX6_fewest 18 = .ok (.invokevirtual 118, 3) := by decide +kernel
theorem dX6_fewest_21 : decode cX6_fewest 21 = .ok (.iadd, 1) := by decide +kernel
theorem dX6_fewest_22 : decode cX6_fewest 22 = .ok (.aload_n 0, 1) := by decide +kernel
theorem dX6_fewest_23 : decode cX6_fewest 23 = .ok (.iload_n 1, 1) := by decide +kernel
theorem dX6_fewest_24 : decode cX6_fewest 24 = .ok (.iconst 0, 1) := by decide +kernel
theorem dX6_fewest_25 : decode cX6_fewest 25 = .ok (.invokevirtual 118, 3) := by decide +kernel
theorem dX6_fewest_28 : decode cX6_fewest 28 = .ok (.aload_n 0, 1) := by decide +kernel
theorem dX6_fewest_29 : decode cX6_fewest 29 = .ok (.iload_n 1, 1) := by decide +kernel
theorem dX6_fewest_30 : decode cX6_fewest 30 = .ok (.iconst 4, 1) := by decide +kernel
theorem dX6_fewest_31 : decode cX6_fewest 31 = .ok (.invokevirtual 118, 3) := by decide +kernel
theorem dX6_fewest_34 : decode cX6_fewest 34 = .ok (.iadd, 1) := by decide +kernel
theorem dX6_fewest_35 : decode cX6_fewest 35 = .ok (.if_icmp .ge 7, 3) := by decide +kernel
theorem dX6_fewest_38 : decode cX6_fewest 38 = .ok (.iload_n 2, 1) := by decide +kernel
theorem dX6_fewest_39 : decode cX6_fewest 39 = .ok (.goto 4, 3) := by decide +kernel
theorem dX6_fewest_42 : decode cX6_fewest 42 = .ok (.iload_n 1, 1) := by decide +kernel
theorem dX6_fewest_43 : decode cX6_fewest 43 = .ok (.istore_n 1, 1) := by decide +kernel
theorem dX6_fewest_44 : decode cX6_fewest 44 = .ok (.iinc 2 1, 3) := by decide +kernel
theorem dX6_fewest_47 : decode cX6_fewest 47 = .ok (.goto (-43), 3) := by decide +kernel
theorem dX6_fewest_50 : decode cX6_fewest 50 = .ok (.iload_n 1, 1) := by decide +kernel
theorem dX6_fewest_51 : decode cX6_fewest 51 = .ok (.ireturn, 1) := by decide +kernel
theorem dX6_scarcest_0 : decode cX6_scarcest 0 = .ok (.aload_n 0, 1) := by decide +kernel
theorem dX6_scarcest_1 : decode cX6_scarcest 1 = .ok (.iconst 0, 1) := by decide +kernel
theorem dX6_scarcest_2 : decode cX6_scarcest 2 = .ok (.putfield 21, 3) := by decide +kernel
theorem dX6_scarcest_5 : decode cX6_scarcest 5 = .ok (.aload_n 0, 1) := by decide +kernel
theorem dX6_scarcest_6 : decode cX6_scarcest 6 = .ok (.invokevirtual 195, 3) := by decide +kernel
theorem dX6_scarcest_9 : decode cX6_scarcest 9 = .ok (.ireturn, 1) := by decide +kernel
theorem dX6_share_0 : decode cX6_share 0 = .ok (.aload_n 0, 1) := by decide +kernel
theorem dX6_share_1 : decode cX6_share 1 = .ok (.sipush 264, 3) := by decide +kernel
theorem dX6_share_4 : decode cX6_share 4 = .ok (.invokevirtual 174, 3) := by decide +kernel
theorem dX6_share_7 : decode cX6_share 7 = .ok (.ifCond .ne 7, 3) := by decide +kernel
theorem dX6_share_10 : decode cX6_share 10 = .ok (.dconst 1, 1) := by decide +kernel
theorem dX6_share_11 : decode cX6_share 11 = .ok (.goto 19, 3) := by decide +kernel
theorem dX6_share_14 : decode cX6_share 14 = .ok (.aload_n 0, 1) := by decide +kernel
theorem dX6_share_15 : decode cX6_share 15 = .ok (.iconst (-1), 1) := by decide +kernel
theorem dX6_share_16 : decode cX6_share 16 = .ok (.iconst 4, 1) := by decide +kernel
theorem dX6_share_17 : decode cX6_share 17 = .ok (.invokevirtual 118, 3) := by decide +kernel
theorem dX6_share_20 : decode cX6_share 20 = .ok (.i2d, 1) := by decide +kernel
theorem dX6_share_21 : decode cX6_share 21 = .ok (.aload_n 0, 1) := by decide +kernel
theorem dX6_share_22 : decode cX6_share 22 = .ok (.sipush 264, 3) := by decide +kernel
theorem dX6_share_25 : decode cX6_share 25 = .ok (.invokevirtual 174, 3) := by decide +kernel
theorem dX6_share_28 : decode cX6_share 28 = .ok (.i2d, 1) := by decide +kernel
theorem dX6_share_29 : decode cX6_share 29 = .ok (.ddiv, 1) := by decide +kernel
theorem dX6_share_30 : decode cX6_share 30 = .ok (.dreturn, 1) := by decide +kernel
theorem dX6_ripeShare_0 : decode cX6_ripeShare 0 = .ok (.aload_n 0, 1) := by decide +kernel
theorem dX6_ripeShare_1 : decode cX6_ripeShare 1 = .ok (.iconst 0, 1) := by decide +kernel
theorem dX6_ripeShare_2 : decode cX6_ripeShare 2 = .ok (.putfield 21, 3) := by decide +kernel
theorem dX6_ripeShare_5 : decode cX6_ripeShare 5 = .ok (.aload_n 0, 1) := by decide +kernel
theorem dX6_ripeShare_6 : decode cX6_ripeShare 6 = .ok (.invokevirtual 198, 3) := by decide +kernel
theorem dX6_ripeShare_9 : decode cX6_ripeShare 9 = .ok (.dreturn, 1) := by decide +kernel
theorem dX6_mean_0 : decode cX6_mean 0 = .ok (.iconst 0, 1) := by decide +kernel
theorem dX6_mean_1 : decode cX6_mean 1 = .ok (.istore_n 2, 1) := by decide +kernel
theorem dX6_mean_2 : decode cX6_mean 2 = .ok (.iconst 0, 1) := by decide +kernel
theorem dX6_mean_3 : decode cX6_mean 3 = .ok (.istore_n 3, 1) := by decide +kernel
theorem dX6_mean_4 : decode cX6_mean 4 = .ok (.iload_n 3, 1) := by decide +kernel
theorem dX6_mean_5 : decode cX6_mean 5 = .ok (.aload_n 0, 1) := by decide +kernel
theorem dX6_mean_6 : decode cX6_mean 6 = .ok (.getfield 7, 3) := by decide +kernel
theorem dX6_mean_9 : decode cX6_mean 9 = .ok (.sipush 264, 3) := by decide +kernel
theorem dX6_mean_12 : decode cX6_mean 12 = .ok (.iload_n 1, 1) := by decide +kernel
theorem dX6_mean_13 : decode cX6_mean 13 = .ok (.iadd, 1) := by decide +kernel
theorem dX6_mean_14 : decode cX6_mean 14 = .ok (.iaload, 1) := by decide +kernel
theorem dX6_mean_15 : decode cX6_mean 15 = .ok (.if_icmp .ge 25, 3) := by decide +kernel
theorem dX6_mean_18 : decode cX6_mean 18 = .ok (.iload_n 2, 1) := by decide +kernel
theorem dX6_mean_19 : decode cX6_mean 19 = .ok (.aload_n 0, 1) := by decide +kernel
theorem dX6_mean_20 : decode cX6_mean 20 = .ok (.iconst 0, 1) := by decide +kernel
theorem dX6_mean_21 : decode cX6_mean 21 = .ok (.iload_n 1, 1) := by decide +kernel
theorem dX6_mean_22 : decode cX6_mean 22 = .ok (.aload_n 0, 1) := by decide +kernel
theorem dX6_mean_23 : decode cX6_mean 23 = .ok (.iconst 0, 1) := by decide +kernel
theorem dX6_mean_24 : decode cX6_mean 24 = .ok (.iload_n 1, 1) := by decide +kernel
theorem dX6_mean_25 : decode cX6_mean 25 = .ok (.iload_n 3, 1) := by decide +kernel
theorem dX6_mean_26 : decode cX6_mean 26 = .ok (.invokevirtual 50, 3) := by decide +kernel
theorem dX6_mean_29 : decode cX6_mean 29 = .ok (.invokevirtual 44, 3) := by decide +kernel
theorem dX6_mean_32 : decode cX6_mean 32 = .ok (.iadd, 1) := by decide +kernel
theorem dX6_mean_33 : decode cX6_mean 33 = .ok (.istore_n 2, 1) := by decide +kernel
theorem dX6_mean_34 : decode cX6_mean 34 = .ok (.iinc 3 1, 3) := by decide +kernel
theorem dX6_mean_37 : decode cX6_mean 37 = .ok (.goto (-33), 3) := by decide +kernel
theorem dX6_mean_40 : decode cX6_mean 40 = .ok (.aload_n 0, 1) := by decide +kernel
theorem dX6_mean_41 : decode cX6_mean 41 = .ok (.getfield 7, 3) := by decide +kernel
theorem dX6_mean_44 : decode cX6_mean 44 = .ok (.sipush 264, 3) := by decide +kernel
theorem dX6_mean_47 : decode cX6_mean 47 = .ok (.iload_n 1, 1) := by decide +kernel
theorem dX6_mean_48 : decode cX6_mean 48 = .ok (.iadd, 1) := by decide +kernel
theorem dX6_mean_49 : decode cX6_mean 49 = .ok (.iaload, 1) := by decide +kernel
theorem dX6_mean_50 : decode cX6_mean 50 = .ok (.ifCond .ne 7, 3) := by decide +kernel
theorem dX6_mean_53 : decode cX6_mean 53 = .ok (.fconst 0, 1) := by decide +kernel
theorem dX6_mean_54 : decode cX6_mean 54 = .ok (.goto 17, 3) := by decide +kernel
theorem dX6_mean_57 : decode cX6_mean 57 = .ok (.iload_n 2, 1) := by decide +kernel
theorem dX6_mean_58 : decode cX6_mean 58 = .ok (.i2f, 1) := by decide +kernel
theorem dX6_mean_59 : decode cX6_mean 59 = .ok (.aload_n 0, 1) := by decide +kernel
theorem dX6_mean_60 : decode cX6_mean 60 = .ok (.getfield 7, 3) := by decide +kernel
theorem dX6_mean_63 : decode cX6_mean 63 = .ok (.sipush 264, 3) := by decide +kernel
theorem dX6_mean_66 : decode cX6_mean 66 = .ok (.iload_n 1, 1) := by decide +kernel
theorem dX6_mean_67 : decode cX6_mean 67 = .ok (.iadd, 1) := by decide +kernel
theorem dX6_mean_68 : decode cX6_mean 68 = .ok (.iaload, 1) := by decide +kernel
theorem dX6_mean_69 : decode cX6_mean 69 = .ok (.i2f, 1) := by decide +kernel
theorem dX6_mean_70 : decode cX6_mean 70 = .ok (.fdiv, 1) := by decide +kernel
theorem dX6_mean_71 : decode cX6_mean 71 = .ok (.freturn, 1) := by decide +kernel
theorem dX6_meanAge_0 : decode cX6_meanAge 0 = .ok (.aload_n 0, 1) := by decide +kernel
theorem dX6_meanAge_1 : decode cX6_meanAge 1 = .ok (.iload_n 1, 1) := by decide +kernel
theorem dX6_meanAge_2 : decode cX6_meanAge 2 = .ok (.invokestatic 36, 3) := by decide +kernel
theorem dX6_meanAge_5 : decode cX6_meanAge 5 = .ok (.iconst 1, 1) := by decide +kernel
theorem dX6_meanAge_6 : decode cX6_meanAge 6 = .ok (.invokevirtual 83, 3) := by decide +kernel
theorem dX6_meanAge_9 : decode cX6_meanAge 9 = .ok (.ifCond .eq 11, 3) := by decide +kernel
theorem dX6_meanAge_12 : decode cX6_meanAge 12 = .ok (.aload_n 0, 1) := by decide +kernel
theorem dX6_meanAge_13 : decode cX6_meanAge 13 = .ok (.iload_n 1, 1) := by decide +kernel
theorem dX6_meanAge_14 : decode cX6_meanAge 14 = .ok (.invokevirtual 202, 3) := by decide +kernel
theorem dX6_meanAge_17 : decode cX6_meanAge 17 = .ok (.goto 4, 3) := by decide +kernel
theorem dX6_meanAge_20 : decode cX6_meanAge 20 = .ok (.fconst 0, 1) := by decide +kernel
theorem dX6_meanAge_21 : decode cX6_meanAge 21 = .ok (.freturn, 1) := by decide +kernel
theorem dX6_digest_0 : decode cX6_digest 0 = .ok (.aload_n 0, 1) := by decide +kernel
theorem dX6_digest_1 : decode cX6_digest 1 = .ok (.iconst 0, 1) := by decide +kernel
theorem dX6_digest_2 : decode cX6_digest 2 = .ok (.putfield 21, 3) := by decide +kernel
theorem dX6_digest_5 : decode cX6_digest 5 = .ok (.ldc2_w 206, 3) := by decide +kernel
theorem dX6_digest_8 : decode cX6_digest 8 = .ok (.lstore_n 1, 1) := by decide +kernel
theorem dX6_digest_9 : decode cX6_digest 9 = .ok (.iconst 0, 1) := by decide +kernel
theorem dX6_digest_10 : decode cX6_digest 10 = .ok (.istore_n 3, 1) := by decide +kernel
theorem dX6_digest_11 : decode cX6_digest 11 = .ok (.iload_n 3, 1) := by decide +kernel
theorem dX6_digest_12 : decode cX6_digest 12 = .ok (.bipush 10, 2) := by decide +kernel
theorem dX6_digest_14 : decode cX6_digest 14 = .ok (.if_icmp .ge 22, 3) := by decide +kernel
theorem dX6_digest_17 : decode cX6_digest 17 = .ok (.ldc2_w 208, 3) := by decide +kernel
theorem dX6_digest_20 : decode cX6_digest 20 = .ok (.lload_n 1, 1) := by decide +kernel
theorem dX6_digest_21 : decode cX6_digest 21 = .ok (.lmul, 1) := by decide +kernel
theorem dX6_digest_22 : decode cX6_digest 22 = .ok (.aload_n 0, 1) := by decide +kernel
theorem dX6_digest_23 : decode cX6_digest 23 = .ok (.iload_n 3, 1) := by decide +kernel
theorem dX6_digest_24 : decode cX6_digest 24 = .ok (.invokevirtual 180, 3) := by decide +kernel
theorem dX6_digest_27 : decode cX6_digest 27 = .ok (.i2l, 1) := by decide +kernel
theorem dX6_digest_28 : decode cX6_digest 28 = .ok (.ladd, 1) := by decide +kernel
theorem dX6_digest_29 : decode cX6_digest 29 = .ok (.lstore_n 1, 1) := by decide +kernel
theorem dX6_digest_30 : decode cX6_digest 30 = .ok (.iinc 3 1, 3) := by decide +kernel
theorem dX6_digest_33 : decode cX6_digest 33 = .ok (.goto (-22), 3) := by decide +kernel
theorem dX6_digest_36 : decode cX6_digest 36 = .ok (.iconst 0, 1) := by decide +kernel
theorem dX6_digest_37 : decode cX6_digest 37 = .ok (.istore_n 3, 1) := by decide +kernel
theorem dX6_digest_38 : decode cX6_digest 38 = .ok (.iload_n 3, 1) := by decide +kernel
theorem dX6_digest_39 : decode cX6_digest 39 = .ok (.iconst 3, 1) := by decide +kernel
theorem dX6_digest_40 : decode cX6_digest 40 = .ok (.if_icmp .ge 23, 3) := by decide +kernel
theorem dX6_digest_43 : decode cX6_digest 43 = .ok (.ldc2_w 208, 3) := by decide +kernel
theorem dX6_digest_46 : decode cX6_digest 46 = .ok (.lload_n 1, 1) := by decide +kernel
theorem dX6_digest_47 : decode cX6_digest 47 = .ok (.lmul, 1) := by decide +kernel
theorem dX6_digest_48 : decode cX6_digest 48 = .ok (.aload_n 0, 1) := by decide +kernel
theorem dX6_digest_49 : decode cX6_digest 49 = .ok (.getfield 7, 3) := by decide +kernel
theorem dX6_digest_52 : decode cX6_digest 52 = .ok (.iload_n 3, 1) := by decide +kernel
theorem dX6_digest_53 : decode cX6_digest 53 = .ok (.iaload, 1) := by decide +kernel
theorem dX6_digest_54 : decode cX6_digest 54 = .ok (.i2l, 1) := by decide +kernel
theorem dX6_digest_55 : decode cX6_digest 55 = .ok (.ladd, 1) := by decide +kernel
theorem dX6_digest_56 : decode cX6_digest 56 = .ok (.lstore_n 1, 1) := by decide +kernel
theorem dX6_digest_57 : decode cX6_digest 57 = .ok (.iinc 3 1, 3) := by decide +kernel
theorem dX6_digest_60 : decode cX6_digest 60 = .ok (.goto (-22), 3) := by decide +kernel
theorem dX6_digest_63 : decode cX6_digest 63 = .ok (.iconst 0, 1) := by decide +kernel
theorem dX6_digest_64 : decode cX6_digest 64 = .ok (.istore_n 3, 1) := by decide +kernel
theorem dX6_digest_65 : decode cX6_digest 65 = .ok (.iload_n 3, 1) := by decide +kernel
theorem dX6_digest_66 : decode cX6_digest 66 = .ok (.iconst 4, 1) := by decide +kernel
theorem dX6_digest_67 : decode cX6_digest 67 = .ok (.if_icmp .ge 192, 3) := by decide +kernel
theorem dX6_digest_70 : decode cX6_digest 70 = .ok (.iconst 0, 1) := by decide +kernel
theorem dX6_digest_71 : decode cX6_digest 71 = .ok (.istore 4, 2) := by decide +kernel
theorem dX6_digest_73 : decode cX6_digest 73 = .ok (.iload 4, 2) := by decide +kernel
theorem dX6_digest_75 : decode cX6_digest 75 = .ok (.bipush 11, 2) := by decide +kernel
theorem dX6_digest_77 : decode cX6_digest 77 = .ok (.if_icmp .ge 24, 3) := by decide +kernel
theorem dX6_digest_80 : decode cX6_digest 80 = .ok (.ldc2_w 208, 3) := by decide +kernel
theorem dX6_digest_83 : decode cX6_digest 83 = .ok (.lload_n 1, 1) := by decide +kernel
theorem dX6_digest_84 : decode cX6_digest 84 = .ok (.lmul, 1) := by decide +kernel
theorem dX6_digest_85 : decode cX6_digest 85 = .ok (.aload_n 0, 1) := by decide +kernel
theorem dX6_digest_86 : decode cX6_digest 86 = .ok (.iload_n 3, 1) := by decide +kernel
theorem dX6_digest_87 : decode cX6_digest 87 = .ok (.iload 4, 2) := by decide +kernel
theorem dX6_digest_89 : decode cX6_digest 89 = .ok (.invokevirtual 168, 3) := by decide +kernel
theorem dX6_digest_92 : decode cX6_digest 92 = .ok (.i2l, 1) := by decide +kernel
theorem dX6_digest_93 : decode cX6_digest 93 = .ok (.ladd, 1) := by decide +kernel
theorem dX6_digest_94 : decode cX6_digest 94 = .ok (.lstore_n 1, 1) := by decide +kernel
theorem dX6_digest_95 : decode cX6_digest 95 = .ok (.iinc 4 1, 3) := by decide +kernel
theorem dX6_digest_98 : decode cX6_digest 98 = .ok (.goto (-25), 3) := by decide +kernel
theorem dX6_digest_101 : decode cX6_digest 101 = .ok (.iconst 0, 1) := by decide +kernel
theorem dX6_digest_102 : decode cX6_digest 102 = .ok (.istore 4, 2) := by decide +kernel
theorem dX6_digest_104 : decode cX6_digest 104 = .ok (.iload 4, 2) := by decide +kernel
theorem dX6_digest_106 : decode cX6_digest 106 = .ok (.bipush 80, 2) := by decide +kernel
theorem dX6_digest_108 : decode cX6_digest 108 = .ok (.if_icmp .ge 30, 3) := by decide +kernel
theorem dX6_digest_111 : decode cX6_digest 111 = .ok (.ldc2_w 208, 3) := by decide +kernel
theorem dX6_digest_114 : decode cX6_digest 114 = .ok (.lload_n 1, 1) := by decide +kernel
theorem dX6_digest_115 : decode cX6_digest 115 = .ok (.lmul, 1) := by decide +kernel
theorem dX6_digest_116 : decode cX6_digest 116 = .ok (.aload_n 0, 1) := by decide +kernel
theorem dX6_digest_117 : decode cX6_digest 117 = .ok (.iload_n 3, 1) := by decide +kernel
theorem dX6_digest_118 : decode cX6_digest 118 = .ok (.iload 4, 2) := by decide +kernel
theorem dX6_digest_120 : decode cX6_digest 120 = .ok (.iconst 5, 1) := by decide +kernel
theorem dX6_digest_121 : decode cX6_digest 121 = .ok (.idiv, 1) := by decide +kernel
theorem dX6_digest_122 : decode cX6_digest 122 = .ok (.iload 4, 2) := by decide +kernel
theorem dX6_digest_124 : decode cX6_digest 124 = .ok (.iconst 5, 1) := by decide +kernel
theorem dX6_digest_125 : decode cX6_digest 125 = .ok (.irem, 1) := by decide +kernel
theorem dX6_digest_126 : decode cX6_digest 126 = .ok (.invokevirtual 165, 3) := by decide +kernel
theorem dX6_digest_129 : decode cX6_digest 129 = .ok (.i2l, 1) := by decide +kernel
theorem dX6_digest_130 : decode cX6_digest 130 = .ok (.ladd, 1) := by decide +kernel
theorem dX6_digest_131 : decode cX6_digest 131 = .ok (.lstore_n 1, 1) := by decide +kernel
theorem dX6_digest_132 : decode cX6_digest 132 = .ok (.iinc 4 1, 3) := by decide +kernel
theorem dX6_digest_135 : decode cX6_digest 135 = .ok (.goto (-31), 3) := by decide +kernel
theorem dX6_digest_138 : decode cX6_digest 138 = .ok (.iconst 0, 1) := by decide +kernel
theorem dX6_digest_139 : decode cX6_digest 139 = .ok (.istore 4, 2) := by decide +kernel
theorem dX6_digest_141 : decode cX6_digest 141 = .ok (.iload 4, 2) := by decide +kernel
theorem dX6_digest_143 : decode cX6_digest 143 = .ok (.iconst 4, 1) := by decide +kernel
theorem dX6_digest_144 : decode cX6_digest 144 = .ok (.if_icmp .ge 24, 3) := by decide +kernel
theorem dX6_digest_147 : decode cX6_digest 147 = .ok (.ldc2_w 208, 3) := by decide +kernel
theorem dX6_digest_150 : decode cX6_digest 150 = .ok (.lload_n 1, 1) := by decide +kernel
theorem dX6_digest_151 : decode cX6_digest 151 = .ok (.lmul, 1) := by decide +kernel
theorem dX6_digest_152 : decode cX6_digest 152 = .ok (.aload_n 0, 1) := by decide +kernel
theorem dX6_digest_153 : decode cX6_digest 153 = .ok (.iload_n 3, 1) := by decide +kernel
theorem dX6_digest_154 : decode cX6_digest 154 = .ok (.iload 4, 2) := by decide +kernel
theorem dX6_digest_156 : decode cX6_digest 156 = .ok (.invokevirtual 171, 3) := by decide +kernel
theorem dX6_digest_159 : decode cX6_digest 159 = .ok (.i2l, 1) := by decide +kernel
theorem dX6_digest_160 : decode cX6_digest 160 = .ok (.ladd, 1) := by decide +kernel
theorem dX6_digest_161 : decode cX6_digest 161 = .ok (.lstore_n 1, 1) := by decide +kernel
theorem dX6_digest_162 : decode cX6_digest 162 = .ok (.iinc 4 1, 3) := by decide +kernel
theorem dX6_digest_165 : decode cX6_digest 165 = .ok (.goto (-24), 3) := by decide +kernel
theorem dX6_digest_168 : decode cX6_digest 168 = .ok (.ldc2_w 208, 3) := by decide +kernel
theorem dX6_digest_171 : decode cX6_digest 171 = .ok (.lload_n 1, 1) := by decide +kernel
theorem dX6_digest_172 : decode cX6_digest 172 = .ok (.lmul, 1) := by decide +kernel
theorem dX6_digest_173 : decode cX6_digest 173 = .ok (.aload_n 0, 1) := by decide +kernel
theorem dX6_digest_174 : decode cX6_digest 174 = .ok (.iload_n 3, 1) := by decide +kernel
theorem dX6_digest_175 : decode cX6_digest 175 = .ok (.invokevirtual 183, 3) := by decide +kernel
theorem dX6_digest_178 : decode cX6_digest 178 = .ok (.i2l, 1) := by decide +kernel
theorem dX6_digest_179 : decode cX6_digest 179 = .ok (.ladd, 1) := by decide +kernel
theorem dX6_digest_180 : decode cX6_digest 180 = .ok (.lstore_n 1, 1) := by decide +kernel
theorem dX6_digest_181 : decode cX6_digest 181 = .ok (.ldc2_w 208, 3) := by decide +kernel
theorem dX6_digest_184 : decode cX6_digest 184 = .ok (.lload_n 1, 1) := by decide +kernel
theorem dX6_digest_185 : decode cX6_digest 185 = .ok (.lmul, 1) := by decide +kernel
theorem dX6_digest_186 : decode cX6_digest 186 = .ok (.aload_n 0, 1) := by decide +kernel
theorem dX6_digest_187 : decode cX6_digest 187 = .ok (.iload_n 3, 1) := by decide +kernel
theorem dX6_digest_188 : decode cX6_digest 188 = .ok (.invokevirtual 186, 3) := by decide +kernel
theorem dX6_digest_191 : decode cX6_digest 191 = .ok (.i2l, 1) := by decide +kernel
theorem dX6_digest_192 : decode cX6_digest 192 = .ok (.ladd, 1) := by decide +kernel
theorem dX6_digest_193 : decode cX6_digest 193 = .ok (.lstore_n 1, 1) := by decide +kernel
theorem dX6_digest_194 : decode cX6_digest 194 = .ok (.iconst 1, 1) := by decide +kernel
theorem dX6_digest_195 : decode cX6_digest 195 = .ok (.istore 4, 2) := by decide +kernel
theorem dX6_digest_197 : decode cX6_digest 197 = .ok (.iload 4, 2) := by decide +kernel
theorem dX6_digest_199 : decode cX6_digest 199 = .ok (.iconst 4, 1) := by decide +kernel
theorem dX6_digest_200 : decode cX6_digest 200 = .ok (.if_icmp .ge 24, 3) := by decide +kernel
theorem dX6_digest_203 : decode cX6_digest 203 = .ok (.ldc2_w 208, 3) := by decide +kernel
theorem dX6_digest_206 : decode cX6_digest 206 = .ok (.lload_n 1, 1) := by decide +kernel
theorem dX6_digest_207 : decode cX6_digest 207 = .ok (.lmul, 1) := by decide +kernel
theorem dX6_digest_208 : decode cX6_digest 208 = .ok (.aload_n 0, 1) := by decide +kernel
theorem dX6_digest_209 : decode cX6_digest 209 = .ok (.iload_n 3, 1) := by decide +kernel
theorem dX6_digest_210 : decode cX6_digest 210 = .ok (.iload 4, 2) := by decide +kernel
theorem dX6_digest_212 : decode cX6_digest 212 = .ok (.invokevirtual 189, 3) := by decide +kernel
theorem dX6_digest_215 : decode cX6_digest 215 = .ok (.i2l, 1) := by decide +kernel
theorem dX6_digest_216 : decode cX6_digest 216 = .ok (.ladd, 1) := by decide +kernel
theorem dX6_digest_217 : decode cX6_digest 217 = .ok (.lstore_n 1, 1) := by decide +kernel
theorem dX6_digest_218 : decode cX6_digest 218 = .ok (.iinc 4 1, 3) := by decide +kernel
theorem dX6_digest_221 : decode cX6_digest 221 = .ok (.goto (-24), 3) := by decide +kernel
theorem dX6_digest_224 : decode cX6_digest 224 = .ok (.ldc2_w 208, 3) := by decide +kernel
theorem dX6_digest_227 : decode cX6_digest 227 = .ok (.lload_n 1, 1) := by decide +kernel
theorem dX6_digest_228 : decode cX6_digest 228 = .ok (.lmul, 1) := by decide +kernel
theorem dX6_digest_229 : decode cX6_digest 229 = .ok (.aload_n 0, 1) := by decide +kernel
theorem dX6_digest_230 : decode cX6_digest 230 = .ok (.iload_n 3, 1) := by decide +kernel
theorem dX6_digest_231 : decode cX6_digest 231 = .ok (.invokevirtual 192, 3) := by decide +kernel
theorem dX6_digest_234 : decode cX6_digest 234 = .ok (.i2l, 1) := by decide +kernel
theorem dX6_digest_235 : decode cX6_digest 235 = .ok (.ladd, 1) := by decide +kernel
theorem dX6_digest_236 : decode cX6_digest 236 = .ok (.lstore_n 1, 1) := by decide +kernel
theorem dX6_digest_237 : decode cX6_digest 237 = .ok (.ldc2_w 208, 3) := by decide +kernel
theorem dX6_digest_240 : decode cX6_digest 240 = .ok (.lload_n 1, 1) := by decide +kernel
theorem dX6_digest_241 : decode cX6_digest 241 = .ok (.lmul, 1) := by decide +kernel
theorem dX6_digest_242 : decode cX6_digest 242 = .ok (.aload_n 0, 1) := by decide +kernel
theorem dX6_digest_243 : decode cX6_digest 243 = .ok (.iload_n 3, 1) := by decide +kernel
theorem dX6_digest_244 : decode cX6_digest 244 = .ok (.invokevirtual 202, 3) := by decide +kernel
theorem dX6_digest_247 : decode cX6_digest 247 = .ok (.invokestatic 210, 3) := by decide +kernel
theorem dX6_digest_250 : decode cX6_digest 250 = .ok (.i2l, 1) := by decide +kernel
theorem dX6_digest_251 : decode cX6_digest 251 = .ok (.ladd, 1) := by decide +kernel
theorem dX6_digest_252 : decode cX6_digest 252 = .ok (.lstore_n 1, 1) := by decide +kernel
theorem dX6_digest_253 : decode cX6_digest 253 = .ok (.iinc 3 1, 3) := by decide +kernel
theorem dX6_digest_256 : decode cX6_digest 256 = .ok (.goto (-191), 3) := by decide +kernel
theorem dX6_digest_259 : decode cX6_digest 259 = .ok (.ldc2_w 208, 3) := by decide +kernel
theorem dX6_digest_262 : decode cX6_digest 262 = .ok (.lload_n 1, 1) := by decide +kernel
theorem dX6_digest_263 : decode cX6_digest 263 = .ok (.lmul, 1) := by decide +kernel
theorem dX6_digest_264 : decode cX6_digest 264 = .ok (.aload_n 0, 1) := by decide +kernel
theorem dX6_digest_265 : decode cX6_digest 265 = .ok (.invokevirtual 195, 3) := by decide +kernel
theorem dX6_digest_268 : decode cX6_digest 268 = .ok (.i2l, 1) := by decide +kernel
theorem dX6_digest_269 : decode cX6_digest 269 = .ok (.ladd, 1) := by decide +kernel
theorem dX6_digest_270 : decode cX6_digest 270 = .ok (.lstore_n 1, 1) := by decide +kernel
theorem dX6_digest_271 : decode cX6_digest 271 = .ok (.ldc2_w 208, 3) := by decide +kernel
theorem dX6_digest_274 : decode cX6_digest 274 = .ok (.lload_n 1, 1) := by decide +kernel
theorem dX6_digest_275 : decode cX6_digest 275 = .ok (.lmul, 1) := by decide +kernel
theorem dX6_digest_276 : decode cX6_digest 276 = .ok (.aload_n 0, 1) := by decide +kernel
theorem dX6_digest_277 : decode cX6_digest 277 = .ok (.invokevirtual 198, 3) := by decide +kernel
theorem dX6_digest_280 : decode cX6_digest 280 = .ok (.invokestatic 216, 3) := by decide +kernel
theorem dX6_digest_283 : decode cX6_digest 283 = .ok (.ladd, 1) := by decide +kernel
theorem dX6_digest_284 : decode cX6_digest 284 = .ok (.lstore_n 1, 1) := by decide +kernel
theorem dX6_digest_285 : decode cX6_digest 285 = .ok (.ldc2_w 208, 3) := by decide +kernel
theorem dX6_digest_288 : decode cX6_digest 288 = .ok (.lload_n 1, 1) := by decide +kernel
theorem dX6_digest_289 : decode cX6_digest 289 = .ok (.lmul, 1) := by decide +kernel
theorem dX6_digest_290 : decode cX6_digest 290 = .ok (.aload_n 0, 1) := by decide +kernel
theorem dX6_digest_291 : decode cX6_digest 291 = .ok (.getfield 13, 3) := by decide +kernel
theorem dX6_digest_294 : decode cX6_digest 294 = .ok (.iconst 0, 1) := by decide +kernel
theorem dX6_digest_295 : decode cX6_digest 295 = .ok (.baload, 1) := by decide +kernel
theorem dX6_digest_296 : decode cX6_digest 296 = .ok (.ifCond .eq 7, 3) := by decide +kernel
theorem dX6_digest_299 : decode cX6_digest 299 = .ok (.iconst 1, 1) := by decide +kernel
theorem dX6_digest_300 : decode cX6_digest 300 = .ok (.goto 4, 3) := by decide +kernel
theorem dX6_digest_303 : decode cX6_digest 303 = .ok (.iconst 0, 1) := by decide +kernel
theorem dX6_digest_304 : decode cX6_digest 304 = .ok (.i2l, 1) := by decide +kernel
theorem dX6_digest_305 : decode cX6_digest 305 = .ok (.ladd, 1) := by decide +kernel
theorem dX6_digest_306 : decode cX6_digest 306 = .ok (.lstore_n 1, 1) := by decide +kernel
theorem dX6_digest_307 : decode cX6_digest 307 = .ok (.ldc2_w 208, 3) := by decide +kernel
theorem dX6_digest_310 : decode cX6_digest 310 = .ok (.lload_n 1, 1) := by decide +kernel
theorem dX6_digest_311 : decode cX6_digest 311 = .ok (.lmul, 1) := by decide +kernel
theorem dX6_digest_312 : decode cX6_digest 312 = .ok (.aload_n 0, 1) := by decide +kernel
theorem dX6_digest_313 : decode cX6_digest 313 = .ok (.getfield 13, 3) := by decide +kernel
theorem dX6_digest_316 : decode cX6_digest 316 = .ok (.iconst 1, 1) := by decide +kernel
theorem dX6_digest_317 : decode cX6_digest 317 = .ok (.baload, 1) := by decide +kernel
theorem dX6_digest_318 : decode cX6_digest 318 = .ok (.ifCond .eq 7, 3) := by decide +kernel
theorem dX6_digest_321 : decode cX6_digest 321 = .ok (.iconst 1, 1) := by decide +kernel
theorem dX6_digest_322 : decode cX6_digest 322 = .ok (.goto 4, 3) := by decide +kernel
theorem dX6_digest_325 : decode cX6_digest 325 = .ok (.iconst 0, 1) := by decide +kernel
theorem dX6_digest_326 : decode cX6_digest 326 = .ok (.i2l, 1) := by decide +kernel
theorem dX6_digest_327 : decode cX6_digest 327 = .ok (.ladd, 1) := by decide +kernel
theorem dX6_digest_328 : decode cX6_digest 328 = .ok (.lstore_n 1, 1) := by decide +kernel
theorem dX6_digest_329 : decode cX6_digest 329 = .ok (.ldc2_w 208, 3) := by decide +kernel
theorem dX6_digest_332 : decode cX6_digest 332 = .ok (.lload_n 1, 1) := by decide +kernel
theorem dX6_digest_333 : decode cX6_digest 333 = .ok (.lmul, 1) := by decide +kernel
theorem dX6_digest_334 : decode cX6_digest 334 = .ok (.aload_n 0, 1) := by decide +kernel
theorem dX6_digest_335 : decode cX6_digest 335 = .ok (.getfield 127, 3) := by decide +kernel
theorem dX6_digest_338 : decode cX6_digest 338 = .ok (.i2l, 1) := by decide +kernel
theorem dX6_digest_339 : decode cX6_digest 339 = .ok (.ladd, 1) := by decide +kernel
theorem dX6_digest_340 : decode cX6_digest 340 = .ok (.lstore_n 1, 1) := by decide +kernel
theorem dX6_digest_341 : decode cX6_digest 341 = .ok (.iconst 0, 1) := by decide +kernel
theorem dX6_digest_342 : decode cX6_digest 342 = .ok (.istore_n 3, 1) := by decide +kernel
theorem dX6_digest_343 : decode cX6_digest 343 = .ok (.iload_n 3, 1) := by decide +kernel
theorem dX6_digest_344 : decode cX6_digest 344 = .ok (.aload_n 0, 1) := by decide +kernel
theorem dX6_digest_345 : decode cX6_digest 345 = .ok (.getfield 127, 3) := by decide +kernel
theorem dX6_digest_348 : decode cX6_digest 348 = .ok (.if_icmp .ge 23, 3) := by decide +kernel
theorem dX6_digest_351 : decode cX6_digest 351 = .ok (.ldc2_w 208, 3) := by decide +kernel
theorem dX6_digest_354 : decode cX6_digest 354 = .ok (.lload_n 1, 1) := by decide +kernel
theorem dX6_digest_355 : decode cX6_digest 355 = .ok (.lmul, 1) := by decide +kernel
theorem dX6_digest_356 : decode cX6_digest 356 = .ok (.aload_n 0, 1) := by decide +kernel
theorem dX6_digest_357 : decode cX6_digest 357 = .ok (.getfield 17, 3) := by decide +kernel
theorem dX6_digest_360 : decode cX6_digest 360 = .ok (.iload_n 3, 1) := by decide +kernel
theorem dX6_digest_361 : decode cX6_digest 361 = .ok (.caload, 1) := by decide +kernel
theorem dX6_digest_362 : decode cX6_digest 362 = .ok (.i2l, 1) := by decide +kernel
theorem dX6_digest_363 : decode cX6_digest 363 = .ok (.ladd, 1) := by decide +kernel
theorem dX6_digest_364 : decode cX6_digest 364 = .ok (.lstore_n 1, 1) := by decide +kernel
theorem dX6_digest_365 : decode cX6_digest 365 = .ok (.iinc 3 1, 3) := by decide +kernel
theorem dX6_digest_368 : decode cX6_digest 368 = .ok (.goto (-25), 3) := by decide +kernel
theorem dX6_digest_371 : decode cX6_digest 371 = .ok (.lload_n 1, 1) := by decide +kernel
theorem dX6_digest_372 : decode cX6_digest 372 = .ok (.lreturn, 1) := by decide +kernel
theorem dJxe99ae_isNaN_b9ae7_0 : decode cJxe99ae_isNaN_b9ae7 0 = .ok (.dload_n 0, 1) := by decide +kernel
theorem dJxe99ae_isNaN_b9ae7_1 : decode cJxe99ae_isNaN_b9ae7 1 = .ok (.dload_n 0, 1) := by decide +kernel
theorem dJxe99ae_isNaN_b9ae7_2 : decode cJxe99ae_isNaN_b9ae7 2 = .ok (.dcmp .l, 1) := by decide +kernel
theorem dJxe99ae_isNaN_b9ae7_3 : decode cJxe99ae_isNaN_b9ae7 3 = .ok (.ifCond .eq 7, 3) := by decide +kernel
theorem dJxe99ae_isNaN_b9ae7_6 : decode cJxe99ae_isNaN_b9ae7 6 = .ok (.iconst 1, 1) := by decide +kernel
theorem dJxe99ae_isNaN_b9ae7_7 : decode cJxe99ae_isNaN_b9ae7 7 = .ok (.goto 4, 3) := by decide +kernel
theorem dJxe99ae_isNaN_b9ae7_10 : decode cJxe99ae_isNaN_b9ae7 10 = .ok (.iconst 0, 1) := by decide +kernel
theorem dJxe99ae_isNaN_b9ae7_11 : decode cJxe99ae_isNaN_b9ae7 11 = .ok (.ireturn, 1) := by decide +kernel
theorem dJxe99ae_doubleToLongBits_ccdee_0 : decode cJxe99ae_doubleToLongBits_ccdee 0 = .ok (.dload_n 0, 1) := by decide +kernel
theorem dJxe99ae_doubleToLongBits_ccdee_1 : decode cJxe99ae_doubleToLongBits_ccdee 1 = .ok (.invokestatic 122, 3) := by decide +kernel
theorem dJxe99ae_doubleToLongBits_ccdee_4 : decode cJxe99ae_doubleToLongBits_ccdee 4 = .ok (.ifCond .ne 8, 3) := by decide +kernel
theorem dJxe99ae_doubleToLongBits_ccdee_7 : decode cJxe99ae_doubleToLongBits_ccdee 7 = .ok (.dload_n 0, 1) := by decide +kernel
theorem dJxe99ae_doubleToLongBits_ccdee_8 : decode cJxe99ae_doubleToLongBits_ccdee 8 = .ok (.invokestatic 134, 3) := by decide +kernel
theorem dJxe99ae_doubleToLongBits_ccdee_11 : decode cJxe99ae_doubleToLongBits_ccdee 11 = .ok (.lreturn, 1) := by decide +kernel
theorem dJxe99ae_doubleToLongBits_ccdee_12 : decode cJxe99ae_doubleToLongBits_ccdee 12 = .ok (.ldc2_w 137, 3) := by decide +kernel
theorem dJxe99ae_doubleToLongBits_ccdee_15 : decode cJxe99ae_doubleToLongBits_ccdee 15 = .ok (.lreturn, 1) := by decide +kernel
theorem dJxf58ca_isNaN_12338_0 : decode cJxf58ca_isNaN_12338 0 = .ok (.fload_n 0, 1) := by decide +kernel
theorem dJxf58ca_isNaN_12338_1 : decode cJxf58ca_isNaN_12338 1 = .ok (.fload_n 0, 1) := by decide +kernel
theorem dJxf58ca_isNaN_12338_2 : decode cJxf58ca_isNaN_12338 2 = .ok (.fcmp .l, 1) := by decide +kernel
theorem dJxf58ca_isNaN_12338_3 : decode cJxf58ca_isNaN_12338 3 = .ok (.ifCond .eq 7, 3) := by decide +kernel
theorem dJxf58ca_isNaN_12338_6 : decode cJxf58ca_isNaN_12338 6 = .ok (.iconst 1, 1) := by decide +kernel
theorem dJxf58ca_isNaN_12338_7 : decode cJxf58ca_isNaN_12338 7 = .ok (.goto 4, 3) := by decide +kernel
theorem dJxf58ca_isNaN_12338_10 : decode cJxf58ca_isNaN_12338 10 = .ok (.iconst 0, 1) := by decide +kernel
theorem dJxf58ca_isNaN_12338_11 : decode cJxf58ca_isNaN_12338 11 = .ok (.ireturn, 1) := by decide +kernel
theorem dJxf58ca_floatToIntBits_5c35a_0 : decode cJxf58ca_floatToIntBits_5c35a 0 = .ok (.fload_n 0, 1) := by decide +kernel
theorem dJxf58ca_floatToIntBits_5c35a_1 : decode cJxf58ca_floatToIntBits_5c35a 1 = .ok (.invokestatic 59, 3) := by decide +kernel
theorem dJxf58ca_floatToIntBits_5c35a_4 : decode cJxf58ca_floatToIntBits_5c35a 4 = .ok (.ifCond .ne 8, 3) := by decide +kernel
theorem dJxf58ca_floatToIntBits_5c35a_7 : decode cJxf58ca_floatToIntBits_5c35a 7 = .ok (.fload_n 0, 1) := by decide +kernel
theorem dJxf58ca_floatToIntBits_5c35a_8 : decode cJxf58ca_floatToIntBits_5c35a 8 = .ok (.invokestatic 74, 3) := by decide +kernel
theorem dJxf58ca_floatToIntBits_5c35a_11 : decode cJxf58ca_floatToIntBits_5c35a 11 = .ok (.ireturn, 1) := by decide +kernel
theorem dJxf58ca_floatToIntBits_5c35a_12 : decode cJxf58ca_floatToIntBits_5c35a 12 = .ok (.ldc 77, 2) := by decide +kernel
theorem dJxf58ca_floatToIntBits_5c35a_14 : decode cJxf58ca_floatToIntBits_5c35a 14 = .ok (.ireturn, 1) := by decide +kernel
theorem dJ9_max_7cf53_0 : decode cJ9_max_7cf53 0 = .ok (.iload_n 0, 1) := by decide +kernel
theorem dJ9_max_7cf53_1 : decode cJ9_max_7cf53 1 = .ok (.iload_n 1, 1) := by decide +kernel
theorem dJ9_max_7cf53_2 : decode cJ9_max_7cf53 2 = .ok (.if_icmp .lt 7, 3) := by decide +kernel
theorem dJ9_max_7cf53_5 : decode cJ9_max_7cf53 5 = .ok (.iload_n 0, 1) := by decide +kernel
theorem dJ9_max_7cf53_6 : decode cJ9_max_7cf53 6 = .ok (.goto 4, 3) := by decide +kernel
theorem dJ9_max_7cf53_9 : decode cJ9_max_7cf53 9 = .ok (.iload_n 1, 1) := by decide +kernel
theorem dJ9_max_7cf53_10 : decode cJ9_max_7cf53 10 = .ok (.ireturn, 1) := by decide +kernel
theorem dJ9_min_7cf53_0 : decode cJ9_min_7cf53 0 = .ok (.iload_n 0, 1) := by decide +kernel
theorem dJ9_min_7cf53_1 : decode cJ9_min_7cf53 1 = .ok (.iload_n 1, 1) := by decide +kernel
theorem dJ9_min_7cf53_2 : decode cJ9_min_7cf53 2 = .ok (.if_icmp .gt 7, 3) := by decide +kernel
theorem dJ9_min_7cf53_5 : decode cJ9_min_7cf53 5 = .ok (.iload_n 0, 1) := by decide +kernel
theorem dJ9_min_7cf53_6 : decode cJ9_min_7cf53 6 = .ok (.goto 4, 3) := by decide +kernel
theorem dJ9_min_7cf53_9 : decode cJ9_min_7cf53 9 = .ok (.iload_n 1, 1) := by decide +kernel
theorem dJ9_min_7cf53_10 : decode cJ9_min_7cf53 10 = .ok (.ireturn, 1) := by decide +kernel
theorem dL_ask_0 : decode cL_ask 0 = .ok (.aload_n 2, 1) := by decide +kernel
theorem dL_ask_1 : decode cL_ask 1 = .ok (.iconst 0, 1) := by decide +kernel
theorem dL_ask_2 : decode cL_ask 2 = .ok (.aload_n 0, 1) := by decide +kernel
theorem dL_ask_3 : decode cL_ask 3 = .ok (.iload_n 1, 1) := by decide +kernel
theorem dL_ask_4 : decode cL_ask 4 = .ok (.invokevirtual 7, 3) := by decide +kernel
theorem dL_ask_7 : decode cL_ask 7 = .ok (.i2l, 1) := by decide +kernel
theorem dL_ask_8 : decode cL_ask 8 = .ok (.lastore, 1) := by decide +kernel
theorem dL_ask_9 : decode cL_ask 9 = .ok (.goto 6, 3) := by decide +kernel
theorem dL_ask_12 : decode cL_ask 12 = .ok (.astore_n 3, 1) := by decide +kernel
theorem dL_ask_13 : decode cL_ask 13 = .ok (.iconst 1, 1) := by decide +kernel
theorem dL_ask_14 : decode cL_ask 14 = .ok (.ireturn, 1) := by decide +kernel
theorem dL_ask_15 : decode cL_ask 15 = .ok (.iconst 0, 1) := by decide +kernel
theorem dL_ask_16 : decode cL_ask 16 = .ok (.ireturn, 1) := by decide +kernel
theorem dL_want_0 : decode cL_want 0 = .ok (.aload_n 3, 1) := by decide +kernel
theorem dL_want_1 : decode cL_want 1 = .ok (.iconst 0, 1) := by decide +kernel
theorem dL_want_2 : decode cL_want 2 = .ok (.aload_n 0, 1) := by decide +kernel
theorem dL_want_3 : decode cL_want 3 = .ok (.iload_n 1, 1) := by decide +kernel
theorem dL_want_4 : decode cL_want 4 = .ok (.iload_n 2, 1) := by decide +kernel
theorem dL_want_5 : decode cL_want 5 = .ok (.invokevirtual 15, 3) := by decide +kernel
theorem dL_want_8 : decode cL_want 8 = .ok (.i2l, 1) := by decide +kernel
theorem dL_want_9 : decode cL_want 9 = .ok (.lastore, 1) := by decide +kernel
theorem dL_want_10 : decode cL_want 10 = .ok (.goto 7, 3) := by decide +kernel
theorem dL_want_13 : decode cL_want 13 = .ok (.astore 4, 2) := by decide +kernel
theorem dL_want_15 : decode cL_want 15 = .ok (.iconst 1, 1) := by decide +kernel
theorem dL_want_16 : decode cL_want 16 = .ok (.ireturn, 1) := by decide +kernel
theorem dL_want_17 : decode cL_want 17 = .ok (.iconst 0, 1) := by decide +kernel
theorem dL_want_18 : decode cL_want 18 = .ok (.ireturn, 1) := by decide +kernel
theorem dL_delete_0 : decode cL_delete 0 = .ok (.aload_n 3, 1) := by decide +kernel
theorem dL_delete_1 : decode cL_delete 1 = .ok (.iconst 0, 1) := by decide +kernel
theorem dL_delete_2 : decode cL_delete 2 = .ok (.aload_n 0, 1) := by decide +kernel
theorem dL_delete_3 : decode cL_delete 3 = .ok (.iload_n 1, 1) := by decide +kernel
theorem dL_delete_4 : decode cL_delete 4 = .ok (.iload_n 2, 1) := by decide +kernel
theorem dL_delete_5 : decode cL_delete 5 = .ok (.invokevirtual 19, 3) := by decide +kernel
theorem dL_delete_8 : decode cL_delete 8 = .ok (.i2l, 1) := by decide +kernel
theorem dL_delete_9 : decode cL_delete 9 = .ok (.lastore, 1) := by decide +kernel
theorem dL_delete_10 : decode cL_delete 10 = .ok (.goto 11, 3) := by decide +kernel
theorem dL_delete_13 : decode cL_delete 13 = .ok (.astore 4, 2) := by decide +kernel
theorem dL_delete_15 : decode cL_delete 15 = .ok (.iconst 1, 1) := by decide +kernel
theorem dL_delete_16 : decode cL_delete 16 = .ok (.ireturn, 1) := by decide +kernel
theorem dL_delete_17 : decode cL_delete 17 = .ok (.astore 4, 2) := by decide +kernel
theorem dL_delete_19 : decode cL_delete 19 = .ok (.iconst 2, 1) := by decide +kernel
theorem dL_delete_20 : decode cL_delete 20 = .ok (.ireturn, 1) := by decide +kernel
theorem dL_delete_21 : decode cL_delete 21 = .ok (.iconst 0, 1) := by decide +kernel
theorem dL_delete_22 : decode cL_delete 22 = .ok (.ireturn, 1) := by decide +kernel
theorem dL_bringBack_0 : decode cL_bringBack 0 = .ok (.aload_n 3, 1) := by decide +kernel
theorem dL_bringBack_1 : decode cL_bringBack 1 = .ok (.iconst 0, 1) := by decide +kernel
theorem dL_bringBack_2 : decode cL_bringBack 2 = .ok (.aload_n 0, 1) := by decide +kernel
theorem dL_bringBack_3 : decode cL_bringBack 3 = .ok (.iload_n 1, 1) := by decide +kernel
theorem dL_bringBack_4 : decode cL_bringBack 4 = .ok (.iload_n 2, 1) := by decide +kernel
theorem dL_bringBack_5 : decode cL_bringBack 5 = .ok (.invokevirtual 24, 3) := by decide +kernel
theorem dL_bringBack_8 : decode cL_bringBack 8 = .ok (.i2l, 1) := by decide +kernel
theorem dL_bringBack_9 : decode cL_bringBack 9 = .ok (.lastore, 1) := by decide +kernel
theorem dL_bringBack_10 : decode cL_bringBack 10 = .ok (.goto 11, 3) := by decide +kernel
theorem dL_bringBack_13 : decode cL_bringBack 13 = .ok (.astore 4, 2) := by decide +kernel
theorem dL_bringBack_15 : decode cL_bringBack 15 = .ok (.iconst 1, 1) := by decide +kernel
theorem dL_bringBack_16 : decode cL_bringBack 16 = .ok (.ireturn, 1) := by decide +kernel
theorem dL_bringBack_17 : decode cL_bringBack 17 = .ok (.astore 4, 2) := by decide +kernel
theorem dL_bringBack_19 : decode cL_bringBack 19 = .ok (.iconst 2, 1) := by decide +kernel
theorem dL_bringBack_20 : decode cL_bringBack 20 = .ok (.ireturn, 1) := by decide +kernel
theorem dL_bringBack_21 : decode cL_bringBack 21 = .ok (.iconst 0, 1) := by decide +kernel
theorem dL_bringBack_22 : decode cL_bringBack 22 = .ok (.ireturn, 1) := by decide +kernel
theorem dL_turn_0 : decode cL_turn 0 = .ok (.aload_n 2, 1) := by decide +kernel
theorem dL_turn_1 : decode cL_turn 1 = .ok (.iconst 0, 1) := by decide +kernel
theorem dL_turn_2 : decode cL_turn 2 = .ok (.aload_n 0, 1) := by decide +kernel
theorem dL_turn_3 : decode cL_turn 3 = .ok (.iload_n 1, 1) := by decide +kernel
theorem dL_turn_4 : decode cL_turn 4 = .ok (.invokevirtual 27, 3) := by decide +kernel
theorem dL_turn_7 : decode cL_turn 7 = .ok (.i2l, 1) := by decide +kernel
theorem dL_turn_8 : decode cL_turn 8 = .ok (.lastore, 1) := by decide +kernel
theorem dL_turn_9 : decode cL_turn 9 = .ok (.goto 6, 3) := by decide +kernel
theorem dL_turn_12 : decode cL_turn 12 = .ok (.astore_n 3, 1) := by decide +kernel
theorem dL_turn_13 : decode cL_turn 13 = .ok (.iconst 1, 1) := by decide +kernel
theorem dL_turn_14 : decode cL_turn 14 = .ok (.ireturn, 1) := by decide +kernel
theorem dL_turn_15 : decode cL_turn 15 = .ok (.iconst 0, 1) := by decide +kernel
theorem dL_turn_16 : decode cL_turn 16 = .ok (.ireturn, 1) := by decide +kernel
theorem dL_follow_0 : decode cL_follow 0 = .ok (.aload 4, 2) := by decide +kernel
theorem dL_follow_2 : decode cL_follow 2 = .ok (.iconst 0, 1) := by decide +kernel
theorem dL_follow_3 : decode cL_follow 3 = .ok (.aload_n 0, 1) := by decide +kernel
theorem dL_follow_4 : decode cL_follow 4 = .ok (.iload_n 1, 1) := by decide +kernel
theorem dL_follow_5 : decode cL_follow 5 = .ok (.iload_n 2, 1) := by decide +kernel
theorem dL_follow_6 : decode cL_follow 6 = .ok (.iload_n 3, 1) := by decide +kernel
theorem dL_follow_7 : decode cL_follow 7 = .ok (.invokevirtual 30, 3) := by decide +kernel
theorem dL_follow_10 : decode cL_follow 10 = .ok (.i2l, 1) := by decide +kernel
theorem dL_follow_11 : decode cL_follow 11 = .ok (.lastore, 1) := by decide +kernel
theorem dL_follow_12 : decode cL_follow 12 = .ok (.goto 11, 3) := by decide +kernel
theorem dL_follow_15 : decode cL_follow 15 = .ok (.astore 5, 2) := by decide +kernel
theorem dL_follow_17 : decode cL_follow 17 = .ok (.iconst 1, 1) := by decide +kernel
theorem dL_follow_18 : decode cL_follow 18 = .ok (.ireturn, 1) := by decide +kernel
theorem dL_follow_19 : decode cL_follow 19 = .ok (.astore 5, 2) := by decide +kernel
theorem dL_follow_21 : decode cL_follow 21 = .ok (.iconst 2, 1) := by decide +kernel
theorem dL_follow_22 : decode cL_follow 22 = .ok (.ireturn, 1) := by decide +kernel
theorem dL_follow_23 : decode cL_follow 23 = .ok (.iconst 0, 1) := by decide +kernel
theorem dL_follow_24 : decode cL_follow 24 = .ok (.ireturn, 1) := by decide +kernel
theorem dL_pass_0 : decode cL_pass 0 = .ok (.aload_n 2, 1) := by decide +kernel
theorem dL_pass_1 : decode cL_pass 1 = .ok (.iconst 0, 1) := by decide +kernel
theorem dL_pass_2 : decode cL_pass 2 = .ok (.aload_n 0, 1) := by decide +kernel
theorem dL_pass_3 : decode cL_pass 3 = .ok (.iload_n 1, 1) := by decide +kernel
theorem dL_pass_4 : decode cL_pass 4 = .ok (.invokevirtual 36, 3) := by decide +kernel
theorem dL_pass_7 : decode cL_pass 7 = .ok (.i2l, 1) := by decide +kernel
theorem dL_pass_8 : decode cL_pass 8 = .ok (.lastore, 1) := by decide +kernel
theorem dL_pass_9 : decode cL_pass 9 = .ok (.goto 9, 3) := by decide +kernel
theorem dL_pass_12 : decode cL_pass 12 = .ok (.astore_n 3, 1) := by decide +kernel
theorem dL_pass_13 : decode cL_pass 13 = .ok (.iconst 1, 1) := by decide +kernel
theorem dL_pass_14 : decode cL_pass 14 = .ok (.ireturn, 1) := by decide +kernel
theorem dL_pass_15 : decode cL_pass 15 = .ok (.astore_n 3, 1) := by decide +kernel
theorem dL_pass_16 : decode cL_pass 16 = .ok (.iconst 2, 1) := by decide +kernel
theorem dL_pass_17 : decode cL_pass 17 = .ok (.ireturn, 1) := by decide +kernel
theorem dL_pass_18 : decode cL_pass 18 = .ok (.iconst 0, 1) := by decide +kernel
theorem dL_pass_19 : decode cL_pass 19 = .ok (.ireturn, 1) := by decide +kernel
theorem dL_season_0 : decode cL_season 0 = .ok (.aload_n 3, 1) := by decide +kernel
theorem dL_season_1 : decode cL_season 1 = .ok (.iconst 0, 1) := by decide +kernel
theorem dL_season_2 : decode cL_season 2 = .ok (.aload_n 0, 1) := by decide +kernel
theorem dL_season_3 : decode cL_season 3 = .ok (.iload_n 1, 1) := by decide +kernel
theorem dL_season_4 : decode cL_season 4 = .ok (.iload_n 2, 1) := by decide +kernel
theorem dL_season_5 : decode cL_season 5 = .ok (.invokevirtual 39, 3) := by decide +kernel
theorem dL_season_8 : decode cL_season 8 = .ok (.i2l, 1) := by decide +kernel
theorem dL_season_9 : decode cL_season 9 = .ok (.lastore, 1) := by decide +kernel
theorem dL_season_10 : decode cL_season 10 = .ok (.goto 11, 3) := by decide +kernel
theorem dL_season_13 : decode cL_season 13 = .ok (.astore 4, 2) := by decide +kernel
theorem dL_season_15 : decode cL_season 15 = .ok (.iconst 1, 1) := by decide +kernel
theorem dL_season_16 : decode cL_season 16 = .ok (.ireturn, 1) := by decide +kernel
theorem dL_season_17 : decode cL_season 17 = .ok (.astore 4, 2) := by decide +kernel
theorem dL_season_19 : decode cL_season 19 = .ok (.iconst 2, 1) := by decide +kernel
theorem dL_season_20 : decode cL_season 20 = .ok (.ireturn, 1) := by decide +kernel
theorem dL_season_21 : decode cL_season 21 = .ok (.iconst 0, 1) := by decide +kernel
theorem dL_season_22 : decode cL_season 22 = .ok (.ireturn, 1) := by decide +kernel
theorem dL_set_0 : decode cL_set 0 = .ok (.aload_n 3, 1) := by decide +kernel
theorem dL_set_1 : decode cL_set 1 = .ok (.iconst 0, 1) := by decide +kernel
theorem dL_set_2 : decode cL_set 2 = .ok (.aload_n 0, 1) := by decide +kernel
theorem dL_set_3 : decode cL_set 3 = .ok (.iload_n 1, 1) := by decide +kernel
theorem dL_set_4 : decode cL_set 4 = .ok (.iload_n 2, 1) := by decide +kernel
theorem dL_set_5 : decode cL_set 5 = .ok (.invokevirtual 42, 3) := by decide +kernel
theorem dL_set_8 : decode cL_set 8 = .ok (.i2l, 1) := by decide +kernel
theorem dL_set_9 : decode cL_set 9 = .ok (.lastore, 1) := by decide +kernel
theorem dL_set_10 : decode cL_set 10 = .ok (.goto 11, 3) := by decide +kernel
theorem dL_set_13 : decode cL_set 13 = .ok (.astore 4, 2) := by decide +kernel
theorem dL_set_15 : decode cL_set 15 = .ok (.iconst 1, 1) := by decide +kernel
theorem dL_set_16 : decode cL_set 16 = .ok (.ireturn, 1) := by decide +kernel
theorem dL_set_17 : decode cL_set 17 = .ok (.astore 4, 2) := by decide +kernel
theorem dL_set_19 : decode cL_set 19 = .ok (.iconst 2, 1) := by decide +kernel
theorem dL_set_20 : decode cL_set 20 = .ok (.ireturn, 1) := by decide +kernel
theorem dL_set_21 : decode cL_set 21 = .ok (.iconst 0, 1) := by decide +kernel
theorem dL_set_22 : decode cL_set 22 = .ok (.ireturn, 1) := by decide +kernel
theorem dL_append_0 : decode cL_append 0 = .ok (.aload_n 2, 1) := by decide +kernel
theorem dL_append_1 : decode cL_append 1 = .ok (.iconst 0, 1) := by decide +kernel
theorem dL_append_2 : decode cL_append 2 = .ok (.aload_n 0, 1) := by decide +kernel
theorem dL_append_3 : decode cL_append 3 = .ok (.iload_n 1, 1) := by decide +kernel
theorem dL_append_4 : decode cL_append 4 = .ok (.invokevirtual 45, 3) := by decide +kernel
theorem dL_append_7 : decode cL_append 7 = .ok (.i2l, 1) := by decide +kernel
theorem dL_append_8 : decode cL_append 8 = .ok (.lastore, 1) := by decide +kernel
theorem dL_append_9 : decode cL_append 9 = .ok (.goto 9, 3) := by decide +kernel
theorem dL_append_12 : decode cL_append 12 = .ok (.astore_n 3, 1) := by decide +kernel
theorem dL_append_13 : decode cL_append 13 = .ok (.iconst 1, 1) := by decide +kernel
theorem dL_append_14 : decode cL_append 14 = .ok (.ireturn, 1) := by decide +kernel
theorem dL_append_15 : decode cL_append 15 = .ok (.astore_n 3, 1) := by decide +kernel
theorem dL_append_16 : decode cL_append 16 = .ok (.iconst 2, 1) := by decide +kernel
theorem dL_append_17 : decode cL_append 17 = .ok (.ireturn, 1) := by decide +kernel
theorem dL_append_18 : decode cL_append 18 = .ok (.iconst 0, 1) := by decide +kernel
theorem dL_append_19 : decode cL_append 19 = .ok (.ireturn, 1) := by decide +kernel
theorem dL_run_0 : decode cL_run 0 = .ok (.aload_n 1, 1) := by decide +kernel
theorem dL_run_1 : decode cL_run 1 = .ok (.iconst 0, 1) := by decide +kernel
theorem dL_run_2 : decode cL_run 2 = .ok (.aload_n 0, 1) := by decide +kernel
theorem dL_run_3 : decode cL_run 3 = .ok (.invokevirtual 48, 3) := by decide +kernel
theorem dL_run_6 : decode cL_run 6 = .ok (.i2l, 1) := by decide +kernel
theorem dL_run_7 : decode cL_run 7 = .ok (.lastore, 1) := by decide +kernel
theorem dL_run_8 : decode cL_run 8 = .ok (.goto 6, 3) := by decide +kernel
theorem dL_run_11 : decode cL_run 11 = .ok (.astore_n 2, 1) := by decide +kernel
theorem dL_run_12 : decode cL_run 12 = .ok (.iconst 1, 1) := by decide +kernel
theorem dL_run_13 : decode cL_run 13 = .ok (.ireturn, 1) := by decide +kernel
theorem dL_run_14 : decode cL_run 14 = .ok (.iconst 0, 1) := by decide +kernel
theorem dL_run_15 : decode cL_run 15 = .ok (.ireturn, 1) := by decide +kernel
theorem dL_keep_0 : decode cL_keep 0 = .ok (.aload_n 2, 1) := by decide +kernel
theorem dL_keep_1 : decode cL_keep 1 = .ok (.iconst 0, 1) := by decide +kernel
theorem dL_keep_2 : decode cL_keep 2 = .ok (.aload_n 0, 1) := by decide +kernel
theorem dL_keep_3 : decode cL_keep 3 = .ok (.iload_n 1, 1) := by decide +kernel
theorem dL_keep_4 : decode cL_keep 4 = .ok (.invokevirtual 52, 3) := by decide +kernel
theorem dL_keep_7 : decode cL_keep 7 = .ok (.i2l, 1) := by decide +kernel
theorem dL_keep_8 : decode cL_keep 8 = .ok (.lastore, 1) := by decide +kernel
theorem dL_keep_9 : decode cL_keep 9 = .ok (.goto 6, 3) := by decide +kernel
theorem dL_keep_12 : decode cL_keep 12 = .ok (.astore_n 3, 1) := by decide +kernel
theorem dL_keep_13 : decode cL_keep 13 = .ok (.iconst 1, 1) := by decide +kernel
theorem dL_keep_14 : decode cL_keep 14 = .ok (.ireturn, 1) := by decide +kernel
theorem dL_keep_15 : decode cL_keep 15 = .ok (.iconst 0, 1) := by decide +kernel
theorem dL_keep_16 : decode cL_keep 16 = .ok (.ireturn, 1) := by decide +kernel
theorem dL_goBack_0 : decode cL_goBack 0 = .ok (.aload_n 2, 1) := by decide +kernel
theorem dL_goBack_1 : decode cL_goBack 1 = .ok (.iconst 0, 1) := by decide +kernel
theorem dL_goBack_2 : decode cL_goBack 2 = .ok (.aload_n 0, 1) := by decide +kernel
theorem dL_goBack_3 : decode cL_goBack 3 = .ok (.iload_n 1, 1) := by decide +kernel
theorem dL_goBack_4 : decode cL_goBack 4 = .ok (.invokevirtual 55, 3) := by decide +kernel
theorem dL_goBack_7 : decode cL_goBack 7 = .ok (.i2l, 1) := by decide +kernel
theorem dL_goBack_8 : decode cL_goBack 8 = .ok (.lastore, 1) := by decide +kernel
theorem dL_goBack_9 : decode cL_goBack 9 = .ok (.goto 9, 3) := by decide +kernel
theorem dL_goBack_12 : decode cL_goBack 12 = .ok (.astore_n 3, 1) := by decide +kernel
theorem dL_goBack_13 : decode cL_goBack 13 = .ok (.iconst 1, 1) := by decide +kernel
theorem dL_goBack_14 : decode cL_goBack 14 = .ok (.ireturn, 1) := by decide +kernel
theorem dL_goBack_15 : decode cL_goBack 15 = .ok (.astore_n 3, 1) := by decide +kernel
theorem dL_goBack_16 : decode cL_goBack 16 = .ok (.iconst 2, 1) := by decide +kernel
theorem dL_goBack_17 : decode cL_goBack 17 = .ok (.ireturn, 1) := by decide +kernel
theorem dL_goBack_18 : decode cL_goBack 18 = .ok (.iconst 0, 1) := by decide +kernel
theorem dL_goBack_19 : decode cL_goBack 19 = .ok (.ireturn, 1) := by decide +kernel
theorem dL_undo_0 : decode cL_undo 0 = .ok (.aload_n 1, 1) := by decide +kernel
theorem dL_undo_1 : decode cL_undo 1 = .ok (.iconst 0, 1) := by decide +kernel
theorem dL_undo_2 : decode cL_undo 2 = .ok (.aload_n 0, 1) := by decide +kernel
theorem dL_undo_3 : decode cL_undo 3 = .ok (.invokevirtual 58, 3) := by decide +kernel
theorem dL_undo_6 : decode cL_undo 6 = .ok (.i2l, 1) := by decide +kernel
theorem dL_undo_7 : decode cL_undo 7 = .ok (.lastore, 1) := by decide +kernel
theorem dL_undo_8 : decode cL_undo 8 = .ok (.goto 6, 3) := by decide +kernel
theorem dL_undo_11 : decode cL_undo 11 = .ok (.astore_n 2, 1) := by decide +kernel
theorem dL_undo_12 : decode cL_undo 12 = .ok (.iconst 1, 1) := by decide +kernel
theorem dL_undo_13 : decode cL_undo 13 = .ok (.ireturn, 1) := by decide +kernel
theorem dL_undo_14 : decode cL_undo 14 = .ok (.iconst 0, 1) := by decide +kernel
theorem dL_undo_15 : decode cL_undo 15 = .ok (.ireturn, 1) := by decide +kernel
theorem dL_keyOf_0 : decode cL_keyOf 0 = .ok (.aload 4, 2) := by decide +kernel
theorem dL_keyOf_2 : decode cL_keyOf 2 = .ok (.iconst 0, 1) := by decide +kernel
theorem dL_keyOf_3 : decode cL_keyOf 3 = .ok (.aload_n 0, 1) := by decide +kernel
theorem dL_keyOf_4 : decode cL_keyOf 4 = .ok (.iload_n 1, 1) := by decide +kernel
theorem dL_keyOf_5 : decode cL_keyOf 5 = .ok (.iload_n 2, 1) := by decide +kernel
theorem dL_keyOf_6 : decode cL_keyOf 6 = .ok (.iload_n 3, 1) := by decide +kernel
theorem dL_keyOf_7 : decode cL_keyOf 7 = .ok (.invokevirtual 61, 3) := by decide +kernel
theorem dL_keyOf_10 : decode cL_keyOf 10 = .ok (.i2l, 1) := by decide +kernel
theorem dL_keyOf_11 : decode cL_keyOf 11 = .ok (.lastore, 1) := by decide +kernel
theorem dL_keyOf_12 : decode cL_keyOf 12 = .ok (.goto 11, 3) := by decide +kernel
theorem dL_keyOf_15 : decode cL_keyOf 15 = .ok (.astore 5, 2) := by decide +kernel
theorem dL_keyOf_17 : decode cL_keyOf 17 = .ok (.iconst 1, 1) := by decide +kernel
theorem dL_keyOf_18 : decode cL_keyOf 18 = .ok (.ireturn, 1) := by decide +kernel
theorem dL_keyOf_19 : decode cL_keyOf 19 = .ok (.astore 5, 2) := by decide +kernel
theorem dL_keyOf_21 : decode cL_keyOf 21 = .ok (.iconst 2, 1) := by decide +kernel
theorem dL_keyOf_22 : decode cL_keyOf 22 = .ok (.ireturn, 1) := by decide +kernel
theorem dL_keyOf_23 : decode cL_keyOf 23 = .ok (.iconst 0, 1) := by decide +kernel
theorem dL_keyOf_24 : decode cL_keyOf 24 = .ok (.ireturn, 1) := by decide +kernel
theorem dL_kindOf_0 : decode cL_kindOf 0 = .ok (.aload_n 3, 1) := by decide +kernel
theorem dL_kindOf_1 : decode cL_kindOf 1 = .ok (.iconst 0, 1) := by decide +kernel
theorem dL_kindOf_2 : decode cL_kindOf 2 = .ok (.aload_n 0, 1) := by decide +kernel
theorem dL_kindOf_3 : decode cL_kindOf 3 = .ok (.iload_n 1, 1) := by decide +kernel
theorem dL_kindOf_4 : decode cL_kindOf 4 = .ok (.iload_n 2, 1) := by decide +kernel
theorem dL_kindOf_5 : decode cL_kindOf 5 = .ok (.invokevirtual 64, 3) := by decide +kernel
theorem dL_kindOf_8 : decode cL_kindOf 8 = .ok (.i2l, 1) := by decide +kernel
theorem dL_kindOf_9 : decode cL_kindOf 9 = .ok (.lastore, 1) := by decide +kernel
theorem dL_kindOf_10 : decode cL_kindOf 10 = .ok (.goto 11, 3) := by decide +kernel
theorem dL_kindOf_13 : decode cL_kindOf 13 = .ok (.astore 4, 2) := by decide +kernel
theorem dL_kindOf_15 : decode cL_kindOf 15 = .ok (.iconst 1, 1) := by decide +kernel
theorem dL_kindOf_16 : decode cL_kindOf 16 = .ok (.ireturn, 1) := by decide +kernel
theorem dL_kindOf_17 : decode cL_kindOf 17 = .ok (.astore 4, 2) := by decide +kernel
theorem dL_kindOf_19 : decode cL_kindOf 19 = .ok (.iconst 2, 1) := by decide +kernel
theorem dL_kindOf_20 : decode cL_kindOf 20 = .ok (.ireturn, 1) := by decide +kernel
theorem dL_kindOf_21 : decode cL_kindOf 21 = .ok (.iconst 0, 1) := by decide +kernel
theorem dL_kindOf_22 : decode cL_kindOf 22 = .ok (.ireturn, 1) := by decide +kernel
theorem dL_pile_0 : decode cL_pile 0 = .ok (.aload_n 3, 1) := by decide +kernel
theorem dL_pile_1 : decode cL_pile 1 = .ok (.iconst 0, 1) := by decide +kernel
theorem dL_pile_2 : decode cL_pile 2 = .ok (.aload_n 0, 1) := by decide +kernel
theorem dL_pile_3 : decode cL_pile 3 = .ok (.iload_n 1, 1) := by decide +kernel
theorem dL_pile_4 : decode cL_pile 4 = .ok (.iload_n 2, 1) := by decide +kernel
theorem dL_pile_5 : decode cL_pile 5 = .ok (.invokevirtual 67, 3) := by decide +kernel
theorem dL_pile_8 : decode cL_pile 8 = .ok (.i2l, 1) := by decide +kernel
theorem dL_pile_9 : decode cL_pile 9 = .ok (.lastore, 1) := by decide +kernel
theorem dL_pile_10 : decode cL_pile 10 = .ok (.goto 11, 3) := by decide +kernel
theorem dL_pile_13 : decode cL_pile 13 = .ok (.astore 4, 2) := by decide +kernel
theorem dL_pile_15 : decode cL_pile 15 = .ok (.iconst 1, 1) := by decide +kernel
theorem dL_pile_16 : decode cL_pile 16 = .ok (.ireturn, 1) := by decide +kernel
theorem dL_pile_17 : decode cL_pile 17 = .ok (.astore 4, 2) := by decide +kernel
theorem dL_pile_19 : decode cL_pile 19 = .ok (.iconst 2, 1) := by decide +kernel
theorem dL_pile_20 : decode cL_pile 20 = .ok (.ireturn, 1) := by decide +kernel
theorem dL_pile_21 : decode cL_pile 21 = .ok (.iconst 0, 1) := by decide +kernel
theorem dL_pile_22 : decode cL_pile 22 = .ok (.ireturn, 1) := by decide +kernel
theorem dL_count_0 : decode cL_count 0 = .ok (.aload_n 2, 1) := by decide +kernel
theorem dL_count_1 : decode cL_count 1 = .ok (.iconst 0, 1) := by decide +kernel
theorem dL_count_2 : decode cL_count 2 = .ok (.aload_n 0, 1) := by decide +kernel
theorem dL_count_3 : decode cL_count 3 = .ok (.iload_n 1, 1) := by decide +kernel
theorem dL_count_4 : decode cL_count 4 = .ok (.invokevirtual 70, 3) := by decide +kernel
theorem dL_count_7 : decode cL_count 7 = .ok (.i2l, 1) := by decide +kernel
theorem dL_count_8 : decode cL_count 8 = .ok (.lastore, 1) := by decide +kernel
theorem dL_count_9 : decode cL_count 9 = .ok (.goto 6, 3) := by decide +kernel
theorem dL_count_12 : decode cL_count 12 = .ok (.astore_n 3, 1) := by decide +kernel
theorem dL_count_13 : decode cL_count 13 = .ok (.iconst 1, 1) := by decide +kernel
theorem dL_count_14 : decode cL_count 14 = .ok (.ireturn, 1) := by decide +kernel
theorem dL_count_15 : decode cL_count 15 = .ok (.iconst 0, 1) := by decide +kernel
theorem dL_count_16 : decode cL_count 16 = .ok (.ireturn, 1) := by decide +kernel
theorem dL_setting_0 : decode cL_setting 0 = .ok (.aload_n 2, 1) := by decide +kernel
theorem dL_setting_1 : decode cL_setting 1 = .ok (.iconst 0, 1) := by decide +kernel
theorem dL_setting_2 : decode cL_setting 2 = .ok (.aload_n 0, 1) := by decide +kernel
theorem dL_setting_3 : decode cL_setting 3 = .ok (.iload_n 1, 1) := by decide +kernel
theorem dL_setting_4 : decode cL_setting 4 = .ok (.invokevirtual 73, 3) := by decide +kernel
theorem dL_setting_7 : decode cL_setting 7 = .ok (.i2l, 1) := by decide +kernel
theorem dL_setting_8 : decode cL_setting 8 = .ok (.lastore, 1) := by decide +kernel
theorem dL_setting_9 : decode cL_setting 9 = .ok (.goto 6, 3) := by decide +kernel
theorem dL_setting_12 : decode cL_setting 12 = .ok (.astore_n 3, 1) := by decide +kernel
theorem dL_setting_13 : decode cL_setting 13 = .ok (.iconst 1, 1) := by decide +kernel
theorem dL_setting_14 : decode cL_setting 14 = .ok (.ireturn, 1) := by decide +kernel
theorem dL_setting_15 : decode cL_setting 15 = .ok (.iconst 0, 1) := by decide +kernel
theorem dL_setting_16 : decode cL_setting 16 = .ok (.ireturn, 1) := by decide +kernel
theorem dL_ifAsked_0 : decode cL_ifAsked 0 = .ok (.aload_n 2, 1) := by decide +kernel
theorem dL_ifAsked_1 : decode cL_ifAsked 1 = .ok (.iconst 0, 1) := by decide +kernel
theorem dL_ifAsked_2 : decode cL_ifAsked 2 = .ok (.aload_n 0, 1) := by decide +kernel
theorem dL_ifAsked_3 : decode cL_ifAsked 3 = .ok (.iload_n 1, 1) := by decide +kernel
theorem dL_ifAsked_4 : decode cL_ifAsked 4 = .ok (.invokevirtual 76, 3) := by decide +kernel
theorem dL_ifAsked_7 : decode cL_ifAsked 7 = .ok (.i2l, 1) := by decide +kernel
theorem dL_ifAsked_8 : decode cL_ifAsked 8 = .ok (.lastore, 1) := by decide +kernel
theorem dL_ifAsked_9 : decode cL_ifAsked 9 = .ok (.goto 6, 3) := by decide +kernel
theorem dL_ifAsked_12 : decode cL_ifAsked 12 = .ok (.astore_n 3, 1) := by decide +kernel
theorem dL_ifAsked_13 : decode cL_ifAsked 13 = .ok (.iconst 1, 1) := by decide +kernel
theorem dL_ifAsked_14 : decode cL_ifAsked 14 = .ok (.ireturn, 1) := by decide +kernel
theorem dL_ifAsked_15 : decode cL_ifAsked 15 = .ok (.iconst 0, 1) := by decide +kernel
theorem dL_ifAsked_16 : decode cL_ifAsked 16 = .ok (.ireturn, 1) := by decide +kernel
theorem dL_keyIn_0 : decode cL_keyIn 0 = .ok (.aload_n 2, 1) := by decide +kernel
theorem dL_keyIn_1 : decode cL_keyIn 1 = .ok (.iconst 0, 1) := by decide +kernel
theorem dL_keyIn_2 : decode cL_keyIn 2 = .ok (.aload_n 0, 1) := by decide +kernel
theorem dL_keyIn_3 : decode cL_keyIn 3 = .ok (.iload_n 1, 1) := by decide +kernel
theorem dL_keyIn_4 : decode cL_keyIn 4 = .ok (.invokevirtual 79, 3) := by decide +kernel
theorem dL_keyIn_7 : decode cL_keyIn 7 = .ok (.i2l, 1) := by decide +kernel
theorem dL_keyIn_8 : decode cL_keyIn 8 = .ok (.lastore, 1) := by decide +kernel
theorem dL_keyIn_9 : decode cL_keyIn 9 = .ok (.goto 6, 3) := by decide +kernel
theorem dL_keyIn_12 : decode cL_keyIn 12 = .ok (.astore_n 3, 1) := by decide +kernel
theorem dL_keyIn_13 : decode cL_keyIn 13 = .ok (.iconst 1, 1) := by decide +kernel
theorem dL_keyIn_14 : decode cL_keyIn 14 = .ok (.ireturn, 1) := by decide +kernel
theorem dL_keyIn_15 : decode cL_keyIn 15 = .ok (.iconst 0, 1) := by decide +kernel
theorem dL_keyIn_16 : decode cL_keyIn 16 = .ok (.ireturn, 1) := by decide +kernel
theorem dL_coming_0 : decode cL_coming 0 = .ok (.aload_n 3, 1) := by decide +kernel
theorem dL_coming_1 : decode cL_coming 1 = .ok (.iconst 0, 1) := by decide +kernel
theorem dL_coming_2 : decode cL_coming 2 = .ok (.aload_n 0, 1) := by decide +kernel
theorem dL_coming_3 : decode cL_coming 3 = .ok (.iload_n 1, 1) := by decide +kernel
theorem dL_coming_4 : decode cL_coming 4 = .ok (.iload_n 2, 1) := by decide +kernel
theorem dL_coming_5 : decode cL_coming 5 = .ok (.invokevirtual 82, 3) := by decide +kernel
theorem dL_coming_8 : decode cL_coming 8 = .ok (.i2l, 1) := by decide +kernel
theorem dL_coming_9 : decode cL_coming 9 = .ok (.lastore, 1) := by decide +kernel
theorem dL_coming_10 : decode cL_coming 10 = .ok (.goto 11, 3) := by decide +kernel
theorem dL_coming_13 : decode cL_coming 13 = .ok (.astore 4, 2) := by decide +kernel
theorem dL_coming_15 : decode cL_coming 15 = .ok (.iconst 1, 1) := by decide +kernel
theorem dL_coming_16 : decode cL_coming 16 = .ok (.ireturn, 1) := by decide +kernel
theorem dL_coming_17 : decode cL_coming 17 = .ok (.astore 4, 2) := by decide +kernel
theorem dL_coming_19 : decode cL_coming 19 = .ok (.iconst 2, 1) := by decide +kernel
theorem dL_coming_20 : decode cL_coming 20 = .ok (.ireturn, 1) := by decide +kernel
theorem dL_coming_21 : decode cL_coming 21 = .ok (.iconst 0, 1) := by decide +kernel
theorem dL_coming_22 : decode cL_coming 22 = .ok (.ireturn, 1) := by decide +kernel
theorem dL_longest_0 : decode cL_longest 0 = .ok (.aload_n 2, 1) := by decide +kernel
theorem dL_longest_1 : decode cL_longest 1 = .ok (.iconst 0, 1) := by decide +kernel
theorem dL_longest_2 : decode cL_longest 2 = .ok (.aload_n 0, 1) := by decide +kernel
theorem dL_longest_3 : decode cL_longest 3 = .ok (.iload_n 1, 1) := by decide +kernel
theorem dL_longest_4 : decode cL_longest 4 = .ok (.invokevirtual 85, 3) := by decide +kernel
theorem dL_longest_7 : decode cL_longest 7 = .ok (.i2l, 1) := by decide +kernel
theorem dL_longest_8 : decode cL_longest 8 = .ok (.lastore, 1) := by decide +kernel
theorem dL_longest_9 : decode cL_longest 9 = .ok (.goto 6, 3) := by decide +kernel
theorem dL_longest_12 : decode cL_longest 12 = .ok (.astore_n 3, 1) := by decide +kernel
theorem dL_longest_13 : decode cL_longest 13 = .ok (.iconst 1, 1) := by decide +kernel
theorem dL_longest_14 : decode cL_longest 14 = .ok (.ireturn, 1) := by decide +kernel
theorem dL_longest_15 : decode cL_longest 15 = .ok (.iconst 0, 1) := by decide +kernel
theorem dL_longest_16 : decode cL_longest 16 = .ok (.ireturn, 1) := by decide +kernel
theorem dL_ifFollowed_0 : decode cL_ifFollowed 0 = .ok (.aload 4, 2) := by decide +kernel
theorem dL_ifFollowed_2 : decode cL_ifFollowed 2 = .ok (.iconst 0, 1) := by decide +kernel
theorem dL_ifFollowed_3 : decode cL_ifFollowed 3 = .ok (.aload_n 0, 1) := by decide +kernel
theorem dL_ifFollowed_4 : decode cL_ifFollowed 4 = .ok (.iload_n 1, 1) := by decide +kernel
theorem dL_ifFollowed_5 : decode cL_ifFollowed 5 = .ok (.iload_n 2, 1) := by decide +kernel
theorem dL_ifFollowed_6 : decode cL_ifFollowed 6 = .ok (.iload_n 3, 1) := by decide +kernel
theorem dL_ifFollowed_7 : decode cL_ifFollowed 7 = .ok (.invokevirtual 88, 3) := by decide +kernel
theorem dL_ifFollowed_10 : decode cL_ifFollowed 10 = .ok (.i2l, 1) := by decide +kernel
theorem dL_ifFollowed_11 : decode cL_ifFollowed 11 = .ok (.lastore, 1) := by decide +kernel
theorem dL_ifFollowed_12 : decode cL_ifFollowed 12 = .ok (.goto 11, 3) := by decide +kernel
theorem dL_ifFollowed_15 : decode cL_ifFollowed 15 = .ok (.astore 5, 2) := by decide +kernel
theorem dL_ifFollowed_17 : decode cL_ifFollowed 17 = .ok (.iconst 1, 1) := by decide +kernel
theorem dL_ifFollowed_18 : decode cL_ifFollowed 18 = .ok (.ireturn, 1) := by decide +kernel
theorem dL_ifFollowed_19 : decode cL_ifFollowed 19 = .ok (.astore 5, 2) := by decide +kernel
theorem dL_ifFollowed_21 : decode cL_ifFollowed 21 = .ok (.iconst 2, 1) := by decide +kernel
theorem dL_ifFollowed_22 : decode cL_ifFollowed 22 = .ok (.ireturn, 1) := by decide +kernel
theorem dL_ifFollowed_23 : decode cL_ifFollowed 23 = .ok (.iconst 0, 1) := by decide +kernel
theorem dL_ifFollowed_24 : decode cL_ifFollowed 24 = .ok (.ireturn, 1) := by decide +kernel
theorem dL_meanAge_0 : decode cL_meanAge 0 = .ok (.aload_n 2, 1) := by decide +kernel
theorem dL_meanAge_1 : decode cL_meanAge 1 = .ok (.iconst 0, 1) := by decide +kernel
theorem dL_meanAge_2 : decode cL_meanAge 2 = .ok (.aload_n 0, 1) := by decide +kernel
theorem dL_meanAge_3 : decode cL_meanAge 3 = .ok (.iload_n 1, 1) := by decide +kernel
theorem dL_meanAge_4 : decode cL_meanAge 4 = .ok (.invokevirtual 91, 3) := by decide +kernel
theorem dL_meanAge_7 : decode cL_meanAge 7 = .ok (.f2d, 1) := by decide +kernel
theorem dL_meanAge_8 : decode cL_meanAge 8 = .ok (.dastore, 1) := by decide +kernel
theorem dL_meanAge_9 : decode cL_meanAge 9 = .ok (.goto 6, 3) := by decide +kernel
theorem dL_meanAge_12 : decode cL_meanAge 12 = .ok (.astore_n 3, 1) := by decide +kernel
theorem dL_meanAge_13 : decode cL_meanAge 13 = .ok (.iconst 1, 1) := by decide +kernel
theorem dL_meanAge_14 : decode cL_meanAge 14 = .ok (.ireturn, 1) := by decide +kernel
theorem dL_meanAge_15 : decode cL_meanAge 15 = .ok (.iconst 0, 1) := by decide +kernel
theorem dL_meanAge_16 : decode cL_meanAge 16 = .ok (.ireturn, 1) := by decide +kernel
theorem dL_law_0 : decode cL_law 0 = .ok (.new 8, 3) := by decide +kernel
theorem dL_law_3 : decode cL_law 3 = .ok (.dup, 1) := by decide +kernel
theorem dL_law_4 : decode cL_law 4 = .ok (.invokespecial 95, 3) := by decide +kernel
theorem dL_law_7 : decode cL_law 7 = .ok (.astore_n 1, 1) := by decide +kernel
theorem dL_law_8 : decode cL_law 8 = .ok (.new 96, 3) := by decide +kernel
theorem dL_law_11 : decode cL_law 11 = .ok (.dup, 1) := by decide +kernel
theorem dL_law_12 : decode cL_law 12 = .ok (.invokespecial 98, 3) := by decide +kernel
theorem dL_law_15 : decode cL_law 15 = .ok (.astore_n 2, 1) := by decide +kernel
theorem dL_law_16 : decode cL_law 16 = .ok (.iconst 1, 1) := by decide +kernel
theorem dL_law_17 : decode cL_law 17 = .ok (.newarray .long, 2) := by decide +kernel
theorem dL_law_19 : decode cL_law 19 = .ok (.astore_n 3, 1) := by decide +kernel
theorem dL_law_20 : decode cL_law 20 = .ok (.iconst 1, 1) := by decide +kernel
theorem dL_law_21 : decode cL_law 21 = .ok (.newarray .double, 2) := by decide +kernel
theorem dL_law_23 : decode cL_law 23 = .ok (.astore 4, 2) := by decide +kernel
theorem dL_law_25 : decode cL_law 25 = .ok (.iconst 0, 1) := by decide +kernel
theorem dL_law_26 : decode cL_law 26 = .ok (.istore 5, 2) := by decide +kernel
theorem dL_law_28 : decode cL_law 28 = .ok (.iload 5, 2) := by decide +kernel
theorem dL_law_30 : decode cL_law 30 = .ok (.aload_n 0, 1) := by decide +kernel
theorem dL_law_31 : decode cL_law 31 = .ok (.arraylength, 1) := by decide +kernel
theorem dL_law_32 : decode cL_law 32 = .ok (.iconst 4, 1) := by decide +kernel
theorem dL_law_33 : decode cL_law 33 = .ok (.isub, 1) := by decide +kernel
theorem dL_law_34 : decode cL_law 34 = .ok (.if_icmp .gt 1812, 3) := by decide +kernel
theorem dL_law_37 : decode cL_law 37 = .ok (.aload_n 0, 1) := by decide +kernel
theorem dL_law_38 : decode cL_law 38 = .ok (.iload 5, 2) := by decide +kernel
theorem dL_law_40 : decode cL_law 40 = .ok (.iaload, 1) := by decide +kernel
theorem dL_law_41 : decode cL_law 41 = .ok (.bipush 31, 2) := by decide +kernel
theorem dL_law_43 : decode cL_law 43 = .ok (.iand, 1) := by decide +kernel
theorem dL_law_44 : decode cL_law 44 = .ok (.tableswitch 1796 0 29 #[136, 192, 260, 328, 396, 452, 532, 588, 656, 724, 780, 793, 806, 850, 906, 962, 1006, 1086, 1154, 1222, 1278, 1334, 1390, 1446, 1514, 1570, 1650, 1663, 1704, 1782], 136) := by decide +kernel
theorem dL_law_180 : decode cL_law 180 = .ok (.aload_n 1, 1) := by decide +kernel
theorem dL_law_181 : decode cL_law 181 = .ok (.aload_n 0, 1) := by decide +kernel
theorem dL_law_182 : decode cL_law 182 = .ok (.iload 5, 2) := by decide +kernel
theorem dL_law_184 : decode cL_law 184 = .ok (.iconst 1, 1) := by decide +kernel
theorem dL_law_185 : decode cL_law 185 = .ok (.iadd, 1) := by decide +kernel
theorem dL_law_186 : decode cL_law 186 = .ok (.iaload, 1) := by decide +kernel
theorem dL_law_187 : decode cL_law 187 = .ok (.aload_n 3, 1) := by decide +kernel
theorem dL_law_188 : decode cL_law 188 = .ok (.invokestatic 99, 3) := by decide +kernel
theorem dL_law_191 : decode cL_law 191 = .ok (.istore 6, 2) := by decide +kernel
theorem dL_law_193 : decode cL_law 193 = .ok (.aload_n 2, 1) := by decide +kernel
theorem dL_law_194 : decode cL_law 194 = .ok (.aload_n 0, 1) := by decide +kernel
theorem dL_law_195 : decode cL_law 195 = .ok (.iload 5, 2) := by decide +kernel
theorem dL_law_197 : decode cL_law 197 = .ok (.iconst 1, 1) := by decide +kernel
theorem dL_law_198 : decode cL_law 198 = .ok (.iadd, 1) := by decide +kernel
theorem dL_law_199 : decode cL_law 199 = .ok (.iaload, 1) := by decide +kernel
theorem dL_law_200 : decode cL_law 200 = .ok (.invokevirtual 104, 3) := by decide +kernel
theorem dL_law_203 : decode cL_law 203 = .ok (.istore 7, 2) := by decide +kernel
theorem dL_law_205 : decode cL_law 205 = .ok (.aload_n 2, 1) := by decide +kernel
theorem dL_law_206 : decode cL_law 206 = .ok (.invokevirtual 105, 3) := by decide +kernel
theorem dL_law_209 : decode cL_law 209 = .ok (.iload 6, 2) := by decide +kernel
theorem dL_law_211 : decode cL_law 211 = .ok (.if_icmp .eq 5, 3) := by decide +kernel
theorem dL_law_214 : decode cL_law 214 = .ok (.iconst 0, 1) := by decide +kernel
theorem dL_law_215 : decode cL_law 215 = .ok (.ireturn, 1) := by decide +kernel
theorem dL_law_216 : decode cL_law 216 = .ok (.iload 6, 2) := by decide +kernel
theorem dL_law_218 : decode cL_law 218 = .ok (.ifCond .ne 15, 3) := by decide +kernel
theorem dL_law_221 : decode cL_law 221 = .ok (.aload_n 3, 1) := by decide +kernel
theorem dL_law_222 : decode cL_law 222 = .ok (.iconst 0, 1) := by decide +kernel
theorem dL_law_223 : decode cL_law 223 = .ok (.laload, 1) := by decide +kernel
theorem dL_law_224 : decode cL_law 224 = .ok (.iload 7, 2) := by decide +kernel
theorem dL_law_226 : decode cL_law 226 = .ok (.i2l, 1) := by decide +kernel
theorem dL_law_227 : decode cL_law 227 = .ok (.lcmp, 1) := by decide +kernel
theorem dL_law_228 : decode cL_law 228 = .ok (.ifCond .eq 5, 3) := by decide +kernel
theorem dL_law_231 : decode cL_law 231 = .ok (.iconst 0, 1) := by decide +kernel
theorem dL_law_232 : decode cL_law 232 = .ok (.ireturn, 1) := by decide +kernel
theorem dL_law_233 : decode cL_law 233 = .ok (.goto 1607, 3) := by decide +kernel
theorem dL_law_236 : decode cL_law 236 = .ok (.aload_n 1, 1) := by decide +kernel
theorem dL_law_237 : decode cL_law 237 = .ok (.aload_n 0, 1) := by decide +kernel
theorem dL_law_238 : decode cL_law 238 = .ok (.iload 5, 2) := by decide +kernel
theorem dL_law_240 : decode cL_law 240 = .ok (.iconst 1, 1) := by decide +kernel
theorem dL_law_241 : decode cL_law 241 = .ok (.iadd, 1) := by decide +kernel
theorem dL_law_242 : decode cL_law 242 = .ok (.iaload, 1) := by decide +kernel
theorem dL_law_243 : decode cL_law 243 = .ok (.aload_n 0, 1) := by decide +kernel
theorem dL_law_244 : decode cL_law 244 = .ok (.iload 5, 2) := by decide +kernel
theorem dL_law_246 : decode cL_law 246 = .ok (.iconst 2, 1) := by decide +kernel
theorem dL_law_247 : decode cL_law 247 = .ok (.iadd, 1) := by decide +kernel
theorem dL_law_248 : decode cL_law 248 = .ok (.iaload, 1) := by decide +kernel
theorem dL_law_249 : decode cL_law 249 = .ok (.aload_n 3, 1) := by decide +kernel
theorem dL_law_250 : decode cL_law 250 = .ok (.invokestatic 108, 3) := by decide +kernel
theorem dL_law_253 : decode cL_law 253 = .ok (.istore 6, 2) := by decide +kernel
theorem dL_law_255 : decode cL_law 255 = .ok (.aload_n 2, 1) := by decide +kernel
theorem dL_law_256 : decode cL_law 256 = .ok (.aload_n 0, 1) := by decide +kernel
theorem dL_law_257 : decode cL_law 257 = .ok (.iload 5, 2) := by decide +kernel
theorem dL_law_259 : decode cL_law 259 = .ok (.iconst 1, 1) := by decide +kernel
theorem dL_law_260 : decode cL_law 260 = .ok (.iadd, 1) := by decide +kernel
theorem dL_law_261 : decode cL_law 261 = .ok (.iaload, 1) := by decide +kernel
theorem dL_law_262 : decode cL_law 262 = .ok (.aload_n 0, 1) := by decide +kernel
theorem dL_law_263 : decode cL_law 263 = .ok (.iload 5, 2) := by decide +kernel
theorem dL_law_265 : decode cL_law 265 = .ok (.iconst 2, 1) := by decide +kernel
theorem dL_law_266 : decode cL_law 266 = .ok (.iadd, 1) := by decide +kernel
theorem dL_law_267 : decode cL_law 267 = .ok (.iaload, 1) := by decide +kernel
theorem dL_law_268 : decode cL_law 268 = .ok (.invokevirtual 111, 3) := by decide +kernel
theorem dL_law_271 : decode cL_law 271 = .ok (.istore 7, 2) := by decide +kernel
theorem dL_law_273 : decode cL_law 273 = .ok (.aload_n 2, 1) := by decide +kernel
theorem dL_law_274 : decode cL_law 274 = .ok (.invokevirtual 105, 3) := by decide +kernel
theorem dL_law_277 : decode cL_law 277 = .ok (.iload 6, 2) := by decide +kernel
theorem dL_law_279 : decode cL_law 279 = .ok (.if_icmp .eq 5, 3) := by decide +kernel
theorem dL_law_282 : decode cL_law 282 = .ok (.iconst 0, 1) := by decide +kernel
theorem dL_law_283 : decode cL_law 283 = .ok (.ireturn, 1) := by decide +kernel
theorem dL_law_284 : decode cL_law 284 = .ok (.iload 6, 2) := by decide +kernel
theorem dL_law_286 : decode cL_law 286 = .ok (.ifCond .ne 15, 3) := by decide +kernel
theorem dL_law_289 : decode cL_law 289 = .ok (.aload_n 3, 1) := by decide +kernel
theorem dL_law_290 : decode cL_law 290 = .ok (.iconst 0, 1) := by decide +kernel
theorem dL_law_291 : decode cL_law 291 = .ok (.laload, 1) := by decide +kernel
theorem dL_law_292 : decode cL_law 292 = .ok (.iload 7, 2) := by decide +kernel
theorem dL_law_294 : decode cL_law 294 = .ok (.i2l, 1) := by decide +kernel
theorem dL_law_295 : decode cL_law 295 = .ok (.lcmp, 1) := by decide +kernel
theorem dL_law_296 : decode cL_law 296 = .ok (.ifCond .eq 5, 3) := by decide +kernel
theorem dL_law_299 : decode cL_law 299 = .ok (.iconst 0, 1) := by decide +kernel
theorem dL_law_300 : decode cL_law 300 = .ok (.ireturn, 1) := by decide +kernel
theorem dL_law_301 : decode cL_law 301 = .ok (.goto 1539, 3) := by decide +kernel
theorem dL_law_304 : decode cL_law 304 = .ok (.aload_n 1, 1) := by decide +kernel
theorem dL_law_305 : decode cL_law 305 = .ok (.aload_n 0, 1) := by decide +kernel
theorem dL_law_306 : decode cL_law 306 = .ok (.iload 5, 2) := by decide +kernel
theorem dL_law_308 : decode cL_law 308 = .ok (.iconst 1, 1) := by decide +kernel
theorem dL_law_309 : decode cL_law 309 = .ok (.iadd, 1) := by decide +kernel
theorem dL_law_310 : decode cL_law 310 = .ok (.iaload, 1) := by decide +kernel
theorem dL_law_311 : decode cL_law 311 = .ok (.aload_n 0, 1) := by decide +kernel
theorem dL_law_312 : decode cL_law 312 = .ok (.iload 5, 2) := by decide +kernel
theorem dL_law_314 : decode cL_law 314 = .ok (.iconst 2, 1) := by decide +kernel
theorem dL_law_315 : decode cL_law 315 = .ok (.iadd, 1) := by decide +kernel
theorem dL_law_316 : decode cL_law 316 = .ok (.iaload, 1) := by decide +kernel
theorem dL_law_317 : decode cL_law 317 = .ok (.aload_n 3, 1) := by decide +kernel
theorem dL_law_318 : decode cL_law 318 = .ok (.invokestatic 112, 3) := by decide +kernel
theorem dL_law_321 : decode cL_law 321 = .ok (.istore 6, 2) := by decide +kernel
theorem dL_law_323 : decode cL_law 323 = .ok (.aload_n 2, 1) := by decide +kernel
theorem dL_law_324 : decode cL_law 324 = .ok (.aload_n 0, 1) := by decide +kernel
theorem dL_law_325 : decode cL_law 325 = .ok (.iload 5, 2) := by decide +kernel
theorem dL_law_327 : decode cL_law 327 = .ok (.iconst 1, 1) := by decide +kernel
theorem dL_law_328 : decode cL_law 328 = .ok (.iadd, 1) := by decide +kernel
theorem dL_law_329 : decode cL_law 329 = .ok (.iaload, 1) := by decide +kernel
theorem dL_law_330 : decode cL_law 330 = .ok (.aload_n 0, 1) := by decide +kernel
theorem dL_law_331 : decode cL_law 331 = .ok (.iload 5, 2) := by decide +kernel
theorem dL_law_333 : decode cL_law 333 = .ok (.iconst 2, 1) := by decide +kernel
theorem dL_law_334 : decode cL_law 334 = .ok (.iadd, 1) := by decide +kernel
theorem dL_law_335 : decode cL_law 335 = .ok (.iaload, 1) := by decide +kernel
theorem dL_law_336 : decode cL_law 336 = .ok (.invokevirtual 114, 3) := by decide +kernel
theorem dL_law_339 : decode cL_law 339 = .ok (.istore 7, 2) := by decide +kernel
theorem dL_law_341 : decode cL_law 341 = .ok (.aload_n 2, 1) := by decide +kernel
theorem dL_law_342 : decode cL_law 342 = .ok (.invokevirtual 105, 3) := by decide +kernel
theorem dL_law_345 : decode cL_law 345 = .ok (.iload 6, 2) := by decide +kernel
theorem dL_law_347 : decode cL_law 347 = .ok (.if_icmp .eq 5, 3) := by decide +kernel
theorem dL_law_350 : decode cL_law 350 = .ok (.iconst 0, 1) := by decide +kernel
theorem dL_law_351 : decode cL_law 351 = .ok (.ireturn, 1) := by decide +kernel
theorem dL_law_352 : decode cL_law 352 = .ok (.iload 6, 2) := by decide +kernel
theorem dL_law_354 : decode cL_law 354 = .ok (.ifCond .ne 15, 3) := by decide +kernel
theorem dL_law_357 : decode cL_law 357 = .ok (.aload_n 3, 1) := by decide +kernel
theorem dL_law_358 : decode cL_law 358 = .ok (.iconst 0, 1) := by decide +kernel
theorem dL_law_359 : decode cL_law 359 = .ok (.laload, 1) := by decide +kernel
theorem dL_law_360 : decode cL_law 360 = .ok (.iload 7, 2) := by decide +kernel
theorem dL_law_362 : decode cL_law 362 = .ok (.i2l, 1) := by decide +kernel
theorem dL_law_363 : decode cL_law 363 = .ok (.lcmp, 1) := by decide +kernel
theorem dL_law_364 : decode cL_law 364 = .ok (.ifCond .eq 5, 3) := by decide +kernel
theorem dL_law_367 : decode cL_law 367 = .ok (.iconst 0, 1) := by decide +kernel
theorem dL_law_368 : decode cL_law 368 = .ok (.ireturn, 1) := by decide +kernel
theorem dL_law_369 : decode cL_law 369 = .ok (.goto 1471, 3) := by decide +kernel
theorem dL_law_372 : decode cL_law 372 = .ok (.aload_n 1, 1) := by decide +kernel
theorem dL_law_373 : decode cL_law 373 = .ok (.aload_n 0, 1) := by decide +kernel
theorem dL_law_374 : decode cL_law 374 = .ok (.iload 5, 2) := by decide +kernel
theorem dL_law_376 : decode cL_law 376 = .ok (.iconst 1, 1) := by decide +kernel
theorem dL_law_377 : decode cL_law 377 = .ok (.iadd, 1) := by decide +kernel
theorem dL_law_378 : decode cL_law 378 = .ok (.iaload, 1) := by decide +kernel
theorem dL_law_379 : decode cL_law 379 = .ok (.aload_n 0, 1) := by decide +kernel
theorem dL_law_380 : decode cL_law 380 = .ok (.iload 5, 2) := by decide +kernel
theorem dL_law_382 : decode cL_law 382 = .ok (.iconst 2, 1) := by decide +kernel
theorem dL_law_383 : decode cL_law 383 = .ok (.iadd, 1) := by decide +kernel
theorem dL_law_384 : decode cL_law 384 = .ok (.iaload, 1) := by decide +kernel
theorem dL_law_385 : decode cL_law 385 = .ok (.aload_n 3, 1) := by decide +kernel
theorem dL_law_386 : decode cL_law 386 = .ok (.invokestatic 115, 3) := by decide +kernel
theorem dL_law_389 : decode cL_law 389 = .ok (.istore 6, 2) := by decide +kernel
theorem dL_law_391 : decode cL_law 391 = .ok (.aload_n 2, 1) := by decide +kernel
theorem dL_law_392 : decode cL_law 392 = .ok (.aload_n 0, 1) := by decide +kernel
theorem dL_law_393 : decode cL_law 393 = .ok (.iload 5, 2) := by decide +kernel
theorem dL_law_395 : decode cL_law 395 = .ok (.iconst 1, 1) := by decide +kernel
theorem dL_law_396 : decode cL_law 396 = .ok (.iadd, 1) := by decide +kernel
theorem dL_law_397 : decode cL_law 397 = .ok (.iaload, 1) := by decide +kernel
theorem dL_law_398 : decode cL_law 398 = .ok (.aload_n 0, 1) := by decide +kernel
theorem dL_law_399 : decode cL_law 399 = .ok (.iload 5, 2) := by decide +kernel
theorem dL_law_401 : decode cL_law 401 = .ok (.iconst 2, 1) := by decide +kernel
theorem dL_law_402 : decode cL_law 402 = .ok (.iadd, 1) := by decide +kernel
theorem dL_law_403 : decode cL_law 403 = .ok (.iaload, 1) := by decide +kernel
theorem dL_law_404 : decode cL_law 404 = .ok (.invokevirtual 117, 3) := by decide +kernel
theorem dL_law_407 : decode cL_law 407 = .ok (.istore 7, 2) := by decide +kernel
theorem dL_law_409 : decode cL_law 409 = .ok (.aload_n 2, 1) := by decide +kernel
theorem dL_law_410 : decode cL_law 410 = .ok (.invokevirtual 105, 3) := by decide +kernel
theorem dL_law_413 : decode cL_law 413 = .ok (.iload 6, 2) := by decide +kernel
theorem dL_law_415 : decode cL_law 415 = .ok (.if_icmp .eq 5, 3) := by decide +kernel
theorem dL_law_418 : decode cL_law 418 = .ok (.iconst 0, 1) := by decide +kernel
theorem dL_law_419 : decode cL_law 419 = .ok (.ireturn, 1) := by decide +kernel
theorem dL_law_420 : decode cL_law 420 = .ok (.iload 6, 2) := by decide +kernel
theorem dL_law_422 : decode cL_law 422 = .ok (.ifCond .ne 15, 3) := by decide +kernel
theorem dL_law_425 : decode cL_law 425 = .ok (.aload_n 3, 1) := by decide +kernel
theorem dL_law_426 : decode cL_law 426 = .ok (.iconst 0, 1) := by decide +kernel
theorem dL_law_427 : decode cL_law 427 = .ok (.laload, 1) := by decide +kernel
theorem dL_law_428 : decode cL_law 428 = .ok (.iload 7, 2) := by decide +kernel
theorem dL_law_430 : decode cL_law 430 = .ok (.i2l, 1) := by decide +kernel
theorem dL_law_431 : decode cL_law 431 = .ok (.lcmp, 1) := by decide +kernel
theorem dL_law_432 : decode cL_law 432 = .ok (.ifCond .eq 5, 3) := by decide +kernel
theorem dL_law_435 : decode cL_law 435 = .ok (.iconst 0, 1) := by decide +kernel
theorem dL_law_436 : decode cL_law 436 = .ok (.ireturn, 1) := by decide +kernel
theorem dL_law_437 : decode cL_law 437 = .ok (.goto 1403, 3) := by decide +kernel
theorem dL_law_440 : decode cL_law 440 = .ok (.aload_n 1, 1) := by decide +kernel
theorem dL_law_441 : decode cL_law 441 = .ok (.aload_n 0, 1) := by decide +kernel
theorem dL_law_442 : decode cL_law 442 = .ok (.iload 5, 2) := by decide +kernel
theorem dL_law_444 : decode cL_law 444 = .ok (.iconst 1, 1) := by decide +kernel
theorem dL_law_445 : decode cL_law 445 = .ok (.iadd, 1) := by decide +kernel
theorem dL_law_446 : decode cL_law 446 = .ok (.iaload, 1) := by decide +kernel
theorem dL_law_447 : decode cL_law 447 = .ok (.aload_n 3, 1) := by decide +kernel
theorem dL_law_448 : decode cL_law 448 = .ok (.invokestatic 118, 3) := by decide +kernel
theorem dL_law_451 : decode cL_law 451 = .ok (.istore 6, 2) := by decide +kernel
theorem dL_law_453 : decode cL_law 453 = .ok (.aload_n 2, 1) := by decide +kernel
theorem dL_law_454 : decode cL_law 454 = .ok (.aload_n 0, 1) := by decide +kernel
theorem dL_law_455 : decode cL_law 455 = .ok (.iload 5, 2) := by decide +kernel
theorem dL_law_457 : decode cL_law 457 = .ok (.iconst 1, 1) := by decide +kernel
theorem dL_law_458 : decode cL_law 458 = .ok (.iadd, 1) := by decide +kernel
theorem dL_law_459 : decode cL_law 459 = .ok (.iaload, 1) := by decide +kernel
theorem dL_law_460 : decode cL_law 460 = .ok (.invokevirtual 120, 3) := by decide +kernel
theorem dL_law_463 : decode cL_law 463 = .ok (.istore 7, 2) := by decide +kernel
theorem dL_law_465 : decode cL_law 465 = .ok (.aload_n 2, 1) := by decide +kernel
theorem dL_law_466 : decode cL_law 466 = .ok (.invokevirtual 105, 3) := by decide +kernel
theorem dL_law_469 : decode cL_law 469 = .ok (.iload 6, 2) := by decide +kernel
theorem dL_law_471 : decode cL_law 471 = .ok (.if_icmp .eq 5, 3) := by decide +kernel
theorem dL_law_474 : decode cL_law 474 = .ok (.iconst 0, 1) := by decide +kernel
theorem dL_law_475 : decode cL_law 475 = .ok (.ireturn, 1) := by decide +kernel
theorem dL_law_476 : decode cL_law 476 = .ok (.iload 6, 2) := by decide +kernel
theorem dL_law_478 : decode cL_law 478 = .ok (.ifCond .ne 15, 3) := by decide +kernel
theorem dL_law_481 : decode cL_law 481 = .ok (.aload_n 3, 1) := by decide +kernel
theorem dL_law_482 : decode cL_law 482 = .ok (.iconst 0, 1) := by decide +kernel
theorem dL_law_483 : decode cL_law 483 = .ok (.laload, 1) := by decide +kernel
theorem dL_law_484 : decode cL_law 484 = .ok (.iload 7, 2) := by decide +kernel
theorem dL_law_486 : decode cL_law 486 = .ok (.i2l, 1) := by decide +kernel
theorem dL_law_487 : decode cL_law 487 = .ok (.lcmp, 1) := by decide +kernel
theorem dL_law_488 : decode cL_law 488 = .ok (.ifCond .eq 5, 3) := by decide +kernel
theorem dL_law_491 : decode cL_law 491 = .ok (.iconst 0, 1) := by decide +kernel
theorem dL_law_492 : decode cL_law 492 = .ok (.ireturn, 1) := by decide +kernel
theorem dL_law_493 : decode cL_law 493 = .ok (.goto 1347, 3) := by decide +kernel
theorem dL_law_496 : decode cL_law 496 = .ok (.aload_n 1, 1) := by decide +kernel
theorem dL_law_497 : decode cL_law 497 = .ok (.aload_n 0, 1) := by decide +kernel
theorem dL_law_498 : decode cL_law 498 = .ok (.iload 5, 2) := by decide +kernel
theorem dL_law_500 : decode cL_law 500 = .ok (.iconst 1, 1) := by decide +kernel
theorem dL_law_501 : decode cL_law 501 = .ok (.iadd, 1) := by decide +kernel
theorem dL_law_502 : decode cL_law 502 = .ok (.iaload, 1) := by decide +kernel
theorem dL_law_503 : decode cL_law 503 = .ok (.aload_n 0, 1) := by decide +kernel
theorem dL_law_504 : decode cL_law 504 = .ok (.iload 5, 2) := by decide +kernel
theorem dL_law_506 : decode cL_law 506 = .ok (.iconst 2, 1) := by decide +kernel
theorem dL_law_507 : decode cL_law 507 = .ok (.iadd, 1) := by decide +kernel
theorem dL_law_508 : decode cL_law 508 = .ok (.iaload, 1) := by decide +kernel
theorem dL_law_509 : decode cL_law 509 = .ok (.aload_n 0, 1) := by decide +kernel
theorem dL_law_510 : decode cL_law 510 = .ok (.iload 5, 2) := by decide +kernel
theorem dL_law_512 : decode cL_law 512 = .ok (.iconst 3, 1) := by decide +kernel
theorem dL_law_513 : decode cL_law 513 = .ok (.iadd, 1) := by decide +kernel
theorem dL_law_514 : decode cL_law 514 = .ok (.iaload, 1) := by decide +kernel
theorem dL_law_515 : decode cL_law 515 = .ok (.aload_n 3, 1) := by decide +kernel
theorem dL_law_516 : decode cL_law 516 = .ok (.invokestatic 121, 3) := by decide +kernel
theorem dL_law_519 : decode cL_law 519 = .ok (.istore 6, 2) := by decide +kernel
theorem dL_law_521 : decode cL_law 521 = .ok (.aload_n 2, 1) := by decide +kernel
theorem dL_law_522 : decode cL_law 522 = .ok (.aload_n 0, 1) := by decide +kernel
theorem dL_law_523 : decode cL_law 523 = .ok (.iload 5, 2) := by decide +kernel
theorem dL_law_525 : decode cL_law 525 = .ok (.iconst 1, 1) := by decide +kernel
theorem dL_law_526 : decode cL_law 526 = .ok (.iadd, 1) := by decide +kernel
theorem dL_law_527 : decode cL_law 527 = .ok (.iaload, 1) := by decide +kernel
theorem dL_law_528 : decode cL_law 528 = .ok (.aload_n 0, 1) := by decide +kernel
theorem dL_law_529 : decode cL_law 529 = .ok (.iload 5, 2) := by decide +kernel
theorem dL_law_531 : decode cL_law 531 = .ok (.iconst 2, 1) := by decide +kernel
theorem dL_law_532 : decode cL_law 532 = .ok (.iadd, 1) := by decide +kernel
theorem dL_law_533 : decode cL_law 533 = .ok (.iaload, 1) := by decide +kernel
theorem dL_law_534 : decode cL_law 534 = .ok (.aload_n 0, 1) := by decide +kernel
theorem dL_law_535 : decode cL_law 535 = .ok (.iload 5, 2) := by decide +kernel
theorem dL_law_537 : decode cL_law 537 = .ok (.iconst 3, 1) := by decide +kernel
theorem dL_law_538 : decode cL_law 538 = .ok (.iadd, 1) := by decide +kernel
theorem dL_law_539 : decode cL_law 539 = .ok (.iaload, 1) := by decide +kernel
theorem dL_law_540 : decode cL_law 540 = .ok (.invokevirtual 124, 3) := by decide +kernel
theorem dL_law_543 : decode cL_law 543 = .ok (.istore 7, 2) := by decide +kernel
theorem dL_law_545 : decode cL_law 545 = .ok (.aload_n 2, 1) := by decide +kernel
theorem dL_law_546 : decode cL_law 546 = .ok (.invokevirtual 105, 3) := by decide +kernel
theorem dL_law_549 : decode cL_law 549 = .ok (.iload 6, 2) := by decide +kernel
theorem dL_law_551 : decode cL_law 551 = .ok (.if_icmp .eq 5, 3) := by decide +kernel
theorem dL_law_554 : decode cL_law 554 = .ok (.iconst 0, 1) := by decide +kernel
theorem dL_law_555 : decode cL_law 555 = .ok (.ireturn, 1) := by decide +kernel
theorem dL_law_556 : decode cL_law 556 = .ok (.iload 6, 2) := by decide +kernel
theorem dL_law_558 : decode cL_law 558 = .ok (.ifCond .ne 15, 3) := by decide +kernel
theorem dL_law_561 : decode cL_law 561 = .ok (.aload_n 3, 1) := by decide +kernel
theorem dL_law_562 : decode cL_law 562 = .ok (.iconst 0, 1) := by decide +kernel
theorem dL_law_563 : decode cL_law 563 = .ok (.laload, 1) := by decide +kernel
theorem dL_law_564 : decode cL_law 564 = .ok (.iload 7, 2) := by decide +kernel
theorem dL_law_566 : decode cL_law 566 = .ok (.i2l, 1) := by decide +kernel
theorem dL_law_567 : decode cL_law 567 = .ok (.lcmp, 1) := by decide +kernel
theorem dL_law_568 : decode cL_law 568 = .ok (.ifCond .eq 5, 3) := by decide +kernel
theorem dL_law_571 : decode cL_law 571 = .ok (.iconst 0, 1) := by decide +kernel
theorem dL_law_572 : decode cL_law 572 = .ok (.ireturn, 1) := by decide +kernel
theorem dL_law_573 : decode cL_law 573 = .ok (.goto 1267, 3) := by decide +kernel
theorem dL_law_576 : decode cL_law 576 = .ok (.aload_n 1, 1) := by decide +kernel
theorem dL_law_577 : decode cL_law 577 = .ok (.aload_n 0, 1) := by decide +kernel
theorem dL_law_578 : decode cL_law 578 = .ok (.iload 5, 2) := by decide +kernel
theorem dL_law_580 : decode cL_law 580 = .ok (.iconst 1, 1) := by decide +kernel
theorem dL_law_581 : decode cL_law 581 = .ok (.iadd, 1) := by decide +kernel
theorem dL_law_582 : decode cL_law 582 = .ok (.iaload, 1) := by decide +kernel
theorem dL_law_583 : decode cL_law 583 = .ok (.aload_n 3, 1) := by decide +kernel
theorem dL_law_584 : decode cL_law 584 = .ok (.invokestatic 125, 3) := by decide +kernel
theorem dL_law_587 : decode cL_law 587 = .ok (.istore 6, 2) := by decide +kernel
theorem dL_law_589 : decode cL_law 589 = .ok (.aload_n 2, 1) := by decide +kernel
theorem dL_law_590 : decode cL_law 590 = .ok (.aload_n 0, 1) := by decide +kernel
theorem dL_law_591 : decode cL_law 591 = .ok (.iload 5, 2) := by decide +kernel
theorem dL_law_593 : decode cL_law 593 = .ok (.iconst 1, 1) := by decide +kernel
theorem dL_law_594 : decode cL_law 594 = .ok (.iadd, 1) := by decide +kernel
theorem dL_law_595 : decode cL_law 595 = .ok (.iaload, 1) := by decide +kernel
theorem dL_law_596 : decode cL_law 596 = .ok (.invokevirtual 127, 3) := by decide +kernel
theorem dL_law_599 : decode cL_law 599 = .ok (.istore 7, 2) := by decide +kernel
theorem dL_law_601 : decode cL_law 601 = .ok (.aload_n 2, 1) := by decide +kernel
theorem dL_law_602 : decode cL_law 602 = .ok (.invokevirtual 105, 3) := by decide +kernel
theorem dL_law_605 : decode cL_law 605 = .ok (.iload 6, 2) := by decide +kernel
theorem dL_law_607 : decode cL_law 607 = .ok (.if_icmp .eq 5, 3) := by decide +kernel
theorem dL_law_610 : decode cL_law 610 = .ok (.iconst 0, 1) := by decide +kernel
theorem dL_law_611 : decode cL_law 611 = .ok (.ireturn, 1) := by decide +kernel
theorem dL_law_612 : decode cL_law 612 = .ok (.iload 6, 2) := by decide +kernel
theorem dL_law_614 : decode cL_law 614 = .ok (.ifCond .ne 15, 3) := by decide +kernel
theorem dL_law_617 : decode cL_law 617 = .ok (.aload_n 3, 1) := by decide +kernel
theorem dL_law_618 : decode cL_law 618 = .ok (.iconst 0, 1) := by decide +kernel
theorem dL_law_619 : decode cL_law 619 = .ok (.laload, 1) := by decide +kernel
theorem dL_law_620 : decode cL_law 620 = .ok (.iload 7, 2) := by decide +kernel
theorem dL_law_622 : decode cL_law 622 = .ok (.i2l, 1) := by decide +kernel
theorem dL_law_623 : decode cL_law 623 = .ok (.lcmp, 1) := by decide +kernel
theorem dL_law_624 : decode cL_law 624 = .ok (.ifCond .eq 5, 3) := by decide +kernel
theorem dL_law_627 : decode cL_law 627 = .ok (.iconst 0, 1) := by decide +kernel
theorem dL_law_628 : decode cL_law 628 = .ok (.ireturn, 1) := by decide +kernel
theorem dL_law_629 : decode cL_law 629 = .ok (.goto 1211, 3) := by decide +kernel
theorem dL_law_632 : decode cL_law 632 = .ok (.aload_n 1, 1) := by decide +kernel
theorem dL_law_633 : decode cL_law 633 = .ok (.aload_n 0, 1) := by decide +kernel
theorem dL_law_634 : decode cL_law 634 = .ok (.iload 5, 2) := by decide +kernel
theorem dL_law_636 : decode cL_law 636 = .ok (.iconst 1, 1) := by decide +kernel
theorem dL_law_637 : decode cL_law 637 = .ok (.iadd, 1) := by decide +kernel
theorem dL_law_638 : decode cL_law 638 = .ok (.iaload, 1) := by decide +kernel
theorem dL_law_639 : decode cL_law 639 = .ok (.aload_n 0, 1) := by decide +kernel
theorem dL_law_640 : decode cL_law 640 = .ok (.iload 5, 2) := by decide +kernel
theorem dL_law_642 : decode cL_law 642 = .ok (.iconst 2, 1) := by decide +kernel
theorem dL_law_643 : decode cL_law 643 = .ok (.iadd, 1) := by decide +kernel
theorem dL_law_644 : decode cL_law 644 = .ok (.iaload, 1) := by decide +kernel
theorem dL_law_645 : decode cL_law 645 = .ok (.aload_n 3, 1) := by decide +kernel
theorem dL_law_646 : decode cL_law 646 = .ok (.invokestatic 128, 3) := by decide +kernel
theorem dL_law_649 : decode cL_law 649 = .ok (.istore 6, 2) := by decide +kernel
theorem dL_law_651 : decode cL_law 651 = .ok (.aload_n 2, 1) := by decide +kernel
theorem dL_law_652 : decode cL_law 652 = .ok (.aload_n 0, 1) := by decide +kernel
theorem dL_law_653 : decode cL_law 653 = .ok (.iload 5, 2) := by decide +kernel
theorem dL_law_655 : decode cL_law 655 = .ok (.iconst 1, 1) := by decide +kernel
theorem dL_law_656 : decode cL_law 656 = .ok (.iadd, 1) := by decide +kernel
theorem dL_law_657 : decode cL_law 657 = .ok (.iaload, 1) := by decide +kernel
theorem dL_law_658 : decode cL_law 658 = .ok (.aload_n 0, 1) := by decide +kernel
theorem dL_law_659 : decode cL_law 659 = .ok (.iload 5, 2) := by decide +kernel
theorem dL_law_661 : decode cL_law 661 = .ok (.iconst 2, 1) := by decide +kernel
theorem dL_law_662 : decode cL_law 662 = .ok (.iadd, 1) := by decide +kernel
theorem dL_law_663 : decode cL_law 663 = .ok (.iaload, 1) := by decide +kernel
theorem dL_law_664 : decode cL_law 664 = .ok (.invokevirtual 130, 3) := by decide +kernel
end
section
theorem dL_law_667 : decode cL_law 667 = .ok (.istore 7, 2) := by decide +kernel
theorem dL_law_669 : decode cL_law 669 = .ok (.aload_n 2, 1) := by decide +kernel
theorem dL_law_670 : decode cL_law 670 = .ok (.invokevirtual 105, 3) := by decide +kernel
theorem dL_law_673 : decode cL_law 673 = .ok (.iload 6, 2) := by decide +kernel
theorem dL_law_675 : decode cL_law 675 = .ok (.if_icmp .eq 5, 3) := by decide +kernel
theorem dL_law_678 : decode cL_law 678 = .ok (.iconst 0, 1) := by decide +kernel
theorem dL_law_679 : decode cL_law 679 = .ok (.ireturn, 1) := by decide +kernel
theorem dL_law_680 : decode cL_law 680 = .ok (.iload 6, 2) := by decide +kernel
theorem dL_law_682 : decode cL_law 682 = .ok (.ifCond .ne 15, 3) := by decide +kernel
theorem dL_law_685 : decode cL_law 685 = .ok (.aload_n 3, 1) := by decide +kernel
theorem dL_law_686 : decode cL_law 686 = .ok (.iconst 0, 1) := by decide +kernel
theorem dL_law_687 : decode cL_law 687 = .ok (.laload, 1) := by decide +kernel
theorem dL_law_688 : decode cL_law 688 = .ok (.iload 7, 2) := by decide +kernel
theorem dL_law_690 : decode cL_law 690 = .ok (.i2l, 1) := by decide +kernel
theorem dL_law_691 : decode cL_law 691 = .ok (.lcmp, 1) := by decide +kernel
theorem dL_law_692 : decode cL_law 692 = .ok (.ifCond .eq 5, 3) := by decide +kernel
theorem dL_law_695 : decode cL_law 695 = .ok (.iconst 0, 1) := by decide +kernel
theorem dL_law_696 : decode cL_law 696 = .ok (.ireturn, 1) := by decide +kernel
theorem dL_law_697 : decode cL_law 697 = .ok (.goto 1143, 3) := by decide +kernel
theorem dL_law_700 : decode cL_law 700 = .ok (.aload_n 1, 1) := by decide +kernel
theorem dL_law_701 : decode cL_law 701 = .ok (.aload_n 0, 1) := by decide +kernel
theorem dL_law_702 : decode cL_law 702 = .ok (.iload 5, 2) := by decide +kernel
theorem dL_law_704 : decode cL_law 704 = .ok (.iconst 1, 1) := by decide +kernel
theorem dL_law_705 : decode cL_law 705 = .ok (.iadd, 1) := by decide +kernel
theorem dL_law_706 : decode cL_law 706 = .ok (.iaload, 1) := by decide +kernel
theorem dL_law_707 : decode cL_law 707 = .ok (.aload_n 0, 1) := by decide +kernel
theorem dL_law_708 : decode cL_law 708 = .ok (.iload 5, 2) := by decide +kernel
theorem dL_law_710 : decode cL_law 710 = .ok (.iconst 2, 1) := by decide +kernel
theorem dL_law_711 : decode cL_law 711 = .ok (.iadd, 1) := by decide +kernel
theorem dL_law_712 : decode cL_law 712 = .ok (.iaload, 1) := by decide +kernel
theorem dL_law_713 : decode cL_law 713 = .ok (.aload_n 3, 1) := by decide +kernel
theorem dL_law_714 : decode cL_law 714 = .ok (.invokestatic 131, 3) := by decide +kernel
theorem dL_law_717 : decode cL_law 717 = .ok (.istore 6, 2) := by decide +kernel
theorem dL_law_719 : decode cL_law 719 = .ok (.aload_n 2, 1) := by decide +kernel
theorem dL_law_720 : decode cL_law 720 = .ok (.aload_n 0, 1) := by decide +kernel
theorem dL_law_721 : decode cL_law 721 = .ok (.iload 5, 2) := by decide +kernel
theorem dL_law_723 : decode cL_law 723 = .ok (.iconst 1, 1) := by decide +kernel
theorem dL_law_724 : decode cL_law 724 = .ok (.iadd, 1) := by decide +kernel
theorem dL_law_725 : decode cL_law 725 = .ok (.iaload, 1) := by decide +kernel
theorem dL_law_726 : decode cL_law 726 = .ok (.aload_n 0, 1) := by decide +kernel
theorem dL_law_727 : decode cL_law 727 = .ok (.iload 5, 2) := by decide +kernel
theorem dL_law_729 : decode cL_law 729 = .ok (.iconst 2, 1) := by decide +kernel
theorem dL_law_730 : decode cL_law 730 = .ok (.iadd, 1) := by decide +kernel
theorem dL_law_731 : decode cL_law 731 = .ok (.iaload, 1) := by decide +kernel
theorem dL_law_732 : decode cL_law 732 = .ok (.invokevirtual 133, 3) := by decide +kernel
theorem dL_law_735 : decode cL_law 735 = .ok (.istore 7, 2) := by decide +kernel
theorem dL_law_737 : decode cL_law 737 = .ok (.aload_n 2, 1) := by decide +kernel
theorem dL_law_738 : decode cL_law 738 = .ok (.invokevirtual 105, 3) := by decide +kernel
theorem dL_law_741 : decode cL_law 741 = .ok (.iload 6, 2) := by decide +kernel
theorem dL_law_743 : decode cL_law 743 = .ok (.if_icmp .eq 5, 3) := by decide +kernel
theorem dL_law_746 : decode cL_law 746 = .ok (.iconst 0, 1) := by decide +kernel
theorem dL_law_747 : decode cL_law 747 = .ok (.ireturn, 1) := by decide +kernel
theorem dL_law_748 : decode cL_law 748 = .ok (.iload 6, 2) := by decide +kernel
theorem dL_law_750 : decode cL_law 750 = .ok (.ifCond .ne 15, 3) := by decide +kernel
theorem dL_law_753 : decode cL_law 753 = .ok (.aload_n 3, 1) := by decide +kernel
theorem dL_law_754 : decode cL_law 754 = .ok (.iconst 0, 1) := by decide +kernel
theorem dL_law_755 : decode cL_law 755 = .ok (.laload, 1) := by decide +kernel
theorem dL_law_756 : decode cL_law 756 = .ok (.iload 7, 2) := by decide +kernel
theorem dL_law_758 : decode cL_law 758 = .ok (.i2l, 1) := by decide +kernel
theorem dL_law_759 : decode cL_law 759 = .ok (.lcmp, 1) := by decide +kernel
theorem dL_law_760 : decode cL_law 760 = .ok (.ifCond .eq 5, 3) := by decide +kernel
theorem dL_law_763 : decode cL_law 763 = .ok (.iconst 0, 1) := by decide +kernel
theorem dL_law_764 : decode cL_law 764 = .ok (.ireturn, 1) := by decide +kernel
theorem dL_law_765 : decode cL_law 765 = .ok (.goto 1075, 3) := by decide +kernel
theorem dL_law_768 : decode cL_law 768 = .ok (.aload_n 1, 1) := by decide +kernel
theorem dL_law_769 : decode cL_law 769 = .ok (.aload_n 0, 1) := by decide +kernel
theorem dL_law_770 : decode cL_law 770 = .ok (.iload 5, 2) := by decide +kernel
theorem dL_law_772 : decode cL_law 772 = .ok (.iconst 1, 1) := by decide +kernel
theorem dL_law_773 : decode cL_law 773 = .ok (.iadd, 1) := by decide +kernel
theorem dL_law_774 : decode cL_law 774 = .ok (.iaload, 1) := by decide +kernel
theorem dL_law_775 : decode cL_law 775 = .ok (.aload_n 3, 1) := by decide +kernel
theorem dL_law_776 : decode cL_law 776 = .ok (.invokestatic 134, 3) := by decide +kernel
theorem dL_law_779 : decode cL_law 779 = .ok (.istore 6, 2) := by decide +kernel
theorem dL_law_781 : decode cL_law 781 = .ok (.aload_n 2, 1) := by decide +kernel
theorem dL_law_782 : decode cL_law 782 = .ok (.aload_n 0, 1) := by decide +kernel
theorem dL_law_783 : decode cL_law 783 = .ok (.iload 5, 2) := by decide +kernel
theorem dL_law_785 : decode cL_law 785 = .ok (.iconst 1, 1) := by decide +kernel
theorem dL_law_786 : decode cL_law 786 = .ok (.iadd, 1) := by decide +kernel
theorem dL_law_787 : decode cL_law 787 = .ok (.iaload, 1) := by decide +kernel
theorem dL_law_788 : decode cL_law 788 = .ok (.invokevirtual 136, 3) := by decide +kernel
theorem dL_law_791 : decode cL_law 791 = .ok (.istore 7, 2) := by decide +kernel
theorem dL_law_793 : decode cL_law 793 = .ok (.aload_n 2, 1) := by decide +kernel
theorem dL_law_794 : decode cL_law 794 = .ok (.invokevirtual 105, 3) := by decide +kernel
theorem dL_law_797 : decode cL_law 797 = .ok (.iload 6, 2) := by decide +kernel
theorem dL_law_799 : decode cL_law 799 = .ok (.if_icmp .eq 5, 3) := by decide +kernel
theorem dL_law_802 : decode cL_law 802 = .ok (.iconst 0, 1) := by decide +kernel
theorem dL_law_803 : decode cL_law 803 = .ok (.ireturn, 1) := by decide +kernel
theorem dL_law_804 : decode cL_law 804 = .ok (.iload 6, 2) := by decide +kernel
theorem dL_law_806 : decode cL_law 806 = .ok (.ifCond .ne 15, 3) := by decide +kernel
theorem dL_law_809 : decode cL_law 809 = .ok (.aload_n 3, 1) := by decide +kernel
theorem dL_law_810 : decode cL_law 810 = .ok (.iconst 0, 1) := by decide +kernel
theorem dL_law_811 : decode cL_law 811 = .ok (.laload, 1) := by decide +kernel
theorem dL_law_812 : decode cL_law 812 = .ok (.iload 7, 2) := by decide +kernel
theorem dL_law_814 : decode cL_law 814 = .ok (.i2l, 1) := by decide +kernel
theorem dL_law_815 : decode cL_law 815 = .ok (.lcmp, 1) := by decide +kernel
theorem dL_law_816 : decode cL_law 816 = .ok (.ifCond .eq 5, 3) := by decide +kernel
theorem dL_law_819 : decode cL_law 819 = .ok (.iconst 0, 1) := by decide +kernel
theorem dL_law_820 : decode cL_law 820 = .ok (.ireturn, 1) := by decide +kernel
theorem dL_law_821 : decode cL_law 821 = .ok (.goto 1019, 3) := by decide +kernel
theorem dL_law_824 : decode cL_law 824 = .ok (.aload_n 1, 1) := by decide +kernel
theorem dL_law_825 : decode cL_law 825 = .ok (.invokevirtual 137, 3) := by decide +kernel
theorem dL_law_828 : decode cL_law 828 = .ok (.aload_n 2, 1) := by decide +kernel
theorem dL_law_829 : decode cL_law 829 = .ok (.invokevirtual 140, 3) := by decide +kernel
theorem dL_law_832 : decode cL_law 832 = .ok (.if_icmp .eq 1008, 3) := by decide +kernel
theorem dL_law_835 : decode cL_law 835 = .ok (.iconst 0, 1) := by decide +kernel
theorem dL_law_836 : decode cL_law 836 = .ok (.ireturn, 1) := by decide +kernel
theorem dL_law_837 : decode cL_law 837 = .ok (.aload_n 1, 1) := by decide +kernel
theorem dL_law_838 : decode cL_law 838 = .ok (.invokevirtual 141, 3) := by decide +kernel
theorem dL_law_841 : decode cL_law 841 = .ok (.aload_n 2, 1) := by decide +kernel
theorem dL_law_842 : decode cL_law 842 = .ok (.invokevirtual 144, 3) := by decide +kernel
theorem dL_law_845 : decode cL_law 845 = .ok (.if_icmp .eq 995, 3) := by decide +kernel
theorem dL_law_848 : decode cL_law 848 = .ok (.iconst 0, 1) := by decide +kernel
theorem dL_law_849 : decode cL_law 849 = .ok (.ireturn, 1) := by decide +kernel
theorem dL_law_850 : decode cL_law 850 = .ok (.aload_n 1, 1) := by decide +kernel
theorem dL_law_851 : decode cL_law 851 = .ok (.aload_n 3, 1) := by decide +kernel
theorem dL_law_852 : decode cL_law 852 = .ok (.invokestatic 145, 3) := by decide +kernel
theorem dL_law_855 : decode cL_law 855 = .ok (.istore 6, 2) := by decide +kernel
theorem dL_law_857 : decode cL_law 857 = .ok (.aload_n 2, 1) := by decide +kernel
theorem dL_law_858 : decode cL_law 858 = .ok (.invokevirtual 148, 3) := by decide +kernel
theorem dL_law_861 : decode cL_law 861 = .ok (.istore 7, 2) := by decide +kernel
theorem dL_law_863 : decode cL_law 863 = .ok (.aload_n 2, 1) := by decide +kernel
theorem dL_law_864 : decode cL_law 864 = .ok (.invokevirtual 105, 3) := by decide +kernel
theorem dL_law_867 : decode cL_law 867 = .ok (.iload 6, 2) := by decide +kernel
theorem dL_law_869 : decode cL_law 869 = .ok (.if_icmp .eq 5, 3) := by decide +kernel
theorem dL_law_872 : decode cL_law 872 = .ok (.iconst 0, 1) := by decide +kernel
theorem dL_law_873 : decode cL_law 873 = .ok (.ireturn, 1) := by decide +kernel
theorem dL_law_874 : decode cL_law 874 = .ok (.iload 6, 2) := by decide +kernel
theorem dL_law_876 : decode cL_law 876 = .ok (.ifCond .ne 15, 3) := by decide +kernel
theorem dL_law_879 : decode cL_law 879 = .ok (.aload_n 3, 1) := by decide +kernel
theorem dL_law_880 : decode cL_law 880 = .ok (.iconst 0, 1) := by decide +kernel
theorem dL_law_881 : decode cL_law 881 = .ok (.laload, 1) := by decide +kernel
theorem dL_law_882 : decode cL_law 882 = .ok (.iload 7, 2) := by decide +kernel
theorem dL_law_884 : decode cL_law 884 = .ok (.i2l, 1) := by decide +kernel
theorem dL_law_885 : decode cL_law 885 = .ok (.lcmp, 1) := by decide +kernel
theorem dL_law_886 : decode cL_law 886 = .ok (.ifCond .eq 5, 3) := by decide +kernel
theorem dL_law_889 : decode cL_law 889 = .ok (.iconst 0, 1) := by decide +kernel
theorem dL_law_890 : decode cL_law 890 = .ok (.ireturn, 1) := by decide +kernel
theorem dL_law_891 : decode cL_law 891 = .ok (.goto 949, 3) := by decide +kernel
theorem dL_law_894 : decode cL_law 894 = .ok (.aload_n 1, 1) := by decide +kernel
theorem dL_law_895 : decode cL_law 895 = .ok (.aload_n 0, 1) := by decide +kernel
theorem dL_law_896 : decode cL_law 896 = .ok (.iload 5, 2) := by decide +kernel
theorem dL_law_898 : decode cL_law 898 = .ok (.iconst 1, 1) := by decide +kernel
theorem dL_law_899 : decode cL_law 899 = .ok (.iadd, 1) := by decide +kernel
theorem dL_law_900 : decode cL_law 900 = .ok (.iaload, 1) := by decide +kernel
theorem dL_law_901 : decode cL_law 901 = .ok (.aload_n 3, 1) := by decide +kernel
theorem dL_law_902 : decode cL_law 902 = .ok (.invokestatic 149, 3) := by decide +kernel
theorem dL_law_905 : decode cL_law 905 = .ok (.istore 6, 2) := by decide +kernel
theorem dL_law_907 : decode cL_law 907 = .ok (.aload_n 2, 1) := by decide +kernel
theorem dL_law_908 : decode cL_law 908 = .ok (.aload_n 0, 1) := by decide +kernel
theorem dL_law_909 : decode cL_law 909 = .ok (.iload 5, 2) := by decide +kernel
theorem dL_law_911 : decode cL_law 911 = .ok (.iconst 1, 1) := by decide +kernel
theorem dL_law_912 : decode cL_law 912 = .ok (.iadd, 1) := by decide +kernel
theorem dL_law_913 : decode cL_law 913 = .ok (.iaload, 1) := by decide +kernel
theorem dL_law_914 : decode cL_law 914 = .ok (.invokevirtual 151, 3) := by decide +kernel
theorem dL_law_917 : decode cL_law 917 = .ok (.istore 7, 2) := by decide +kernel
theorem dL_law_919 : decode cL_law 919 = .ok (.aload_n 2, 1) := by decide +kernel
theorem dL_law_920 : decode cL_law 920 = .ok (.invokevirtual 105, 3) := by decide +kernel
theorem dL_law_923 : decode cL_law 923 = .ok (.iload 6, 2) := by decide +kernel
theorem dL_law_925 : decode cL_law 925 = .ok (.if_icmp .eq 5, 3) := by decide +kernel
theorem dL_law_928 : decode cL_law 928 = .ok (.iconst 0, 1) := by decide +kernel
theorem dL_law_929 : decode cL_law 929 = .ok (.ireturn, 1) := by decide +kernel
theorem dL_law_930 : decode cL_law 930 = .ok (.iload 6, 2) := by decide +kernel
theorem dL_law_932 : decode cL_law 932 = .ok (.ifCond .ne 15, 3) := by decide +kernel
theorem dL_law_935 : decode cL_law 935 = .ok (.aload_n 3, 1) := by decide +kernel
theorem dL_law_936 : decode cL_law 936 = .ok (.iconst 0, 1) := by decide +kernel
theorem dL_law_937 : decode cL_law 937 = .ok (.laload, 1) := by decide +kernel
theorem dL_law_938 : decode cL_law 938 = .ok (.iload 7, 2) := by decide +kernel
theorem dL_law_940 : decode cL_law 940 = .ok (.i2l, 1) := by decide +kernel
theorem dL_law_941 : decode cL_law 941 = .ok (.lcmp, 1) := by decide +kernel
theorem dL_law_942 : decode cL_law 942 = .ok (.ifCond .eq 5, 3) := by decide +kernel
theorem dL_law_945 : decode cL_law 945 = .ok (.iconst 0, 1) := by decide +kernel
theorem dL_law_946 : decode cL_law 946 = .ok (.ireturn, 1) := by decide +kernel
theorem dL_law_947 : decode cL_law 947 = .ok (.goto 893, 3) := by decide +kernel
theorem dL_law_950 : decode cL_law 950 = .ok (.aload_n 1, 1) := by decide +kernel
theorem dL_law_951 : decode cL_law 951 = .ok (.aload_n 0, 1) := by decide +kernel
theorem dL_law_952 : decode cL_law 952 = .ok (.iload 5, 2) := by decide +kernel
theorem dL_law_954 : decode cL_law 954 = .ok (.iconst 1, 1) := by decide +kernel
theorem dL_law_955 : decode cL_law 955 = .ok (.iadd, 1) := by decide +kernel
theorem dL_law_956 : decode cL_law 956 = .ok (.iaload, 1) := by decide +kernel
theorem dL_law_957 : decode cL_law 957 = .ok (.aload_n 3, 1) := by decide +kernel
theorem dL_law_958 : decode cL_law 958 = .ok (.invokestatic 152, 3) := by decide +kernel
theorem dL_law_961 : decode cL_law 961 = .ok (.istore 6, 2) := by decide +kernel
theorem dL_law_963 : decode cL_law 963 = .ok (.aload_n 2, 1) := by decide +kernel
theorem dL_law_964 : decode cL_law 964 = .ok (.aload_n 0, 1) := by decide +kernel
theorem dL_law_965 : decode cL_law 965 = .ok (.iload 5, 2) := by decide +kernel
theorem dL_law_967 : decode cL_law 967 = .ok (.iconst 1, 1) := by decide +kernel
theorem dL_law_968 : decode cL_law 968 = .ok (.iadd, 1) := by decide +kernel
theorem dL_law_969 : decode cL_law 969 = .ok (.iaload, 1) := by decide +kernel
theorem dL_law_970 : decode cL_law 970 = .ok (.invokevirtual 154, 3) := by decide +kernel
theorem dL_law_973 : decode cL_law 973 = .ok (.istore 7, 2) := by decide +kernel
theorem dL_law_975 : decode cL_law 975 = .ok (.aload_n 2, 1) := by decide +kernel
theorem dL_law_976 : decode cL_law 976 = .ok (.invokevirtual 105, 3) := by decide +kernel
theorem dL_law_979 : decode cL_law 979 = .ok (.iload 6, 2) := by decide +kernel
theorem dL_law_981 : decode cL_law 981 = .ok (.if_icmp .eq 5, 3) := by decide +kernel
theorem dL_law_984 : decode cL_law 984 = .ok (.iconst 0, 1) := by decide +kernel
theorem dL_law_985 : decode cL_law 985 = .ok (.ireturn, 1) := by decide +kernel
theorem dL_law_986 : decode cL_law 986 = .ok (.iload 6, 2) := by decide +kernel
theorem dL_law_988 : decode cL_law 988 = .ok (.ifCond .ne 15, 3) := by decide +kernel
theorem dL_law_991 : decode cL_law 991 = .ok (.aload_n 3, 1) := by decide +kernel
theorem dL_law_992 : decode cL_law 992 = .ok (.iconst 0, 1) := by decide +kernel
theorem dL_law_993 : decode cL_law 993 = .ok (.laload, 1) := by decide +kernel
theorem dL_law_994 : decode cL_law 994 = .ok (.iload 7, 2) := by decide +kernel
theorem dL_law_996 : decode cL_law 996 = .ok (.i2l, 1) := by decide +kernel
theorem dL_law_997 : decode cL_law 997 = .ok (.lcmp, 1) := by decide +kernel
theorem dL_law_998 : decode cL_law 998 = .ok (.ifCond .eq 5, 3) := by decide +kernel
theorem dL_law_1001 : decode cL_law 1001 = .ok (.iconst 0, 1) := by decide +kernel
theorem dL_law_1002 : decode cL_law 1002 = .ok (.ireturn, 1) := by decide +kernel
theorem dL_law_1003 : decode cL_law 1003 = .ok (.goto 837, 3) := by decide +kernel
theorem dL_law_1006 : decode cL_law 1006 = .ok (.aload_n 1, 1) := by decide +kernel
theorem dL_law_1007 : decode cL_law 1007 = .ok (.aload_n 3, 1) := by decide +kernel
theorem dL_law_1008 : decode cL_law 1008 = .ok (.invokestatic 155, 3) := by decide +kernel
theorem dL_law_1011 : decode cL_law 1011 = .ok (.istore 6, 2) := by decide +kernel
theorem dL_law_1013 : decode cL_law 1013 = .ok (.aload_n 2, 1) := by decide +kernel
theorem dL_law_1014 : decode cL_law 1014 = .ok (.invokevirtual 157, 3) := by decide +kernel
theorem dL_law_1017 : decode cL_law 1017 = .ok (.istore 7, 2) := by decide +kernel
theorem dL_law_1019 : decode cL_law 1019 = .ok (.aload_n 2, 1) := by decide +kernel
theorem dL_law_1020 : decode cL_law 1020 = .ok (.invokevirtual 105, 3) := by decide +kernel
theorem dL_law_1023 : decode cL_law 1023 = .ok (.iload 6, 2) := by decide +kernel
theorem dL_law_1025 : decode cL_law 1025 = .ok (.if_icmp .eq 5, 3) := by decide +kernel
theorem dL_law_1028 : decode cL_law 1028 = .ok (.iconst 0, 1) := by decide +kernel
theorem dL_law_1029 : decode cL_law 1029 = .ok (.ireturn, 1) := by decide +kernel
theorem dL_law_1030 : decode cL_law 1030 = .ok (.iload 6, 2) := by decide +kernel
theorem dL_law_1032 : decode cL_law 1032 = .ok (.ifCond .ne 15, 3) := by decide +kernel
theorem dL_law_1035 : decode cL_law 1035 = .ok (.aload_n 3, 1) := by decide +kernel
theorem dL_law_1036 : decode cL_law 1036 = .ok (.iconst 0, 1) := by decide +kernel
theorem dL_law_1037 : decode cL_law 1037 = .ok (.laload, 1) := by decide +kernel
theorem dL_law_1038 : decode cL_law 1038 = .ok (.iload 7, 2) := by decide +kernel
theorem dL_law_1040 : decode cL_law 1040 = .ok (.i2l, 1) := by decide +kernel
theorem dL_law_1041 : decode cL_law 1041 = .ok (.lcmp, 1) := by decide +kernel
theorem dL_law_1042 : decode cL_law 1042 = .ok (.ifCond .eq 5, 3) := by decide +kernel
theorem dL_law_1045 : decode cL_law 1045 = .ok (.iconst 0, 1) := by decide +kernel
theorem dL_law_1046 : decode cL_law 1046 = .ok (.ireturn, 1) := by decide +kernel
theorem dL_law_1047 : decode cL_law 1047 = .ok (.goto 793, 3) := by decide +kernel
theorem dL_law_1050 : decode cL_law 1050 = .ok (.aload_n 1, 1) := by decide +kernel
theorem dL_law_1051 : decode cL_law 1051 = .ok (.aload_n 0, 1) := by decide +kernel
theorem dL_law_1052 : decode cL_law 1052 = .ok (.iload 5, 2) := by decide +kernel
theorem dL_law_1054 : decode cL_law 1054 = .ok (.iconst 1, 1) := by decide +kernel
theorem dL_law_1055 : decode cL_law 1055 = .ok (.iadd, 1) := by decide +kernel
theorem dL_law_1056 : decode cL_law 1056 = .ok (.iaload, 1) := by decide +kernel
theorem dL_law_1057 : decode cL_law 1057 = .ok (.aload_n 0, 1) := by decide +kernel
theorem dL_law_1058 : decode cL_law 1058 = .ok (.iload 5, 2) := by decide +kernel
theorem dL_law_1060 : decode cL_law 1060 = .ok (.iconst 2, 1) := by decide +kernel
theorem dL_law_1061 : decode cL_law 1061 = .ok (.iadd, 1) := by decide +kernel
theorem dL_law_1062 : decode cL_law 1062 = .ok (.iaload, 1) := by decide +kernel
theorem dL_law_1063 : decode cL_law 1063 = .ok (.aload_n 0, 1) := by decide +kernel
theorem dL_law_1064 : decode cL_law 1064 = .ok (.iload 5, 2) := by decide +kernel
theorem dL_law_1066 : decode cL_law 1066 = .ok (.iconst 3, 1) := by decide +kernel
theorem dL_law_1067 : decode cL_law 1067 = .ok (.iadd, 1) := by decide +kernel
theorem dL_law_1068 : decode cL_law 1068 = .ok (.iaload, 1) := by decide +kernel
theorem dL_law_1069 : decode cL_law 1069 = .ok (.aload_n 3, 1) := by decide +kernel
theorem dL_law_1070 : decode cL_law 1070 = .ok (.invokestatic 158, 3) := by decide +kernel
theorem dL_law_1073 : decode cL_law 1073 = .ok (.istore 6, 2) := by decide +kernel
theorem dL_law_1075 : decode cL_law 1075 = .ok (.aload_n 2, 1) := by decide +kernel
theorem dL_law_1076 : decode cL_law 1076 = .ok (.aload_n 0, 1) := by decide +kernel
theorem dL_law_1077 : decode cL_law 1077 = .ok (.iload 5, 2) := by decide +kernel
theorem dL_law_1079 : decode cL_law 1079 = .ok (.iconst 1, 1) := by decide +kernel
theorem dL_law_1080 : decode cL_law 1080 = .ok (.iadd, 1) := by decide +kernel
theorem dL_law_1081 : decode cL_law 1081 = .ok (.iaload, 1) := by decide +kernel
theorem dL_law_1082 : decode cL_law 1082 = .ok (.aload_n 0, 1) := by decide +kernel
theorem dL_law_1083 : decode cL_law 1083 = .ok (.iload 5, 2) := by decide +kernel
theorem dL_law_1085 : decode cL_law 1085 = .ok (.iconst 2, 1) := by decide +kernel
theorem dL_law_1086 : decode cL_law 1086 = .ok (.iadd, 1) := by decide +kernel
theorem dL_law_1087 : decode cL_law 1087 = .ok (.iaload, 1) := by decide +kernel
theorem dL_law_1088 : decode cL_law 1088 = .ok (.aload_n 0, 1) := by decide +kernel
theorem dL_law_1089 : decode cL_law 1089 = .ok (.iload 5, 2) := by decide +kernel
theorem dL_law_1091 : decode cL_law 1091 = .ok (.iconst 3, 1) := by decide +kernel
theorem dL_law_1092 : decode cL_law 1092 = .ok (.iadd, 1) := by decide +kernel
theorem dL_law_1093 : decode cL_law 1093 = .ok (.iaload, 1) := by decide +kernel
theorem dL_law_1094 : decode cL_law 1094 = .ok (.invokevirtual 160, 3) := by decide +kernel
theorem dL_law_1097 : decode cL_law 1097 = .ok (.istore 7, 2) := by decide +kernel
theorem dL_law_1099 : decode cL_law 1099 = .ok (.aload_n 2, 1) := by decide +kernel
theorem dL_law_1100 : decode cL_law 1100 = .ok (.invokevirtual 105, 3) := by decide +kernel
theorem dL_law_1103 : decode cL_law 1103 = .ok (.iload 6, 2) := by decide +kernel
theorem dL_law_1105 : decode cL_law 1105 = .ok (.if_icmp .eq 5, 3) := by decide +kernel
theorem dL_law_1108 : decode cL_law 1108 = .ok (.iconst 0, 1) := by decide +kernel
theorem dL_law_1109 : decode cL_law 1109 = .ok (.ireturn, 1) := by decide +kernel
theorem dL_law_1110 : decode cL_law 1110 = .ok (.iload 6, 2) := by decide +kernel
theorem dL_law_1112 : decode cL_law 1112 = .ok (.ifCond .ne 15, 3) := by decide +kernel
theorem dL_law_1115 : decode cL_law 1115 = .ok (.aload_n 3, 1) := by decide +kernel
theorem dL_law_1116 : decode cL_law 1116 = .ok (.iconst 0, 1) := by decide +kernel
theorem dL_law_1117 : decode cL_law 1117 = .ok (.laload, 1) := by decide +kernel
theorem dL_law_1118 : decode cL_law 1118 = .ok (.iload 7, 2) := by decide +kernel
theorem dL_law_1120 : decode cL_law 1120 = .ok (.i2l, 1) := by decide +kernel
theorem dL_law_1121 : decode cL_law 1121 = .ok (.lcmp, 1) := by decide +kernel
theorem dL_law_1122 : decode cL_law 1122 = .ok (.ifCond .eq 5, 3) := by decide +kernel
theorem dL_law_1125 : decode cL_law 1125 = .ok (.iconst 0, 1) := by decide +kernel
theorem dL_law_1126 : decode cL_law 1126 = .ok (.ireturn, 1) := by decide +kernel
theorem dL_law_1127 : decode cL_law 1127 = .ok (.goto 713, 3) := by decide +kernel
theorem dL_law_1130 : decode cL_law 1130 = .ok (.aload_n 1, 1) := by decide +kernel
theorem dL_law_1131 : decode cL_law 1131 = .ok (.aload_n 0, 1) := by decide +kernel
theorem dL_law_1132 : decode cL_law 1132 = .ok (.iload 5, 2) := by decide +kernel
theorem dL_law_1134 : decode cL_law 1134 = .ok (.iconst 1, 1) := by decide +kernel
theorem dL_law_1135 : decode cL_law 1135 = .ok (.iadd, 1) := by decide +kernel
theorem dL_law_1136 : decode cL_law 1136 = .ok (.iaload, 1) := by decide +kernel
theorem dL_law_1137 : decode cL_law 1137 = .ok (.aload_n 0, 1) := by decide +kernel
theorem dL_law_1138 : decode cL_law 1138 = .ok (.iload 5, 2) := by decide +kernel
theorem dL_law_1140 : decode cL_law 1140 = .ok (.iconst 2, 1) := by decide +kernel
theorem dL_law_1141 : decode cL_law 1141 = .ok (.iadd, 1) := by decide +kernel
theorem dL_law_1142 : decode cL_law 1142 = .ok (.iaload, 1) := by decide +kernel
theorem dL_law_1143 : decode cL_law 1143 = .ok (.aload_n 3, 1) := by decide +kernel
theorem dL_law_1144 : decode cL_law 1144 = .ok (.invokestatic 161, 3) := by decide +kernel
theorem dL_law_1147 : decode cL_law 1147 = .ok (.istore 6, 2) := by decide +kernel
theorem dL_law_1149 : decode cL_law 1149 = .ok (.aload_n 2, 1) := by decide +kernel
theorem dL_law_1150 : decode cL_law 1150 = .ok (.aload_n 0, 1) := by decide +kernel
theorem dL_law_1151 : decode cL_law 1151 = .ok (.iload 5, 2) := by decide +kernel
theorem dL_law_1153 : decode cL_law 1153 = .ok (.iconst 1, 1) := by decide +kernel
theorem dL_law_1154 : decode cL_law 1154 = .ok (.iadd, 1) := by decide +kernel
theorem dL_law_1155 : decode cL_law 1155 = .ok (.iaload, 1) := by decide +kernel
theorem dL_law_1156 : decode cL_law 1156 = .ok (.aload_n 0, 1) := by decide +kernel
theorem dL_law_1157 : decode cL_law 1157 = .ok (.iload 5, 2) := by decide +kernel
theorem dL_law_1159 : decode cL_law 1159 = .ok (.iconst 2, 1) := by decide +kernel
theorem dL_law_1160 : decode cL_law 1160 = .ok (.iadd, 1) := by decide +kernel
theorem dL_law_1161 : decode cL_law 1161 = .ok (.iaload, 1) := by decide +kernel
theorem dL_law_1162 : decode cL_law 1162 = .ok (.invokevirtual 163, 3) := by decide +kernel
theorem dL_law_1165 : decode cL_law 1165 = .ok (.istore 7, 2) := by decide +kernel
theorem dL_law_1167 : decode cL_law 1167 = .ok (.aload_n 2, 1) := by decide +kernel
theorem dL_law_1168 : decode cL_law 1168 = .ok (.invokevirtual 105, 3) := by decide +kernel
theorem dL_law_1171 : decode cL_law 1171 = .ok (.iload 6, 2) := by decide +kernel
theorem dL_law_1173 : decode cL_law 1173 = .ok (.if_icmp .eq 5, 3) := by decide +kernel
theorem dL_law_1176 : decode cL_law 1176 = .ok (.iconst 0, 1) := by decide +kernel
theorem dL_law_1177 : decode cL_law 1177 = .ok (.ireturn, 1) := by decide +kernel
theorem dL_law_1178 : decode cL_law 1178 = .ok (.iload 6, 2) := by decide +kernel
theorem dL_law_1180 : decode cL_law 1180 = .ok (.ifCond .ne 15, 3) := by decide +kernel
theorem dL_law_1183 : decode cL_law 1183 = .ok (.aload_n 3, 1) := by decide +kernel
theorem dL_law_1184 : decode cL_law 1184 = .ok (.iconst 0, 1) := by decide +kernel
theorem dL_law_1185 : decode cL_law 1185 = .ok (.laload, 1) := by decide +kernel
theorem dL_law_1186 : decode cL_law 1186 = .ok (.iload 7, 2) := by decide +kernel
theorem dL_law_1188 : decode cL_law 1188 = .ok (.i2l, 1) := by decide +kernel
theorem dL_law_1189 : decode cL_law 1189 = .ok (.lcmp, 1) := by decide +kernel
theorem dL_law_1190 : decode cL_law 1190 = .ok (.ifCond .eq 5, 3) := by decide +kernel
theorem dL_law_1193 : decode cL_law 1193 = .ok (.iconst 0, 1) := by decide +kernel
theorem dL_law_1194 : decode cL_law 1194 = .ok (.ireturn, 1) := by decide +kernel
theorem dL_law_1195 : decode cL_law 1195 = .ok (.goto 645, 3) := by decide +kernel
theorem dL_law_1198 : decode cL_law 1198 = .ok (.aload_n 1, 1) := by decide +kernel
theorem dL_law_1199 : decode cL_law 1199 = .ok (.aload_n 0, 1) := by decide +kernel
theorem dL_law_1200 : decode cL_law 1200 = .ok (.iload 5, 2) := by decide +kernel
theorem dL_law_1202 : decode cL_law 1202 = .ok (.iconst 1, 1) := by decide +kernel
theorem dL_law_1203 : decode cL_law 1203 = .ok (.iadd, 1) := by decide +kernel
theorem dL_law_1204 : decode cL_law 1204 = .ok (.iaload, 1) := by decide +kernel
theorem dL_law_1205 : decode cL_law 1205 = .ok (.aload_n 0, 1) := by decide +kernel
theorem dL_law_1206 : decode cL_law 1206 = .ok (.iload 5, 2) := by decide +kernel
theorem dL_law_1208 : decode cL_law 1208 = .ok (.iconst 2, 1) := by decide +kernel
theorem dL_law_1209 : decode cL_law 1209 = .ok (.iadd, 1) := by decide +kernel
theorem dL_law_1210 : decode cL_law 1210 = .ok (.iaload, 1) := by decide +kernel
theorem dL_law_1211 : decode cL_law 1211 = .ok (.aload_n 3, 1) := by decide +kernel
theorem dL_law_1212 : decode cL_law 1212 = .ok (.invokestatic 164, 3) := by decide +kernel
theorem dL_law_1215 : decode cL_law 1215 = .ok (.istore 6, 2) := by decide +kernel
theorem dL_law_1217 : decode cL_law 1217 = .ok (.aload_n 2, 1) := by decide +kernel
theorem dL_law_1218 : decode cL_law 1218 = .ok (.aload_n 0, 1) := by decide +kernel
theorem dL_law_1219 : decode cL_law 1219 = .ok (.iload 5, 2) := by decide +kernel
theorem dL_law_1221 : decode cL_law 1221 = .ok (.iconst 1, 1) := by decide +kernel
theorem dL_law_1222 : decode cL_law 1222 = .ok (.iadd, 1) := by decide +kernel
theorem dL_law_1223 : decode cL_law 1223 = .ok (.iaload, 1) := by decide +kernel
theorem dL_law_1224 : decode cL_law 1224 = .ok (.aload_n 0, 1) := by decide +kernel
theorem dL_law_1225 : decode cL_law 1225 = .ok (.iload 5, 2) := by decide +kernel
theorem dL_law_1227 : decode cL_law 1227 = .ok (.iconst 2, 1) := by decide +kernel
theorem dL_law_1228 : decode cL_law 1228 = .ok (.iadd, 1) := by decide +kernel
theorem dL_law_1229 : decode cL_law 1229 = .ok (.iaload, 1) := by decide +kernel
theorem dL_law_1230 : decode cL_law 1230 = .ok (.invokevirtual 166, 3) := by decide +kernel
theorem dL_law_1233 : decode cL_law 1233 = .ok (.istore 7, 2) := by decide +kernel
theorem dL_law_1235 : decode cL_law 1235 = .ok (.aload_n 2, 1) := by decide +kernel
theorem dL_law_1236 : decode cL_law 1236 = .ok (.invokevirtual 105, 3) := by decide +kernel
theorem dL_law_1239 : decode cL_law 1239 = .ok (.iload 6, 2) := by decide +kernel
theorem dL_law_1241 : decode cL_law 1241 = .ok (.if_icmp .eq 5, 3) := by decide +kernel
theorem dL_law_1244 : decode cL_law 1244 = .ok (.iconst 0, 1) := by decide +kernel
theorem dL_law_1245 : decode cL_law 1245 = .ok (.ireturn, 1) := by decide +kernel
theorem dL_law_1246 : decode cL_law 1246 = .ok (.iload 6, 2) := by decide +kernel
theorem dL_law_1248 : decode cL_law 1248 = .ok (.ifCond .ne 15, 3) := by decide +kernel
theorem dL_law_1251 : decode cL_law 1251 = .ok (.aload_n 3, 1) := by decide +kernel
theorem dL_law_1252 : decode cL_law 1252 = .ok (.iconst 0, 1) := by decide +kernel
theorem dL_law_1253 : decode cL_law 1253 = .ok (.laload, 1) := by decide +kernel
theorem dL_law_1254 : decode cL_law 1254 = .ok (.iload 7, 2) := by decide +kernel
theorem dL_law_1256 : decode cL_law 1256 = .ok (.i2l, 1) := by decide +kernel
theorem dL_law_1257 : decode cL_law 1257 = .ok (.lcmp, 1) := by decide +kernel
theorem dL_law_1258 : decode cL_law 1258 = .ok (.ifCond .eq 5, 3) := by decide +kernel
theorem dL_law_1261 : decode cL_law 1261 = .ok (.iconst 0, 1) := by decide +kernel
theorem dL_law_1262 : decode cL_law 1262 = .ok (.ireturn, 1) := by decide +kernel
theorem dL_law_1263 : decode cL_law 1263 = .ok (.goto 577, 3) := by decide +kernel
theorem dL_law_1266 : decode cL_law 1266 = .ok (.aload_n 1, 1) := by decide +kernel
theorem dL_law_1267 : decode cL_law 1267 = .ok (.aload_n 0, 1) := by decide +kernel
theorem dL_law_1268 : decode cL_law 1268 = .ok (.iload 5, 2) := by decide +kernel
theorem dL_law_1270 : decode cL_law 1270 = .ok (.iconst 1, 1) := by decide +kernel
theorem dL_law_1271 : decode cL_law 1271 = .ok (.iadd, 1) := by decide +kernel
theorem dL_law_1272 : decode cL_law 1272 = .ok (.iaload, 1) := by decide +kernel
theorem dL_law_1273 : decode cL_law 1273 = .ok (.aload_n 3, 1) := by decide +kernel
theorem dL_law_1274 : decode cL_law 1274 = .ok (.invokestatic 167, 3) := by decide +kernel
theorem dL_law_1277 : decode cL_law 1277 = .ok (.istore 6, 2) := by decide +kernel
theorem dL_law_1279 : decode cL_law 1279 = .ok (.aload_n 2, 1) := by decide +kernel
theorem dL_law_1280 : decode cL_law 1280 = .ok (.aload_n 0, 1) := by decide +kernel
theorem dL_law_1281 : decode cL_law 1281 = .ok (.iload 5, 2) := by decide +kernel
theorem dL_law_1283 : decode cL_law 1283 = .ok (.iconst 1, 1) := by decide +kernel
theorem dL_law_1284 : decode cL_law 1284 = .ok (.iadd, 1) := by decide +kernel
theorem dL_law_1285 : decode cL_law 1285 = .ok (.iaload, 1) := by decide +kernel
theorem dL_law_1286 : decode cL_law 1286 = .ok (.invokevirtual 169, 3) := by decide +kernel
theorem dL_law_1289 : decode cL_law 1289 = .ok (.istore 7, 2) := by decide +kernel
theorem dL_law_1291 : decode cL_law 1291 = .ok (.aload_n 2, 1) := by decide +kernel
theorem dL_law_1292 : decode cL_law 1292 = .ok (.invokevirtual 105, 3) := by decide +kernel
theorem dL_law_1295 : decode cL_law 1295 = .ok (.iload 6, 2) := by decide +kernel
theorem dL_law_1297 : decode cL_law 1297 = .ok (.if_icmp .eq 5, 3) := by decide +kernel
theorem dL_law_1300 : decode cL_law 1300 = .ok (.iconst 0, 1) := by decide +kernel
theorem dL_law_1301 : decode cL_law 1301 = .ok (.ireturn, 1) := by decide +kernel
theorem dL_law_1302 : decode cL_law 1302 = .ok (.iload 6, 2) := by decide +kernel
theorem dL_law_1304 : decode cL_law 1304 = .ok (.ifCond .ne 15, 3) := by decide +kernel
theorem dL_law_1307 : decode cL_law 1307 = .ok (.aload_n 3, 1) := by decide +kernel
theorem dL_law_1308 : decode cL_law 1308 = .ok (.iconst 0, 1) := by decide +kernel
theorem dL_law_1309 : decode cL_law 1309 = .ok (.laload, 1) := by decide +kernel
theorem dL_law_1310 : decode cL_law 1310 = .ok (.iload 7, 2) := by decide +kernel
theorem dL_law_1312 : decode cL_law 1312 = .ok (.i2l, 1) := by decide +kernel
theorem dL_law_1313 : decode cL_law 1313 = .ok (.lcmp, 1) := by decide +kernel
theorem dL_law_1314 : decode cL_law 1314 = .ok (.ifCond .eq 5, 3) := by decide +kernel
theorem dL_law_1317 : decode cL_law 1317 = .ok (.iconst 0, 1) := by decide +kernel
theorem dL_law_1318 : decode cL_law 1318 = .ok (.ireturn, 1) := by decide +kernel
theorem dL_law_1319 : decode cL_law 1319 = .ok (.goto 521, 3) := by decide +kernel
theorem dL_law_1322 : decode cL_law 1322 = .ok (.aload_n 1, 1) := by decide +kernel
theorem dL_law_1323 : decode cL_law 1323 = .ok (.aload_n 0, 1) := by decide +kernel
theorem dL_law_1324 : decode cL_law 1324 = .ok (.iload 5, 2) := by decide +kernel
theorem dL_law_1326 : decode cL_law 1326 = .ok (.iconst 1, 1) := by decide +kernel
theorem dL_law_1327 : decode cL_law 1327 = .ok (.iadd, 1) := by decide +kernel
theorem dL_law_1328 : decode cL_law 1328 = .ok (.iaload, 1) := by decide +kernel
theorem dL_law_1329 : decode cL_law 1329 = .ok (.aload_n 3, 1) := by decide +kernel
theorem dL_law_1330 : decode cL_law 1330 = .ok (.invokestatic 170, 3) := by decide +kernel
theorem dL_law_1333 : decode cL_law 1333 = .ok (.istore 6, 2) := by decide +kernel
theorem dL_law_1335 : decode cL_law 1335 = .ok (.aload_n 2, 1) := by decide +kernel
theorem dL_law_1336 : decode cL_law 1336 = .ok (.aload_n 0, 1) := by decide +kernel
theorem dL_law_1337 : decode cL_law 1337 = .ok (.iload 5, 2) := by decide +kernel
theorem dL_law_1339 : decode cL_law 1339 = .ok (.iconst 1, 1) := by decide +kernel
theorem dL_law_1340 : decode cL_law 1340 = .ok (.iadd, 1) := by decide +kernel
theorem dL_law_1341 : decode cL_law 1341 = .ok (.iaload, 1) := by decide +kernel
theorem dL_law_1342 : decode cL_law 1342 = .ok (.invokevirtual 172, 3) := by decide +kernel
theorem dL_law_1345 : decode cL_law 1345 = .ok (.istore 7, 2) := by decide +kernel
theorem dL_law_1347 : decode cL_law 1347 = .ok (.aload_n 2, 1) := by decide +kernel
theorem dL_law_1348 : decode cL_law 1348 = .ok (.invokevirtual 105, 3) := by decide +kernel
theorem dL_law_1351 : decode cL_law 1351 = .ok (.iload 6, 2) := by decide +kernel
theorem dL_law_1353 : decode cL_law 1353 = .ok (.if_icmp .eq 5, 3) := by decide +kernel
theorem dL_law_1356 : decode cL_law 1356 = .ok (.iconst 0, 1) := by decide +kernel
theorem dL_law_1357 : decode cL_law 1357 = .ok (.ireturn, 1) := by decide +kernel
theorem dL_law_1358 : decode cL_law 1358 = .ok (.iload 6, 2) := by decide +kernel
theorem dL_law_1360 : decode cL_law 1360 = .ok (.ifCond .ne 15, 3) := by decide +kernel
theorem dL_law_1363 : decode cL_law 1363 = .ok (.aload_n 3, 1) := by decide +kernel
theorem dL_law_1364 : decode cL_law 1364 = .ok (.iconst 0, 1) := by decide +kernel
theorem dL_law_1365 : decode cL_law 1365 = .ok (.laload, 1) := by decide +kernel
theorem dL_law_1366 : decode cL_law 1366 = .ok (.iload 7, 2) := by decide +kernel
theorem dL_law_1368 : decode cL_law 1368 = .ok (.i2l, 1) := by decide +kernel
theorem dL_law_1369 : decode cL_law 1369 = .ok (.lcmp, 1) := by decide +kernel
theorem dL_law_1370 : decode cL_law 1370 = .ok (.ifCond .eq 5, 3) := by decide +kernel
theorem dL_law_1373 : decode cL_law 1373 = .ok (.iconst 0, 1) := by decide +kernel
theorem dL_law_1374 : decode cL_law 1374 = .ok (.ireturn, 1) := by decide +kernel
theorem dL_law_1375 : decode cL_law 1375 = .ok (.goto 465, 3) := by decide +kernel
theorem dL_law_1378 : decode cL_law 1378 = .ok (.aload_n 1, 1) := by decide +kernel
theorem dL_law_1379 : decode cL_law 1379 = .ok (.aload_n 0, 1) := by decide +kernel
theorem dL_law_1380 : decode cL_law 1380 = .ok (.iload 5, 2) := by decide +kernel
theorem dL_law_1382 : decode cL_law 1382 = .ok (.iconst 1, 1) := by decide +kernel
theorem dL_law_1383 : decode cL_law 1383 = .ok (.iadd, 1) := by decide +kernel
theorem dL_law_1384 : decode cL_law 1384 = .ok (.iaload, 1) := by decide +kernel
theorem dL_law_1385 : decode cL_law 1385 = .ok (.aload_n 3, 1) := by decide +kernel
theorem dL_law_1386 : decode cL_law 1386 = .ok (.invokestatic 173, 3) := by decide +kernel
theorem dL_law_1389 : decode cL_law 1389 = .ok (.istore 6, 2) := by decide +kernel
theorem dL_law_1391 : decode cL_law 1391 = .ok (.aload_n 2, 1) := by decide +kernel
theorem dL_law_1392 : decode cL_law 1392 = .ok (.aload_n 0, 1) := by decide +kernel
theorem dL_law_1393 : decode cL_law 1393 = .ok (.iload 5, 2) := by decide +kernel
theorem dL_law_1395 : decode cL_law 1395 = .ok (.iconst 1, 1) := by decide +kernel
theorem dL_law_1396 : decode cL_law 1396 = .ok (.iadd, 1) := by decide +kernel
theorem dL_law_1397 : decode cL_law 1397 = .ok (.iaload, 1) := by decide +kernel
theorem dL_law_1398 : decode cL_law 1398 = .ok (.invokevirtual 175, 3) := by decide +kernel
theorem dL_law_1401 : decode cL_law 1401 = .ok (.istore 7, 2) := by decide +kernel
theorem dL_law_1403 : decode cL_law 1403 = .ok (.aload_n 2, 1) := by decide +kernel
theorem dL_law_1404 : decode cL_law 1404 = .ok (.invokevirtual 105, 3) := by decide +kernel
theorem dL_law_1407 : decode cL_law 1407 = .ok (.iload 6, 2) := by decide +kernel
theorem dL_law_1409 : decode cL_law 1409 = .ok (.if_icmp .eq 5, 3) := by decide +kernel
theorem dL_law_1412 : decode cL_law 1412 = .ok (.iconst 0, 1) := by decide +kernel
theorem dL_law_1413 : decode cL_law 1413 = .ok (.ireturn, 1) := by decide +kernel
theorem dL_law_1414 : decode cL_law 1414 = .ok (.iload 6, 2) := by decide +kernel
theorem dL_law_1416 : decode cL_law 1416 = .ok (.ifCond .ne 15, 3) := by decide +kernel
theorem dL_law_1419 : decode cL_law 1419 = .ok (.aload_n 3, 1) := by decide +kernel
theorem dL_law_1420 : decode cL_law 1420 = .ok (.iconst 0, 1) := by decide +kernel
theorem dL_law_1421 : decode cL_law 1421 = .ok (.laload, 1) := by decide +kernel
theorem dL_law_1422 : decode cL_law 1422 = .ok (.iload 7, 2) := by decide +kernel
theorem dL_law_1424 : decode cL_law 1424 = .ok (.i2l, 1) := by decide +kernel
theorem dL_law_1425 : decode cL_law 1425 = .ok (.lcmp, 1) := by decide +kernel
theorem dL_law_1426 : decode cL_law 1426 = .ok (.ifCond .eq 5, 3) := by decide +kernel
theorem dL_law_1429 : decode cL_law 1429 = .ok (.iconst 0, 1) := by decide +kernel
theorem dL_law_1430 : decode cL_law 1430 = .ok (.ireturn, 1) := by decide +kernel
theorem dL_law_1431 : decode cL_law 1431 = .ok (.goto 409, 3) := by decide +kernel
theorem dL_law_1434 : decode cL_law 1434 = .ok (.aload_n 1, 1) := by decide +kernel
theorem dL_law_1435 : decode cL_law 1435 = .ok (.aload_n 0, 1) := by decide +kernel
theorem dL_law_1436 : decode cL_law 1436 = .ok (.iload 5, 2) := by decide +kernel
theorem dL_law_1438 : decode cL_law 1438 = .ok (.iconst 1, 1) := by decide +kernel
theorem dL_law_1439 : decode cL_law 1439 = .ok (.iadd, 1) := by decide +kernel
theorem dL_law_1440 : decode cL_law 1440 = .ok (.iaload, 1) := by decide +kernel
theorem dL_law_1441 : decode cL_law 1441 = .ok (.aload_n 3, 1) := by decide +kernel
theorem dL_law_1442 : decode cL_law 1442 = .ok (.invokestatic 176, 3) := by decide +kernel
theorem dL_law_1445 : decode cL_law 1445 = .ok (.istore 6, 2) := by decide +kernel
theorem dL_law_1447 : decode cL_law 1447 = .ok (.aload_n 2, 1) := by decide +kernel
theorem dL_law_1448 : decode cL_law 1448 = .ok (.aload_n 0, 1) := by decide +kernel
theorem dL_law_1449 : decode cL_law 1449 = .ok (.iload 5, 2) := by decide +kernel
theorem dL_law_1451 : decode cL_law 1451 = .ok (.iconst 1, 1) := by decide +kernel
theorem dL_law_1452 : decode cL_law 1452 = .ok (.iadd, 1) := by decide +kernel
theorem dL_law_1453 : decode cL_law 1453 = .ok (.iaload, 1) := by decide +kernel
theorem dL_law_1454 : decode cL_law 1454 = .ok (.invokevirtual 178, 3) := by decide +kernel
theorem dL_law_1457 : decode cL_law 1457 = .ok (.istore 7, 2) := by decide +kernel
theorem dL_law_1459 : decode cL_law 1459 = .ok (.aload_n 2, 1) := by decide +kernel
theorem dL_law_1460 : decode cL_law 1460 = .ok (.invokevirtual 105, 3) := by decide +kernel
theorem dL_law_1463 : decode cL_law 1463 = .ok (.iload 6, 2) := by decide +kernel
theorem dL_law_1465 : decode cL_law 1465 = .ok (.if_icmp .eq 5, 3) := by decide +kernel
theorem dL_law_1468 : decode cL_law 1468 = .ok (.iconst 0, 1) := by decide +kernel
theorem dL_law_1469 : decode cL_law 1469 = .ok (.ireturn, 1) := by decide +kernel
theorem dL_law_1470 : decode cL_law 1470 = .ok (.iload 6, 2) := by decide +kernel
theorem dL_law_1472 : decode cL_law 1472 = .ok (.ifCond .ne 15, 3) := by decide +kernel
theorem dL_law_1475 : decode cL_law 1475 = .ok (.aload_n 3, 1) := by decide +kernel
theorem dL_law_1476 : decode cL_law 1476 = .ok (.iconst 0, 1) := by decide +kernel
theorem dL_law_1477 : decode cL_law 1477 = .ok (.laload, 1) := by decide +kernel
theorem dL_law_1478 : decode cL_law 1478 = .ok (.iload 7, 2) := by decide +kernel
theorem dL_law_1480 : decode cL_law 1480 = .ok (.i2l, 1) := by decide +kernel
theorem dL_law_1481 : decode cL_law 1481 = .ok (.lcmp, 1) := by decide +kernel
theorem dL_law_1482 : decode cL_law 1482 = .ok (.ifCond .eq 5, 3) := by decide +kernel
theorem dL_law_1485 : decode cL_law 1485 = .ok (.iconst 0, 1) := by decide +kernel
theorem dL_law_1486 : decode cL_law 1486 = .ok (.ireturn, 1) := by decide +kernel
theorem dL_law_1487 : decode cL_law 1487 = .ok (.goto 353, 3) := by decide +kernel
theorem dL_law_1490 : decode cL_law 1490 = .ok (.aload_n 1, 1) := by decide +kernel
theorem dL_law_1491 : decode cL_law 1491 = .ok (.aload_n 0, 1) := by decide +kernel
theorem dL_law_1492 : decode cL_law 1492 = .ok (.iload 5, 2) := by decide +kernel
theorem dL_law_1494 : decode cL_law 1494 = .ok (.iconst 1, 1) := by decide +kernel
theorem dL_law_1495 : decode cL_law 1495 = .ok (.iadd, 1) := by decide +kernel
theorem dL_law_1496 : decode cL_law 1496 = .ok (.iaload, 1) := by decide +kernel
theorem dL_law_1497 : decode cL_law 1497 = .ok (.aload_n 0, 1) := by decide +kernel
theorem dL_law_1498 : decode cL_law 1498 = .ok (.iload 5, 2) := by decide +kernel
theorem dL_law_1500 : decode cL_law 1500 = .ok (.iconst 2, 1) := by decide +kernel
theorem dL_law_1501 : decode cL_law 1501 = .ok (.iadd, 1) := by decide +kernel
theorem dL_law_1502 : decode cL_law 1502 = .ok (.iaload, 1) := by decide +kernel
theorem dL_law_1503 : decode cL_law 1503 = .ok (.aload_n 3, 1) := by decide +kernel
theorem dL_law_1504 : decode cL_law 1504 = .ok (.invokestatic 179, 3) := by decide +kernel
theorem dL_law_1507 : decode cL_law 1507 = .ok (.istore 6, 2) := by decide +kernel
theorem dL_law_1509 : decode cL_law 1509 = .ok (.aload_n 2, 1) := by decide +kernel
theorem dL_law_1510 : decode cL_law 1510 = .ok (.aload_n 0, 1) := by decide +kernel
theorem dL_law_1511 : decode cL_law 1511 = .ok (.iload 5, 2) := by decide +kernel
theorem dL_law_1513 : decode cL_law 1513 = .ok (.iconst 1, 1) := by decide +kernel
theorem dL_law_1514 : decode cL_law 1514 = .ok (.iadd, 1) := by decide +kernel
theorem dL_law_1515 : decode cL_law 1515 = .ok (.iaload, 1) := by decide +kernel
theorem dL_law_1516 : decode cL_law 1516 = .ok (.aload_n 0, 1) := by decide +kernel
theorem dL_law_1517 : decode cL_law 1517 = .ok (.iload 5, 2) := by decide +kernel
theorem dL_law_1519 : decode cL_law 1519 = .ok (.iconst 2, 1) := by decide +kernel
theorem dL_law_1520 : decode cL_law 1520 = .ok (.iadd, 1) := by decide +kernel
theorem dL_law_1521 : decode cL_law 1521 = .ok (.iaload, 1) := by decide +kernel
theorem dL_law_1522 : decode cL_law 1522 = .ok (.invokevirtual 181, 3) := by decide +kernel
theorem dL_law_1525 : decode cL_law 1525 = .ok (.istore 7, 2) := by decide +kernel
theorem dL_law_1527 : decode cL_law 1527 = .ok (.aload_n 2, 1) := by decide +kernel
theorem dL_law_1528 : decode cL_law 1528 = .ok (.invokevirtual 105, 3) := by decide +kernel
theorem dL_law_1531 : decode cL_law 1531 = .ok (.iload 6, 2) := by decide +kernel
theorem dL_law_1533 : decode cL_law 1533 = .ok (.if_icmp .eq 5, 3) := by decide +kernel
theorem dL_law_1536 : decode cL_law 1536 = .ok (.iconst 0, 1) := by decide +kernel
theorem dL_law_1537 : decode cL_law 1537 = .ok (.ireturn, 1) := by decide +kernel
theorem dL_law_1538 : decode cL_law 1538 = .ok (.iload 6, 2) := by decide +kernel
theorem dL_law_1540 : decode cL_law 1540 = .ok (.ifCond .ne 15, 3) := by decide +kernel
theorem dL_law_1543 : decode cL_law 1543 = .ok (.aload_n 3, 1) := by decide +kernel
theorem dL_law_1544 : decode cL_law 1544 = .ok (.iconst 0, 1) := by decide +kernel
theorem dL_law_1545 : decode cL_law 1545 = .ok (.laload, 1) := by decide +kernel
theorem dL_law_1546 : decode cL_law 1546 = .ok (.iload 7, 2) := by decide +kernel
theorem dL_law_1548 : decode cL_law 1548 = .ok (.i2l, 1) := by decide +kernel
theorem dL_law_1549 : decode cL_law 1549 = .ok (.lcmp, 1) := by decide +kernel
theorem dL_law_1550 : decode cL_law 1550 = .ok (.ifCond .eq 5, 3) := by decide +kernel
theorem dL_law_1553 : decode cL_law 1553 = .ok (.iconst 0, 1) := by decide +kernel
theorem dL_law_1554 : decode cL_law 1554 = .ok (.ireturn, 1) := by decide +kernel
theorem dL_law_1555 : decode cL_law 1555 = .ok (.goto 285, 3) := by decide +kernel
theorem dL_law_1558 : decode cL_law 1558 = .ok (.aload_n 1, 1) := by decide +kernel
theorem dL_law_1559 : decode cL_law 1559 = .ok (.aload_n 0, 1) := by decide +kernel
theorem dL_law_1560 : decode cL_law 1560 = .ok (.iload 5, 2) := by decide +kernel
theorem dL_law_1562 : decode cL_law 1562 = .ok (.iconst 1, 1) := by decide +kernel
theorem dL_law_1563 : decode cL_law 1563 = .ok (.iadd, 1) := by decide +kernel
theorem dL_law_1564 : decode cL_law 1564 = .ok (.iaload, 1) := by decide +kernel
theorem dL_law_1565 : decode cL_law 1565 = .ok (.aload_n 3, 1) := by decide +kernel
theorem dL_law_1566 : decode cL_law 1566 = .ok (.invokestatic 182, 3) := by decide +kernel
theorem dL_law_1569 : decode cL_law 1569 = .ok (.istore 6, 2) := by decide +kernel
theorem dL_law_1571 : decode cL_law 1571 = .ok (.aload_n 2, 1) := by decide +kernel
theorem dL_law_1572 : decode cL_law 1572 = .ok (.aload_n 0, 1) := by decide +kernel
theorem dL_law_1573 : decode cL_law 1573 = .ok (.iload 5, 2) := by decide +kernel
theorem dL_law_1575 : decode cL_law 1575 = .ok (.iconst 1, 1) := by decide +kernel
theorem dL_law_1576 : decode cL_law 1576 = .ok (.iadd, 1) := by decide +kernel
theorem dL_law_1577 : decode cL_law 1577 = .ok (.iaload, 1) := by decide +kernel
theorem dL_law_1578 : decode cL_law 1578 = .ok (.invokevirtual 184, 3) := by decide +kernel
theorem dL_law_1581 : decode cL_law 1581 = .ok (.istore 7, 2) := by decide +kernel
theorem dL_law_1583 : decode cL_law 1583 = .ok (.aload_n 2, 1) := by decide +kernel
theorem dL_law_1584 : decode cL_law 1584 = .ok (.invokevirtual 105, 3) := by decide +kernel
theorem dL_law_1587 : decode cL_law 1587 = .ok (.iload 6, 2) := by decide +kernel
theorem dL_law_1589 : decode cL_law 1589 = .ok (.if_icmp .eq 5, 3) := by decide +kernel
theorem dL_law_1592 : decode cL_law 1592 = .ok (.iconst 0, 1) := by decide +kernel
theorem dL_law_1593 : decode cL_law 1593 = .ok (.ireturn, 1) := by decide +kernel
theorem dL_law_1594 : decode cL_law 1594 = .ok (.iload 6, 2) := by decide +kernel
theorem dL_law_1596 : decode cL_law 1596 = .ok (.ifCond .ne 15, 3) := by decide +kernel
theorem dL_law_1599 : decode cL_law 1599 = .ok (.aload_n 3, 1) := by decide +kernel
theorem dL_law_1600 : decode cL_law 1600 = .ok (.iconst 0, 1) := by decide +kernel
theorem dL_law_1601 : decode cL_law 1601 = .ok (.laload, 1) := by decide +kernel
theorem dL_law_1602 : decode cL_law 1602 = .ok (.iload 7, 2) := by decide +kernel
theorem dL_law_1604 : decode cL_law 1604 = .ok (.i2l, 1) := by decide +kernel
theorem dL_law_1605 : decode cL_law 1605 = .ok (.lcmp, 1) := by decide +kernel
theorem dL_law_1606 : decode cL_law 1606 = .ok (.ifCond .eq 5, 3) := by decide +kernel
theorem dL_law_1609 : decode cL_law 1609 = .ok (.iconst 0, 1) := by decide +kernel
theorem dL_law_1610 : decode cL_law 1610 = .ok (.ireturn, 1) := by decide +kernel
theorem dL_law_1611 : decode cL_law 1611 = .ok (.goto 229, 3) := by decide +kernel
theorem dL_law_1614 : decode cL_law 1614 = .ok (.aload_n 1, 1) := by decide +kernel
theorem dL_law_1615 : decode cL_law 1615 = .ok (.aload_n 0, 1) := by decide +kernel
theorem dL_law_1616 : decode cL_law 1616 = .ok (.iload 5, 2) := by decide +kernel
theorem dL_law_1618 : decode cL_law 1618 = .ok (.iconst 1, 1) := by decide +kernel
theorem dL_law_1619 : decode cL_law 1619 = .ok (.iadd, 1) := by decide +kernel
theorem dL_law_1620 : decode cL_law 1620 = .ok (.iaload, 1) := by decide +kernel
theorem dL_law_1621 : decode cL_law 1621 = .ok (.aload_n 0, 1) := by decide +kernel
theorem dL_law_1622 : decode cL_law 1622 = .ok (.iload 5, 2) := by decide +kernel
theorem dL_law_1624 : decode cL_law 1624 = .ok (.iconst 2, 1) := by decide +kernel
theorem dL_law_1625 : decode cL_law 1625 = .ok (.iadd, 1) := by decide +kernel
theorem dL_law_1626 : decode cL_law 1626 = .ok (.iaload, 1) := by decide +kernel
theorem dL_law_1627 : decode cL_law 1627 = .ok (.aload_n 0, 1) := by decide +kernel
theorem dL_law_1628 : decode cL_law 1628 = .ok (.iload 5, 2) := by decide +kernel
theorem dL_law_1630 : decode cL_law 1630 = .ok (.iconst 3, 1) := by decide +kernel
theorem dL_law_1631 : decode cL_law 1631 = .ok (.iadd, 1) := by decide +kernel
theorem dL_law_1632 : decode cL_law 1632 = .ok (.iaload, 1) := by decide +kernel
theorem dL_law_1633 : decode cL_law 1633 = .ok (.aload_n 3, 1) := by decide +kernel
theorem dL_law_1634 : decode cL_law 1634 = .ok (.invokestatic 185, 3) := by decide +kernel
theorem dL_law_1637 : decode cL_law 1637 = .ok (.istore 6, 2) := by decide +kernel
theorem dL_law_1639 : decode cL_law 1639 = .ok (.aload_n 2, 1) := by decide +kernel
theorem dL_law_1640 : decode cL_law 1640 = .ok (.aload_n 0, 1) := by decide +kernel
theorem dL_law_1641 : decode cL_law 1641 = .ok (.iload 5, 2) := by decide +kernel
theorem dL_law_1643 : decode cL_law 1643 = .ok (.iconst 1, 1) := by decide +kernel
theorem dL_law_1644 : decode cL_law 1644 = .ok (.iadd, 1) := by decide +kernel
theorem dL_law_1645 : decode cL_law 1645 = .ok (.iaload, 1) := by decide +kernel
theorem dL_law_1646 : decode cL_law 1646 = .ok (.aload_n 0, 1) := by decide +kernel
theorem dL_law_1647 : decode cL_law 1647 = .ok (.iload 5, 2) := by decide +kernel
theorem dL_law_1649 : decode cL_law 1649 = .ok (.iconst 2, 1) := by decide +kernel
theorem dL_law_1650 : decode cL_law 1650 = .ok (.iadd, 1) := by decide +kernel
theorem dL_law_1651 : decode cL_law 1651 = .ok (.iaload, 1) := by decide +kernel
theorem dL_law_1652 : decode cL_law 1652 = .ok (.aload_n 0, 1) := by decide +kernel
theorem dL_law_1653 : decode cL_law 1653 = .ok (.iload 5, 2) := by decide +kernel
theorem dL_law_1655 : decode cL_law 1655 = .ok (.iconst 3, 1) := by decide +kernel
theorem dL_law_1656 : decode cL_law 1656 = .ok (.iadd, 1) := by decide +kernel
theorem dL_law_1657 : decode cL_law 1657 = .ok (.iaload, 1) := by decide +kernel
theorem dL_law_1658 : decode cL_law 1658 = .ok (.invokevirtual 187, 3) := by decide +kernel
theorem dL_law_1661 : decode cL_law 1661 = .ok (.istore 7, 2) := by decide +kernel
theorem dL_law_1663 : decode cL_law 1663 = .ok (.aload_n 2, 1) := by decide +kernel
theorem dL_law_1664 : decode cL_law 1664 = .ok (.invokevirtual 105, 3) := by decide +kernel
theorem dL_law_1667 : decode cL_law 1667 = .ok (.iload 6, 2) := by decide +kernel
theorem dL_law_1669 : decode cL_law 1669 = .ok (.if_icmp .eq 5, 3) := by decide +kernel
theorem dL_law_1672 : decode cL_law 1672 = .ok (.iconst 0, 1) := by decide +kernel
theorem dL_law_1673 : decode cL_law 1673 = .ok (.ireturn, 1) := by decide +kernel
theorem dL_law_1674 : decode cL_law 1674 = .ok (.iload 6, 2) := by decide +kernel
theorem dL_law_1676 : decode cL_law 1676 = .ok (.ifCond .ne 15, 3) := by decide +kernel
theorem dL_law_1679 : decode cL_law 1679 = .ok (.aload_n 3, 1) := by decide +kernel
theorem dL_law_1680 : decode cL_law 1680 = .ok (.iconst 0, 1) := by decide +kernel
theorem dL_law_1681 : decode cL_law 1681 = .ok (.laload, 1) := by decide +kernel
theorem dL_law_1682 : decode cL_law 1682 = .ok (.iload 7, 2) := by decide +kernel
theorem dL_law_1684 : decode cL_law 1684 = .ok (.i2l, 1) := by decide +kernel
theorem dL_law_1685 : decode cL_law 1685 = .ok (.lcmp, 1) := by decide +kernel
theorem dL_law_1686 : decode cL_law 1686 = .ok (.ifCond .eq 5, 3) := by decide +kernel
theorem dL_law_1689 : decode cL_law 1689 = .ok (.iconst 0, 1) := by decide +kernel
theorem dL_law_1690 : decode cL_law 1690 = .ok (.ireturn, 1) := by decide +kernel
theorem dL_law_1691 : decode cL_law 1691 = .ok (.goto 149, 3) := by decide +kernel
theorem dL_law_1694 : decode cL_law 1694 = .ok (.aload_n 1, 1) := by decide +kernel
theorem dL_law_1695 : decode cL_law 1695 = .ok (.invokevirtual 188, 3) := by decide +kernel
theorem dL_law_1698 : decode cL_law 1698 = .ok (.aload_n 2, 1) := by decide +kernel
theorem dL_law_1699 : decode cL_law 1699 = .ok (.invokevirtual 191, 3) := by decide +kernel
theorem dL_law_1702 : decode cL_law 1702 = .ok (.if_icmp .eq 138, 3) := by decide +kernel
theorem dL_law_1705 : decode cL_law 1705 = .ok (.iconst 0, 1) := by decide +kernel
theorem dL_law_1706 : decode cL_law 1706 = .ok (.ireturn, 1) := by decide +kernel
theorem dL_law_1707 : decode cL_law 1707 = .ok (.aload_n 1, 1) := by decide +kernel
theorem dL_law_1708 : decode cL_law 1708 = .ok (.invokevirtual 192, 3) := by decide +kernel
theorem dL_law_1711 : decode cL_law 1711 = .ok (.dstore 6, 2) := by decide +kernel
theorem dL_law_1713 : decode cL_law 1713 = .ok (.aload_n 2, 1) := by decide +kernel
theorem dL_law_1714 : decode cL_law 1714 = .ok (.invokevirtual 196, 3) := by decide +kernel
theorem dL_law_1717 : decode cL_law 1717 = .ok (.dstore 8, 2) := by decide +kernel
theorem dL_law_1719 : decode cL_law 1719 = .ok (.dload 6, 2) := by decide +kernel
theorem dL_law_1721 : decode cL_law 1721 = .ok (.dload 8, 2) := by decide +kernel
theorem dL_law_1723 : decode cL_law 1723 = .ok (.dcmp .l, 1) := by decide +kernel
theorem dL_law_1724 : decode cL_law 1724 = .ok (.ifCond .eq 21, 3) := by decide +kernel
theorem dL_law_1727 : decode cL_law 1727 = .ok (.dload 6, 2) := by decide +kernel
theorem dL_law_1729 : decode cL_law 1729 = .ok (.dload 6, 2) := by decide +kernel
theorem dL_law_1731 : decode cL_law 1731 = .ok (.dcmp .l, 1) := by decide +kernel
theorem dL_law_1732 : decode cL_law 1732 = .ok (.ifCond .eq 11, 3) := by decide +kernel
theorem dL_law_1735 : decode cL_law 1735 = .ok (.dload 8, 2) := by decide +kernel
theorem dL_law_1737 : decode cL_law 1737 = .ok (.dload 8, 2) := by decide +kernel
theorem dL_law_1739 : decode cL_law 1739 = .ok (.dcmp .l, 1) := by decide +kernel
theorem dL_law_1740 : decode cL_law 1740 = .ok (.ifCond .ne 5, 3) := by decide +kernel
theorem dL_law_1743 : decode cL_law 1743 = .ok (.iconst 0, 1) := by decide +kernel
theorem dL_law_1744 : decode cL_law 1744 = .ok (.ireturn, 1) := by decide +kernel
theorem dL_law_1745 : decode cL_law 1745 = .ok (.goto 95, 3) := by decide +kernel
theorem dL_law_1748 : decode cL_law 1748 = .ok (.aload_n 1, 1) := by decide +kernel
theorem dL_law_1749 : decode cL_law 1749 = .ok (.aload_n 0, 1) := by decide +kernel
theorem dL_law_1750 : decode cL_law 1750 = .ok (.iload 5, 2) := by decide +kernel
theorem dL_law_1752 : decode cL_law 1752 = .ok (.iconst 1, 1) := by decide +kernel
theorem dL_law_1753 : decode cL_law 1753 = .ok (.iadd, 1) := by decide +kernel
theorem dL_law_1754 : decode cL_law 1754 = .ok (.iaload, 1) := by decide +kernel
theorem dL_law_1755 : decode cL_law 1755 = .ok (.aload 4, 2) := by decide +kernel
theorem dL_law_1757 : decode cL_law 1757 = .ok (.invokestatic 197, 3) := by decide +kernel
theorem dL_law_1760 : decode cL_law 1760 = .ok (.istore 6, 2) := by decide +kernel
theorem dL_law_1762 : decode cL_law 1762 = .ok (.aload_n 2, 1) := by decide +kernel
theorem dL_law_1763 : decode cL_law 1763 = .ok (.aload_n 0, 1) := by decide +kernel
theorem dL_law_1764 : decode cL_law 1764 = .ok (.iload 5, 2) := by decide +kernel
theorem dL_law_1766 : decode cL_law 1766 = .ok (.iconst 1, 1) := by decide +kernel
theorem dL_law_1767 : decode cL_law 1767 = .ok (.iadd, 1) := by decide +kernel
theorem dL_law_1768 : decode cL_law 1768 = .ok (.iaload, 1) := by decide +kernel
theorem dL_law_1769 : decode cL_law 1769 = .ok (.invokevirtual 200, 3) := by decide +kernel
theorem dL_law_1772 : decode cL_law 1772 = .ok (.fstore 7, 2) := by decide +kernel
theorem dL_law_1774 : decode cL_law 1774 = .ok (.aload_n 2, 1) := by decide +kernel
theorem dL_law_1775 : decode cL_law 1775 = .ok (.invokevirtual 105, 3) := by decide +kernel
theorem dL_law_1778 : decode cL_law 1778 = .ok (.iload 6, 2) := by decide +kernel
theorem dL_law_1780 : decode cL_law 1780 = .ok (.if_icmp .eq 5, 3) := by decide +kernel
theorem dL_law_1783 : decode cL_law 1783 = .ok (.iconst 0, 1) := by decide +kernel
theorem dL_law_1784 : decode cL_law 1784 = .ok (.ireturn, 1) := by decide +kernel
theorem dL_law_1785 : decode cL_law 1785 = .ok (.iload 6, 2) := by decide +kernel
theorem dL_law_1787 : decode cL_law 1787 = .ok (.ifCond .ne 36, 3) := by decide +kernel
theorem dL_law_1790 : decode cL_law 1790 = .ok (.aload 4, 2) := by decide +kernel
theorem dL_law_1792 : decode cL_law 1792 = .ok (.iconst 0, 1) := by decide +kernel
theorem dL_law_1793 : decode cL_law 1793 = .ok (.daload, 1) := by decide +kernel
theorem dL_law_1794 : decode cL_law 1794 = .ok (.fload 7, 2) := by decide +kernel
theorem dL_law_1796 : decode cL_law 1796 = .ok (.f2d, 1) := by decide +kernel
theorem dL_law_1797 : decode cL_law 1797 = .ok (.dcmp .l, 1) := by decide +kernel
theorem dL_law_1798 : decode cL_law 1798 = .ok (.ifCond .eq 25, 3) := by decide +kernel
theorem dL_law_1801 : decode cL_law 1801 = .ok (.aload 4, 2) := by decide +kernel
theorem dL_law_1803 : decode cL_law 1803 = .ok (.iconst 0, 1) := by decide +kernel
theorem dL_law_1804 : decode cL_law 1804 = .ok (.daload, 1) := by decide +kernel
theorem dL_law_1805 : decode cL_law 1805 = .ok (.aload 4, 2) := by decide +kernel
theorem dL_law_1807 : decode cL_law 1807 = .ok (.iconst 0, 1) := by decide +kernel
theorem dL_law_1808 : decode cL_law 1808 = .ok (.daload, 1) := by decide +kernel
theorem dL_law_1809 : decode cL_law 1809 = .ok (.dcmp .l, 1) := by decide +kernel
theorem dL_law_1810 : decode cL_law 1810 = .ok (.ifCond .eq 11, 3) := by decide +kernel
theorem dL_law_1813 : decode cL_law 1813 = .ok (.fload 7, 2) := by decide +kernel
theorem dL_law_1815 : decode cL_law 1815 = .ok (.fload 7, 2) := by decide +kernel
theorem dL_law_1817 : decode cL_law 1817 = .ok (.fcmp .l, 1) := by decide +kernel
theorem dL_law_1818 : decode cL_law 1818 = .ok (.ifCond .ne 5, 3) := by decide +kernel
theorem dL_law_1821 : decode cL_law 1821 = .ok (.iconst 0, 1) := by decide +kernel
theorem dL_law_1822 : decode cL_law 1822 = .ok (.ireturn, 1) := by decide +kernel
theorem dL_law_1823 : decode cL_law 1823 = .ok (.goto 17, 3) := by decide +kernel
theorem dL_law_1826 : decode cL_law 1826 = .ok (.aload_n 1, 1) := by decide +kernel
theorem dL_law_1827 : decode cL_law 1827 = .ok (.invokevirtual 201, 3) := by decide +kernel
theorem dL_law_1830 : decode cL_law 1830 = .ok (.aload_n 2, 1) := by decide +kernel
theorem dL_law_1831 : decode cL_law 1831 = .ok (.invokevirtual 205, 3) := by decide +kernel
theorem dL_law_1834 : decode cL_law 1834 = .ok (.lcmp, 1) := by decide +kernel
theorem dL_law_1835 : decode cL_law 1835 = .ok (.ifCond .eq 5, 3) := by decide +kernel
theorem dL_law_1838 : decode cL_law 1838 = .ok (.iconst 0, 1) := by decide +kernel
theorem dL_law_1839 : decode cL_law 1839 = .ok (.ireturn, 1) := by decide +kernel
theorem dL_law_1840 : decode cL_law 1840 = .ok (.iinc 5 4, 3) := by decide +kernel
theorem dL_law_1843 : decode cL_law 1843 = .ok (.goto (-1815), 3) := by decide +kernel
theorem dL_law_1846 : decode cL_law 1846 = .ok (.iconst 1, 1) := by decide +kernel
theorem dL_law_1847 : decode cL_law 1847 = .ok (.ireturn, 1) := by decide +kernel
end
section
theorem zz_probe : nI 3 = nI 3 := rfl
end
