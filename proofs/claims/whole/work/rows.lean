section
-- ===== PART A: goes FIRST, ahead of the names: the tables' words, and 'selects' of the private methods out of them =====
/-- a private method of a class that the tables say can be made, by its rows of tables_1 -/
def lw_okq (q : MethodName × Nat) : Prop := (q.1.cls ≠ "java/lang/invoke/MethodHandle" ∧ q.1.cls ≠ "java/lang/invoke/VarHandle") ∧ Cond.instantiable q.1.cls q.2 ∈ tables_1 ∧ Cond.privateMethod q.1 ∈ tables_1 ∧ Cond.instanceMethod q.1 ∈ tables_1
theorem lw_p0 : lw_okq (⟨"DriftPlans", "remember", "()V"⟩, 7) := ⟨⟨by decide +kernel, by decide +kernel⟩, List.mem_of_getElem? (i := 19) (by decide +kernel), List.mem_of_getElem? (i := 183) (by decide +kernel), List.mem_of_getElem? (i := 184) (by decide +kernel)⟩
theorem lw_p1 : lw_okq (⟨"java/util/ArrayList", "add", "(Ljava/lang/Object;[Ljava/lang/Object;I)V"⟩, 3) := ⟨⟨by decide +kernel, by decide +kernel⟩, List.mem_of_getElem? (i := 35) (by decide +kernel), List.mem_of_getElem? (i := 213) (by decide +kernel), List.mem_of_getElem? (i := 214) (by decide +kernel)⟩
theorem lw_p2 : lw_okq (⟨"java/util/ArrayList", "grow", "()[Ljava/lang/Object;"⟩, 3) := ⟨⟨by decide +kernel, by decide +kernel⟩, List.mem_of_getElem? (i := 35) (by decide +kernel), List.mem_of_getElem? (i := 217) (by decide +kernel), List.mem_of_getElem? (i := 218) (by decide +kernel)⟩
theorem lw_p3 : lw_okq (⟨"java/util/ArrayList", "grow", "(I)[Ljava/lang/Object;"⟩, 3) := ⟨⟨by decide +kernel, by decide +kernel⟩, List.mem_of_getElem? (i := 35) (by decide +kernel), List.mem_of_getElem? (i := 221) (by decide +kernel), List.mem_of_getElem? (i := 222) (by decide +kernel)⟩
theorem lw_p4 : lw_okq (⟨"java/util/ArrayList", "fastRemove", "([Ljava/lang/Object;I)V"⟩, 3) := ⟨⟨by decide +kernel, by decide +kernel⟩, List.mem_of_getElem? (i := 35) (by decide +kernel), List.mem_of_getElem? (i := 270) (by decide +kernel), List.mem_of_getElem? (i := 271) (by decide +kernel)⟩
theorem lw_p5 : lw_okq (⟨"DriftPlans", "runQuery", "(I)J"⟩, 7) := ⟨⟨by decide +kernel, by decide +kernel⟩, List.mem_of_getElem? (i := 19) (by decide +kernel), List.mem_of_getElem? (i := 321) (by decide +kernel), List.mem_of_getElem? (i := 322) (by decide +kernel)⟩
theorem lw_p6 : lw_okq (⟨"DriftPlans", "reckoned", "(Z)LDriftPlans$Reckoner;"⟩, 7) := ⟨⟨by decide +kernel, by decide +kernel⟩, List.mem_of_getElem? (i := 19) (by decide +kernel), List.mem_of_getElem? (i := 365) (by decide +kernel), List.mem_of_getElem? (i := 366) (by decide +kernel)⟩
theorem lw_p7 : lw_okq (⟨"DriftPlans$Reckoner", "planSet", "(I)V"⟩, 3) := ⟨⟨by decide +kernel, by decide +kernel⟩, List.mem_of_getElem? (i := 121) (by decide +kernel), List.mem_of_getElem? (i := 376) (by decide +kernel), List.mem_of_getElem? (i := 377) (by decide +kernel)⟩
theorem lw_p8 : lw_okq (⟨"DriftPlans$State", "pushOneOut", "()Z"⟩, 14) := ⟨⟨by decide +kernel, by decide +kernel⟩, List.mem_of_getElem? (i := 27) (by decide +kernel), List.mem_of_getElem? (i := 406) (by decide +kernel), List.mem_of_getElem? (i := 407) (by decide +kernel)⟩
theorem lw_p9 : lw_okq (⟨"DriftPlans$Reader", "readTables", "()Z"⟩, 7) := ⟨⟨by decide +kernel, by decide +kernel⟩, List.mem_of_getElem? (i := 473) (by decide +kernel), List.mem_of_getElem? (i := 518) (by decide +kernel), List.mem_of_getElem? (i := 519) (by decide +kernel)⟩
theorem lw_p10 : lw_okq (⟨"DriftPlans$Reader", "digit", "()I"⟩, 7) := ⟨⟨by decide +kernel, by decide +kernel⟩, List.mem_of_getElem? (i := 473) (by decide +kernel), List.mem_of_getElem? (i := 522) (by decide +kernel), List.mem_of_getElem? (i := 523) (by decide +kernel)⟩
theorem lw_p11 : lw_okq (⟨"DriftPlans$Reader", "readTable", "()Z"⟩, 7) := ⟨⟨by decide +kernel, by decide +kernel⟩, List.mem_of_getElem? (i := 473) (by decide +kernel), List.mem_of_getElem? (i := 526) (by decide +kernel), List.mem_of_getElem? (i := 527) (by decide +kernel)⟩
theorem lw_p12 : lw_okq (⟨"DriftPlans$Reader", "readNumber", "()Z"⟩, 7) := ⟨⟨by decide +kernel, by decide +kernel⟩, List.mem_of_getElem? (i := 473) (by decide +kernel), List.mem_of_getElem? (i := 536) (by decide +kernel), List.mem_of_getElem? (i := 537) (by decide +kernel)⟩
theorem lw_p13 : lw_okq (⟨"DriftPlans", "carryOutDeed", "(LDriftPlans$Reader;)Z"⟩, 7) := ⟨⟨by decide +kernel, by decide +kernel⟩, List.mem_of_getElem? (i := 19) (by decide +kernel), List.mem_of_getElem? (i := 545) (by decide +kernel), List.mem_of_getElem? (i := 546) (by decide +kernel)⟩
theorem lw_p14 : lw_okq (⟨"DriftPlansModel", "changes", "()V"⟩, 22) := ⟨⟨by decide +kernel, by decide +kernel⟩, List.mem_of_getElem? (i := 651) (by decide +kernel), List.mem_of_getElem? (i := 734) (by decide +kernel), List.mem_of_getElem? (i := 735) (by decide +kernel)⟩
theorem lw_p15 : lw_okq (⟨"DriftPlansModel", "isLoose", "(I)Z"⟩, 22) := ⟨⟨by decide +kernel, by decide +kernel⟩, List.mem_of_getElem? (i := 651) (by decide +kernel), List.mem_of_getElem? (i := 742) (by decide +kernel), List.mem_of_getElem? (i := 743) (by decide +kernel)⟩
def lw_privs_1 : List (MethodName × Nat) := [(⟨"DriftPlans", "remember", "()V"⟩, 7), (⟨"java/util/ArrayList", "add", "(Ljava/lang/Object;[Ljava/lang/Object;I)V"⟩, 3), (⟨"java/util/ArrayList", "grow", "()[Ljava/lang/Object;"⟩, 3), (⟨"java/util/ArrayList", "grow", "(I)[Ljava/lang/Object;"⟩, 3), (⟨"java/util/ArrayList", "fastRemove", "([Ljava/lang/Object;I)V"⟩, 3), (⟨"DriftPlans", "runQuery", "(I)J"⟩, 7), (⟨"DriftPlans", "reckoned", "(Z)LDriftPlans$Reckoner;"⟩, 7), (⟨"DriftPlans$Reckoner", "planSet", "(I)V"⟩, 3), (⟨"DriftPlans$State", "pushOneOut", "()Z"⟩, 14), (⟨"DriftPlans$Reader", "readTables", "()Z"⟩, 7), (⟨"DriftPlans$Reader", "digit", "()I"⟩, 7), (⟨"DriftPlans$Reader", "readTable", "()Z"⟩, 7), (⟨"DriftPlans$Reader", "readNumber", "()Z"⟩, 7), (⟨"DriftPlans", "carryOutDeed", "(LDriftPlans$Reader;)Z"⟩, 7), (⟨"DriftPlansModel", "changes", "()V"⟩, 22), (⟨"DriftPlansModel", "isLoose", "(I)Z"⟩, 22)]
theorem lw_r1 : ∀ q ∈ lw_privs_1, lw_okq q := List.forall_mem_cons.mpr ⟨lw_p0, List.forall_mem_cons.mpr ⟨lw_p1, List.forall_mem_cons.mpr ⟨lw_p2, List.forall_mem_cons.mpr ⟨lw_p3, List.forall_mem_cons.mpr ⟨lw_p4, List.forall_mem_cons.mpr ⟨lw_p5, List.forall_mem_cons.mpr ⟨lw_p6, List.forall_mem_cons.mpr ⟨lw_p7, List.forall_mem_cons.mpr ⟨lw_p8, List.forall_mem_cons.mpr ⟨lw_p9, List.forall_mem_cons.mpr ⟨lw_p10, List.forall_mem_cons.mpr ⟨lw_p11, List.forall_mem_cons.mpr ⟨lw_p12, List.forall_mem_cons.mpr ⟨lw_p13, List.forall_mem_cons.mpr ⟨lw_p14, List.forall_mem_cons.mpr ⟨lw_p15, fun _ h => absurd h List.not_mem_nil⟩⟩⟩⟩⟩⟩⟩⟩⟩⟩⟩⟩⟩⟩⟩⟩
theorem lw_p16 : lw_okq (⟨"DriftPlansModel", "empties", "(I)V"⟩, 22) := ⟨⟨by decide +kernel, by decide +kernel⟩, List.mem_of_getElem? (i := 651) (by decide +kernel), List.mem_of_getElem? (i := 749) (by decide +kernel), List.mem_of_getElem? (i := 750) (by decide +kernel)⟩
theorem lw_p17 : lw_okq (⟨"DriftPlansModel", "counts", "(I)I"⟩, 22) := ⟨⟨by decide +kernel, by decide +kernel⟩, List.mem_of_getElem? (i := 651) (by decide +kernel), List.mem_of_getElem? (i := 757) (by decide +kernel), List.mem_of_getElem? (i := 758) (by decide +kernel)⟩
theorem lw_p18 : lw_okq (⟨"DriftPlansModel", "throwsOut", "()I"⟩, 22) := ⟨⟨by decide +kernel, by decide +kernel⟩, List.mem_of_getElem? (i := 651) (by decide +kernel), List.mem_of_getElem? (i := 761) (by decide +kernel), List.mem_of_getElem? (i := 762) (by decide +kernel)⟩
theorem lw_p19 : lw_okq (⟨"DriftPlansModel", "hasDrifted", "(II)Z"⟩, 22) := ⟨⟨by decide +kernel, by decide +kernel⟩, List.mem_of_getElem? (i := 651) (by decide +kernel), List.mem_of_getElem? (i := 765) (by decide +kernel), List.mem_of_getElem? (i := 766) (by decide +kernel)⟩
theorem lw_p20 : lw_okq (⟨"DriftPlansModel", "runsOf", "(I)J"⟩, 22) := ⟨⟨by decide +kernel, by decide +kernel⟩, List.mem_of_getElem? (i := 651) (by decide +kernel), List.mem_of_getElem? (i := 776) (by decide +kernel), List.mem_of_getElem? (i := 777) (by decide +kernel)⟩
theorem lw_p21 : lw_okq (⟨"DriftPlansModel", "slotOf", "(I)I"⟩, 22) := ⟨⟨by decide +kernel, by decide +kernel⟩, List.mem_of_getElem? (i := 651) (by decide +kernel), List.mem_of_getElem? (i := 780) (by decide +kernel), List.mem_of_getElem? (i := 781) (by decide +kernel)⟩
theorem lw_p22 : lw_okq (⟨"DriftPlansModel", "makes", "(I)J"⟩, 22) := ⟨⟨by decide +kernel, by decide +kernel⟩, List.mem_of_getElem? (i := 651) (by decide +kernel), List.mem_of_getElem? (i := 788) (by decide +kernel), List.mem_of_getElem? (i := 789) (by decide +kernel)⟩
theorem lw_p23 : lw_okq (⟨"DriftPlansModel", "finds", "(II)J"⟩, 22) := ⟨⟨by decide +kernel, by decide +kernel⟩, List.mem_of_getElem? (i := 651) (by decide +kernel), List.mem_of_getElem? (i := 792) (by decide +kernel), List.mem_of_getElem? (i := 793) (by decide +kernel)⟩
theorem lw_p24 : lw_okq (⟨"DriftPlansModel", "costOf", "(I)J"⟩, 22) := ⟨⟨by decide +kernel, by decide +kernel⟩, List.mem_of_getElem? (i := 651) (by decide +kernel), List.mem_of_getElem? (i := 797) (by decide +kernel), List.mem_of_getElem? (i := 798) (by decide +kernel)⟩
theorem lw_p25 : lw_okq (⟨"DriftPlansModel", "sizeOf", "(II)J"⟩, 22) := ⟨⟨by decide +kernel, by decide +kernel⟩, List.mem_of_getElem? (i := 651) (by decide +kernel), List.mem_of_getElem? (i := 801) (by decide +kernel), List.mem_of_getElem? (i := 802) (by decide +kernel)⟩
theorem lw_p26 : lw_okq (⟨"DriftPlansModel", "hasNext", "()Z"⟩, 22) := ⟨⟨by decide +kernel, by decide +kernel⟩, List.mem_of_getElem? (i := 651) (by decide +kernel), List.mem_of_getElem? (i := 806) (by decide +kernel), List.mem_of_getElem? (i := 807) (by decide +kernel)⟩
theorem lw_p27 : lw_okq (⟨"DriftPlansModel", "swaps", "(II)V"⟩, 22) := ⟨⟨by decide +kernel, by decide +kernel⟩, List.mem_of_getElem? (i := 651) (by decide +kernel), List.mem_of_getElem? (i := 810) (by decide +kernel), List.mem_of_getElem? (i := 811) (by decide +kernel)⟩
theorem lw_p28 : lw_okq (⟨"DriftPlansModel", "slotFor", "()I"⟩, 22) := ⟨⟨by decide +kernel, by decide +kernel⟩, List.mem_of_getElem? (i := 651) (by decide +kernel), List.mem_of_getElem? (i := 814) (by decide +kernel), List.mem_of_getElem? (i := 815) (by decide +kernel)⟩
theorem lw_p29 : lw_okq (⟨"DriftPlansModel", "uses", "(I)J"⟩, 22) := ⟨⟨by decide +kernel, by decide +kernel⟩, List.mem_of_getElem? (i := 651) (by decide +kernel), List.mem_of_getElem? (i := 818) (by decide +kernel), List.mem_of_getElem? (i := 819) (by decide +kernel)⟩
theorem lw_p30 : lw_okq (⟨"DriftPlansModel", "costAt", "(II)J"⟩, 22) := ⟨⟨by decide +kernel, by decide +kernel⟩, List.mem_of_getElem? (i := 651) (by decide +kernel), List.mem_of_getElem? (i := 822) (by decide +kernel), List.mem_of_getElem? (i := 823) (by decide +kernel)⟩
theorem lw_p31 : lw_okq (⟨"DriftPlansModel", "reads", "()Z"⟩, 22) := ⟨⟨by decide +kernel, by decide +kernel⟩, List.mem_of_getElem? (i := 651) (by decide +kernel), List.mem_of_getElem? (i := 854) (by decide +kernel), List.mem_of_getElem? (i := 855) (by decide +kernel)⟩
def lw_privs_2 : List (MethodName × Nat) := [(⟨"DriftPlansModel", "empties", "(I)V"⟩, 22), (⟨"DriftPlansModel", "counts", "(I)I"⟩, 22), (⟨"DriftPlansModel", "throwsOut", "()I"⟩, 22), (⟨"DriftPlansModel", "hasDrifted", "(II)Z"⟩, 22), (⟨"DriftPlansModel", "runsOf", "(I)J"⟩, 22), (⟨"DriftPlansModel", "slotOf", "(I)I"⟩, 22), (⟨"DriftPlansModel", "makes", "(I)J"⟩, 22), (⟨"DriftPlansModel", "finds", "(II)J"⟩, 22), (⟨"DriftPlansModel", "costOf", "(I)J"⟩, 22), (⟨"DriftPlansModel", "sizeOf", "(II)J"⟩, 22), (⟨"DriftPlansModel", "hasNext", "()Z"⟩, 22), (⟨"DriftPlansModel", "swaps", "(II)V"⟩, 22), (⟨"DriftPlansModel", "slotFor", "()I"⟩, 22), (⟨"DriftPlansModel", "uses", "(I)J"⟩, 22), (⟨"DriftPlansModel", "costAt", "(II)J"⟩, 22), (⟨"DriftPlansModel", "reads", "()Z"⟩, 22)]
theorem lw_r2 : ∀ q ∈ lw_privs_2, lw_okq q := List.forall_mem_cons.mpr ⟨lw_p16, List.forall_mem_cons.mpr ⟨lw_p17, List.forall_mem_cons.mpr ⟨lw_p18, List.forall_mem_cons.mpr ⟨lw_p19, List.forall_mem_cons.mpr ⟨lw_p20, List.forall_mem_cons.mpr ⟨lw_p21, List.forall_mem_cons.mpr ⟨lw_p22, List.forall_mem_cons.mpr ⟨lw_p23, List.forall_mem_cons.mpr ⟨lw_p24, List.forall_mem_cons.mpr ⟨lw_p25, List.forall_mem_cons.mpr ⟨lw_p26, List.forall_mem_cons.mpr ⟨lw_p27, List.forall_mem_cons.mpr ⟨lw_p28, List.forall_mem_cons.mpr ⟨lw_p29, List.forall_mem_cons.mpr ⟨lw_p30, List.forall_mem_cons.mpr ⟨lw_p31, fun _ h => absurd h List.not_mem_nil⟩⟩⟩⟩⟩⟩⟩⟩⟩⟩⟩⟩⟩⟩⟩⟩
theorem lw_p32 : lw_okq (⟨"DriftPlansModel", "digits", "()Z"⟩, 22) := ⟨⟨by decide +kernel, by decide +kernel⟩, List.mem_of_getElem? (i := 651) (by decide +kernel), List.mem_of_getElem? (i := 858) (by decide +kernel), List.mem_of_getElem? (i := 859) (by decide +kernel)⟩
theorem lw_p33 : lw_okq (⟨"DriftPlansModel", "isAt", "(II)Z"⟩, 22) := ⟨⟨by decide +kernel, by decide +kernel⟩, List.mem_of_getElem? (i := 651) (by decide +kernel), List.mem_of_getElem? (i := 862) (by decide +kernel), List.mem_of_getElem? (i := 863) (by decide +kernel)⟩
theorem lw_p34 : lw_okq (⟨"DriftPlansModel", "oneTable", "()Z"⟩, 22) := ⟨⟨by decide +kernel, by decide +kernel⟩, List.mem_of_getElem? (i := 651) (by decide +kernel), List.mem_of_getElem? (i := 866) (by decide +kernel), List.mem_of_getElem? (i := 867) (by decide +kernel)⟩
theorem lw_p35 : lw_okq (⟨"DriftPlansModel", "sign", "(I)Z"⟩, 22) := ⟨⟨by decide +kernel, by decide +kernel⟩, List.mem_of_getElem? (i := 651) (by decide +kernel), List.mem_of_getElem? (i := 870) (by decide +kernel), List.mem_of_getElem? (i := 871) (by decide +kernel)⟩
theorem lw_p36 : lw_okq (⟨"DriftPlansModel", "number", "()Z"⟩, 22) := ⟨⟨by decide +kernel, by decide +kernel⟩, List.mem_of_getElem? (i := 651) (by decide +kernel), List.mem_of_getElem? (i := 874) (by decide +kernel), List.mem_of_getElem? (i := 875) (by decide +kernel)⟩
theorem lw_p37 : lw_okq (⟨"DriftPlansModel", "does", "(I)I"⟩, 22) := ⟨⟨by decide +kernel, by decide +kernel⟩, List.mem_of_getElem? (i := 651) (by decide +kernel), List.mem_of_getElem? (i := 883) (by decide +kernel), List.mem_of_getElem? (i := 884) (by decide +kernel)⟩
theorem lw_p38 : lw_okq (⟨"DriftPlansModel", "pins", "(I)I"⟩, 22) := ⟨⟨by decide +kernel, by decide +kernel⟩, List.mem_of_getElem? (i := 651) (by decide +kernel), List.mem_of_getElem? (i := 888) (by decide +kernel), List.mem_of_getElem? (i := 889) (by decide +kernel)⟩
theorem lw_p39 : lw_okq (⟨"DriftPlansModel", "plansWith", "(I)I"⟩, 22) := ⟨⟨by decide +kernel, by decide +kernel⟩, List.mem_of_getElem? (i := 651) (by decide +kernel), List.mem_of_getElem? (i := 902) (by decide +kernel), List.mem_of_getElem? (i := 903) (by decide +kernel)⟩
theorem lw_p40 : lw_okq (⟨"DriftPlansModel", "findsBySets", "(II)J"⟩, 22) := ⟨⟨by decide +kernel, by decide +kernel⟩, List.mem_of_getElem? (i := 651) (by decide +kernel), List.mem_of_getElem? (i := 921) (by decide +kernel), List.mem_of_getElem? (i := 922) (by decide +kernel)⟩
theorem lw_p41 : lw_okq (⟨"DriftPlansModel", "over", "(I)J"⟩, 22) := ⟨⟨by decide +kernel, by decide +kernel⟩, List.mem_of_getElem? (i := 651) (by decide +kernel), List.mem_of_getElem? (i := 933) (by decide +kernel), List.mem_of_getElem? (i := 934) (by decide +kernel)⟩
theorem lw_p42 : lw_okq (⟨"DriftPlansModel", "orderOf", "(I)I"⟩, 22) := ⟨⟨by decide +kernel, by decide +kernel⟩, List.mem_of_getElem? (i := 651) (by decide +kernel), List.mem_of_getElem? (i := 937) (by decide +kernel), List.mem_of_getElem? (i := 938) (by decide +kernel)⟩
theorem lw_p43 : lw_okq (⟨"DriftPlansModel", "plans", "()I"⟩, 22) := ⟨⟨by decide +kernel, by decide +kernel⟩, List.mem_of_getElem? (i := 651) (by decide +kernel), List.mem_of_getElem? (i := 945) (by decide +kernel), List.mem_of_getElem? (i := 946) (by decide +kernel)⟩
theorem lw_p44 : lw_okq (⟨"DriftPlansModel", "pinned", "()I"⟩, 22) := ⟨⟨by decide +kernel, by decide +kernel⟩, List.mem_of_getElem? (i := 651) (by decide +kernel), List.mem_of_getElem? (i := 949) (by decide +kernel), List.mem_of_getElem? (i := 950) (by decide +kernel)⟩
theorem lw_p45 : lw_okq (⟨"DriftPlansModel", "putsAside", "()V"⟩, 22) := ⟨⟨by decide +kernel, by decide +kernel⟩, List.mem_of_getElem? (i := 651) (by decide +kernel), List.mem_of_getElem? (i := 961) (by decide +kernel), List.mem_of_getElem? (i := 962) (by decide +kernel)⟩
theorem lw_p46 : lw_okq (⟨"DriftPlansModel", "dearer", "()I"⟩, 22) := ⟨⟨by decide +kernel, by decide +kernel⟩, List.mem_of_getElem? (i := 651) (by decide +kernel), List.mem_of_getElem? (i := 965) (by decide +kernel), List.mem_of_getElem? (i := 966) (by decide +kernel)⟩
theorem lw_p47 : lw_okq (⟨"DriftPlansModel", "putsBack", "()V"⟩, 22) := ⟨⟨by decide +kernel, by decide +kernel⟩, List.mem_of_getElem? (i := 651) (by decide +kernel), List.mem_of_getElem? (i := 969) (by decide +kernel), List.mem_of_getElem? (i := 970) (by decide +kernel)⟩
def lw_privs_3 : List (MethodName × Nat) := [(⟨"DriftPlansModel", "digits", "()Z"⟩, 22), (⟨"DriftPlansModel", "isAt", "(II)Z"⟩, 22), (⟨"DriftPlansModel", "oneTable", "()Z"⟩, 22), (⟨"DriftPlansModel", "sign", "(I)Z"⟩, 22), (⟨"DriftPlansModel", "number", "()Z"⟩, 22), (⟨"DriftPlansModel", "does", "(I)I"⟩, 22), (⟨"DriftPlansModel", "pins", "(I)I"⟩, 22), (⟨"DriftPlansModel", "plansWith", "(I)I"⟩, 22), (⟨"DriftPlansModel", "findsBySets", "(II)J"⟩, 22), (⟨"DriftPlansModel", "over", "(I)J"⟩, 22), (⟨"DriftPlansModel", "orderOf", "(I)I"⟩, 22), (⟨"DriftPlansModel", "plans", "()I"⟩, 22), (⟨"DriftPlansModel", "pinned", "()I"⟩, 22), (⟨"DriftPlansModel", "putsAside", "()V"⟩, 22), (⟨"DriftPlansModel", "dearer", "()I"⟩, 22), (⟨"DriftPlansModel", "putsBack", "()V"⟩, 22)]
theorem lw_r3 : ∀ q ∈ lw_privs_3, lw_okq q := List.forall_mem_cons.mpr ⟨lw_p32, List.forall_mem_cons.mpr ⟨lw_p33, List.forall_mem_cons.mpr ⟨lw_p34, List.forall_mem_cons.mpr ⟨lw_p35, List.forall_mem_cons.mpr ⟨lw_p36, List.forall_mem_cons.mpr ⟨lw_p37, List.forall_mem_cons.mpr ⟨lw_p38, List.forall_mem_cons.mpr ⟨lw_p39, List.forall_mem_cons.mpr ⟨lw_p40, List.forall_mem_cons.mpr ⟨lw_p41, List.forall_mem_cons.mpr ⟨lw_p42, List.forall_mem_cons.mpr ⟨lw_p43, List.forall_mem_cons.mpr ⟨lw_p44, List.forall_mem_cons.mpr ⟨lw_p45, List.forall_mem_cons.mpr ⟨lw_p46, List.forall_mem_cons.mpr ⟨lw_p47, fun _ h => absurd h List.not_mem_nil⟩⟩⟩⟩⟩⟩⟩⟩⟩⟩⟩⟩⟩⟩⟩⟩
def lw_privs : List (MethodName × Nat) := lw_privs_1 ++ (lw_privs_2 ++ (lw_privs_3))
def lw_tbl : List Cond := k2_sels lw_privs ++ tables_1
theorem lw_privs_ok : ∀ q ∈ lw_privs, lw_okq q := by
  show ∀ q ∈ lw_privs_1 ++ (lw_privs_2 ++ (lw_privs_3)), lw_okq q
  exact List.forall_mem_append.mpr ⟨lw_r1, List.forall_mem_append.mpr ⟨lw_r2, lw_r3⟩⟩
/-- the streams that the claim lets the run draw from -/
abbrev lw_cs : List Choice := [Jvm.Choice.named "NaN.bits"]
theorem lw_bits : nanBits ∈ lw_cs := by first | decide | exact List.mem_cons_self | simp [lw_cs, nanBits]
end
section
/-! names, fields, words: out of the printed names -/
def RX0 : String := "DriftPlans$Kept"
def TX0 : u_T := fun k => match k with
  | 0 => ("DriftPlans$Kept", "shape", "I", true)
  | 1 => ("DriftPlans$Kept", "order", "I", true)
  | 2 => ("DriftPlans$Kept", "guesses", "[I", true)
  | 3 => ("DriftPlans$Kept", "runs", "J", true)
  | _ => ("DriftPlans$Kept", "pinned", "Z", true)
def tyX0 : Nat → FieldType := fun k => match k with
  | 0 => .int
  | 1 => .int
  | 2 => .array .int
  | 3 => .long
  | _ => .boolean
abbrev wsX00 : List Cond := u_ws RX0 TX0 5
theorem nmX0 : ∀ a, a < 5 → ∀ b, b < 5 → a ≠ b → (TX0 a).2.1 ≠ (TX0 b).2.1 := by decide +kernel
theorem tyX0_ok : ∀ k, k < 5 → parseFieldDescriptor (TX0 k).2.2.1 = some (tyX0 k) := by decide +kernel
abbrev cX0_init : ByteArray := prog_2_method_1_code
def yX0_init : MethodName := ⟨RX0, "<init>", "(II[IJZ)V"⟩
def RX1 : String := "DriftPlans$Pad"
def TX1 : u_T := fun k => match k with
  | 0 => ("DriftPlans$Pad", "signs", "[C", true)
  | _ => ("DriftPlans$Pad", "length", "I", false)
def tyX1 : Nat → FieldType := fun k => match k with
  | 0 => .array .char
  | _ => .int
abbrev wsX10 : List Cond := u_ws RX1 TX1 2
theorem nmX1 : ∀ a, a < 2 → ∀ b, b < 2 → a ≠ b → (TX1 a).2.1 ≠ (TX1 b).2.1 := by decide +kernel
theorem tyX1_ok : ∀ k, k < 2 → parseFieldDescriptor (TX1 k).2.2.1 = some (tyX1 k) := by decide +kernel
abbrev cX1_init : ByteArray := prog_3_method_1_code
def yX1_init : MethodName := ⟨RX1, "<init>", "()V"⟩
abbrev cX1_put : ByteArray := prog_3_method_2_code
def yX1_put : MethodName := ⟨RX1, "put", "(C)Z"⟩
abbrev cX1_signAt : ByteArray := prog_3_method_3_code
def yX1_signAt : MethodName := ⟨RX1, "signAt", "(I)C"⟩
def RX2 : String := "DriftPlans$Reader"
def TX2 : u_T := fun k => match k with
  | 0 => ("DriftPlans$Reader", "pad", "LDriftPlans$Pad;", true)
  | 1 => ("DriftPlans$Reader", "next", "I", false)
  | 2 => ("DriftPlans$Reader", "start", "I", false)
  | 3 => ("DriftPlans$Reader", "letter", "C", false)
  | 4 => ("DriftPlans$Reader", "tables", "I", false)
  | 5 => ("DriftPlans$Reader", "table", "I", false)
  | _ => ("DriftPlans$Reader", "number", "I", false)
def tyX2 : Nat → FieldType := fun k => match k with
  | 0 => .object "DriftPlans$Pad"
  | 1 => .int
  | 2 => .int
  | 3 => .char
  | 4 => .int
  | 5 => .int
  | _ => .int
abbrev wsX20 : List Cond := u_ws RX2 TX2 7
theorem nmX2 : ∀ a, a < 7 → ∀ b, b < 7 → a ≠ b → (TX2 a).2.1 ≠ (TX2 b).2.1 := by decide +kernel
theorem tyX2_ok : ∀ k, k < 7 → parseFieldDescriptor (TX2 k).2.2.1 = some (tyX2 k) := by decide +kernel
abbrev cX2_init : ByteArray := prog_4_method_1_code
def yX2_init : MethodName := ⟨RX2, "<init>", "(LDriftPlans$Pad;)V"⟩
abbrev cX2_findFault : ByteArray := prog_4_method_2_code
def yX2_findFault : MethodName := ⟨RX2, "findFault", "()I"⟩
abbrev cX2_readDeed : ByteArray := prog_4_method_3_code
def yX2_readDeed : MethodName := ⟨RX2, "readDeed", "()Z"⟩
abbrev cX2_readSign : ByteArray := prog_4_method_4_code
def yX2_readSign : MethodName := ⟨RX2, "readSign", "(C)Z"⟩
abbrev cX2_digit : ByteArray := prog_4_method_5_code
def yX2_digit : MethodName := ⟨RX2, "digit", "()I"⟩
abbrev cX2_readTable : ByteArray := prog_4_method_6_code
def yX2_readTable : MethodName := ⟨RX2, "readTable", "()Z"⟩
abbrev cX2_readTables : ByteArray := prog_4_method_7_code
def yX2_readTables : MethodName := ⟨RX2, "readTables", "()Z"⟩
abbrev cX2_readNumber : ByteArray := prog_4_method_8_code
def yX2_readNumber : MethodName := ⟨RX2, "readNumber", "()Z"⟩
def RX3 : String := "DriftPlans$Reckoner"
def TX3 : u_T := fun k => match k with
  | 0 => ("DriftPlans$Reckoner", "products", "[J", true)
  | 1 => ("DriftPlans$Reckoner", "leastCosts", "[J", true)
  | _ => ("DriftPlans$Reckoner", "bestOrders", "[I", true)
def tyX3 : Nat → FieldType := fun k => match k with
  | 0 => .array .long
  | 1 => .array .long
  | _ => .array .int
abbrev wsX30 : List Cond := u_ws RX3 TX3 3
theorem nmX3 : ∀ a, a < 3 → ∀ b, b < 3 → a ≠ b → (TX3 a).2.1 ≠ (TX3 b).2.1 := by decide +kernel
theorem tyX3_ok : ∀ k, k < 3 → parseFieldDescriptor (TX3 k).2.2.1 = some (tyX3 k) := by decide +kernel
abbrev cX3_init : ByteArray := prog_5_method_1_code
def yX3_init : MethodName := ⟨RX3, "<init>", "()V"⟩
abbrev cX3_reckon : ByteArray := prog_5_method_2_code
def yX3_reckon : MethodName := ⟨RX3, "reckon", "([I[[I)V"⟩
abbrev cX3_planSet : ByteArray := prog_5_method_3_code
def yX3_planSet : MethodName := ⟨RX3, "planSet", "(I)V"⟩
abbrev cX3_sizeOf : ByteArray := prog_5_method_4_code
def yX3_sizeOf : MethodName := ⟨RX3, "sizeOf", "(I)J"⟩
abbrev cX3_leastBySets : ByteArray := prog_5_method_5_code
def yX3_leastBySets : MethodName := ⟨RX3, "leastBySets", "(I)J"⟩
abbrev cX3_bestOrder : ByteArray := prog_5_method_6_code
def yX3_bestOrder : MethodName := ⟨RX3, "bestOrder", "(I)I"⟩
abbrev cX3_leastByOrders : ByteArray := prog_5_method_7_code
def yX3_leastByOrders : MethodName := ⟨RX3, "leastByOrders", "(I)J"⟩
abbrev cX3_leastOnward : ByteArray := prog_5_method_8_code
def yX3_leastOnward : MethodName := ⟨RX3, "leastOnward", "(LDriftPlans$Reckoner;III)J"⟩
abbrev cX3_costOf : ByteArray := prog_5_method_9_code
def yX3_costOf : MethodName := ⟨RX3, "costOf", "(II)J"⟩
abbrev cX3_excessOf : ByteArray := prog_5_method_10_code
def yX3_excessOf : MethodName := ⟨RX3, "excessOf", "(II)J"⟩
def RX4 : String := "DriftPlans$State"
def TX4 : u_T := fun k => match k with
  | 0 => ("DriftPlans$State", "rows", "[I", true)
  | 1 => ("DriftPlans$State", "guesses", "[I", true)
  | 2 => ("DriftPlans$State", "parts", "[[I", true)
  | 3 => ("DriftPlans$State", "kept", "Ljava/util/ArrayList;", true)
  | 4 => ("DriftPlans$State", "driftLimit", "I", false)
  | 5 => ("DriftPlans$State", "hits", "J", false)
  | 6 => ("DriftPlans$State", "misses", "J", false)
  | 7 => ("DriftPlans$State", "runCosts", "J", false)
  | 8 => ("DriftPlans$State", "makingCosts", "J", false)
  | 9 => ("DriftPlans$State", "driftedOut", "J", false)
  | 10 => ("DriftPlans$State", "pushedOut", "J", false)
  | 11 => ("DriftPlans$State", "joinedOut", "J", false)
  | 12 => ("DriftPlans$State", "forgotten", "J", false)
  | _ => ("DriftPlans$State", "usedOnly", "J", false)
def tyX4 : Nat → FieldType := fun k => match k with
  | 0 => .array .int
  | 1 => .array .int
  | 2 => .array (.array .int)
  | 3 => .object "java/util/ArrayList"
  | 4 => .int
  | 5 => .long
  | 6 => .long
  | 7 => .long
  | 8 => .long
  | 9 => .long
  | 10 => .long
  | 11 => .long
  | 12 => .long
  | _ => .long
abbrev wsX40 : List Cond := u_ws RX4 TX4 14
theorem nmX4 : ∀ a, a < 14 → ∀ b, b < 14 → a ≠ b → (TX4 a).2.1 ≠ (TX4 b).2.1 := by decide +kernel
theorem tyX4_ok : ∀ k, k < 14 → parseFieldDescriptor (TX4 k).2.2.1 = some (tyX4 k) := by decide +kernel
abbrev cX4_init : ByteArray := prog_6_method_1_code
def yX4_init : MethodName := ⟨RX4, "<init>", "()V"⟩
abbrev cX4_init_ : ByteArray := prog_6_method_2_code
def yX4_init_ : MethodName := ⟨RX4, "<init>", "(LDriftPlans$State;)V"⟩
abbrev cX4_placeOf : ByteArray := prog_6_method_3_code
def yX4_placeOf : MethodName := ⟨RX4, "placeOf", "(I)I"⟩
abbrev cX4_keptWith : ByteArray := prog_6_method_4_code
def yX4_keptWith : MethodName := ⟨RX4, "keptWith", "(I)I"⟩
abbrev cX4_countPinned : ByteArray := prog_6_method_5_code
def yX4_countPinned : MethodName := ⟨RX4, "countPinned", "()I"⟩
abbrev cX4_setPinned : ByteArray := prog_6_method_6_code
def yX4_setPinned : MethodName := ⟨RX4, "setPinned", "(IZ)V"⟩
abbrev cX4_useAgain : ByteArray := prog_6_method_7_code
def yX4_useAgain : MethodName := ⟨RX4, "useAgain", "(I)V"⟩
abbrev cX4_keepNew : ByteArray := prog_6_method_8_code
def yX4_keepNew : MethodName := ⟨RX4, "keepNew", "(IIJ)V"⟩
abbrev cX4_pushOneOut : ByteArray := prog_6_method_9_code
def yX4_pushOneOut : MethodName := ⟨RX4, "pushOneOut", "()Z"⟩
abbrev cX4_countTables : ByteArray := prog_6_method_10_code
def yX4_countTables : MethodName := ⟨RX4, "countTables", "(I)I"⟩
abbrev cX4_throwOutDrifted : ByteArray := prog_6_method_11_code
def yX4_throwOutDrifted : MethodName := ⟨RX4, "throwOutDrifted", "()I"⟩
abbrev cX4_throwOutJoins : ByteArray := prog_6_method_12_code
def yX4_throwOutJoins : MethodName := ⟨RX4, "throwOutJoins", "(I)I"⟩
abbrev cX4_driftsOnceCounted : ByteArray := prog_6_method_13_code
def yX4_driftsOnceCounted : MethodName := ⟨RX4, "driftsOnceCounted", "(LDriftPlans$Kept;I)Z"⟩
abbrev cX4_driftToBear : ByteArray := prog_6_method_14_code
def yX4_driftToBear : MethodName := ⟨RX4, "driftToBear", "(LDriftPlans$Kept;)I"⟩
def RX5 : String := "DriftPlans"
def TX5 : u_T := fun k => match k with
  | 0 => ("DriftPlans", "now", "LDriftPlans$State;", false)
  | 1 => ("DriftPlans", "snapshot", "LDriftPlans$State;", false)
  | 2 => ("DriftPlans", "history", "Ljava/util/ArrayList;", true)
  | 3 => ("DriftPlans", "reckoner", "LDriftPlans$Reckoner;", true)
  | 4 => ("DriftPlans", "pad", "LDriftPlans$Pad;", true)
  | 5 => ("DriftPlans", "stopDeed", "I", false)
  | _ => ("DriftPlans", "stopPlace", "I", false)
def tyX5 : Nat → FieldType := fun k => match k with
  | 0 => .object "DriftPlans$State"
  | 1 => .object "DriftPlans$State"
  | 2 => .object "java/util/ArrayList"
  | 3 => .object "DriftPlans$Reckoner"
  | 4 => .object "DriftPlans$Pad"
  | 5 => .int
  | _ => .int
abbrev wsX50 : List Cond := u_ws RX5 TX5 7
theorem nmX5 : ∀ a, a < 7 → ∀ b, b < 7 → a ≠ b → (TX5 a).2.1 ≠ (TX5 b).2.1 := by decide +kernel
theorem tyX5_ok : ∀ k, k < 7 → parseFieldDescriptor (TX5 k).2.2.1 = some (tyX5 k) := by decide +kernel
abbrev cX5_init : ByteArray := prog_1_method_1_code
def yX5_init : MethodName := ⟨RX5, "<init>", "()V"⟩
abbrev cX5_rows : ByteArray := prog_1_method_2_code
def yX5_rows : MethodName := ⟨RX5, "rows", "(II)I"⟩
abbrev cX5_part : ByteArray := prog_1_method_3_code
def yX5_part : MethodName := ⟨RX5, "part", "(III)I"⟩
abbrev cX5_count : ByteArray := prog_1_method_4_code
def yX5_count : MethodName := ⟨RX5, "count", "(I)I"⟩
abbrev cX5_run : ByteArray := prog_1_method_5_code
def yX5_run : MethodName := ⟨RX5, "run", "(I)I"⟩
abbrev cX5_pin : ByteArray := prog_1_method_6_code
def yX5_pin : MethodName := ⟨RX5, "pin", "(I)I"⟩
abbrev cX5_forget : ByteArray := prog_1_method_7_code
def yX5_forget : MethodName := ⟨RX5, "forget", "(I)I"⟩
abbrev cX5_drift : ByteArray := prog_1_method_8_code
def yX5_drift : MethodName := ⟨RX5, "drift", "(I)I"⟩
abbrev cX5_append : ByteArray := prog_1_method_9_code
def yX5_append : MethodName := ⟨RX5, "append", "(I)I"⟩
abbrev cX5_clear : ByteArray := prog_1_method_10_code
def yX5_clear : MethodName := ⟨RX5, "clear", "()I"⟩
abbrev cX5_fault : ByteArray := prog_1_method_11_code
def yX5_fault : MethodName := ⟨RX5, "fault", "()I"⟩
abbrev cX5_carryOut : ByteArray := prog_1_method_12_code
def yX5_carryOut : MethodName := ⟨RX5, "carryOut", "()I"⟩
abbrev cX5_why : ByteArray := prog_1_method_13_code
def yX5_why : MethodName := ⟨RX5, "why", "(I)I"⟩
abbrev cX5_table : ByteArray := prog_1_method_14_code
def yX5_table : MethodName := ⟨RX5, "table", "(II)I"⟩
abbrev cX5_partOf : ByteArray := prog_1_method_15_code
def yX5_partOf : MethodName := ⟨RX5, "partOf", "(II)I"⟩
abbrev cX5_size : ByteArray := prog_1_method_16_code
def yX5_size : MethodName := ⟨RX5, "size", "(IZ)I"⟩
abbrev cX5_least : ByteArray := prog_1_method_17_code
def yX5_least : MethodName := ⟨RX5, "least", "(IZI)I"⟩
abbrev cX5_best : ByteArray := prog_1_method_18_code
def yX5_best : MethodName := ⟨RX5, "best", "(IZI)I"⟩
abbrev cX5_plan : ByteArray := prog_1_method_19_code
def yX5_plan : MethodName := ⟨RX5, "plan", "(II)I"⟩
abbrev cX5_counted : ByteArray := prog_1_method_20_code
def yX5_counted : MethodName := ⟨RX5, "counted", "(I)I"⟩
abbrev cX5_fitness : ByteArray := prog_1_method_21_code
def yX5_fitness : MethodName := ⟨RX5, "fitness", "()D"⟩
abbrev cX5_ifCounted : ByteArray := prog_1_method_22_code
def yX5_ifCounted : MethodName := ⟨RX5, "ifCounted", "(II)I"⟩
abbrev cX5_ifRun : ByteArray := prog_1_method_23_code
def yX5_ifRun : MethodName := ⟨RX5, "ifRun", "(I)I"⟩
abbrev cX5_leastDrift : ByteArray := prog_1_method_24_code
def yX5_leastDrift : MethodName := ⟨RX5, "leastDrift", "()I"⟩
abbrev cX5_undo : ByteArray := prog_1_method_25_code
def yX5_undo : MethodName := ⟨RX5, "undo", "()I"⟩
abbrev cX5_save : ByteArray := prog_1_method_26_code
def yX5_save : MethodName := ⟨RX5, "save", "()I"⟩
abbrev cX5_restore : ByteArray := prog_1_method_27_code
def yX5_restore : MethodName := ⟨RX5, "restore", "()I"⟩
abbrev cX5_remember : ByteArray := prog_1_method_28_code
def yX5_remember : MethodName := ⟨RX5, "remember", "()V"⟩
abbrev cX5_reckoned : ByteArray := prog_1_method_29_code
def yX5_reckoned : MethodName := ⟨RX5, "reckoned", "(Z)LDriftPlans$Reckoner;"⟩
abbrev cX5_runQuery : ByteArray := prog_1_method_30_code
def yX5_runQuery : MethodName := ⟨RX5, "runQuery", "(I)J"⟩
abbrev cX5_carryOutDeed : ByteArray := prog_1_method_31_code
def yX5_carryOutDeed : MethodName := ⟨RX5, "carryOutDeed", "(LDriftPlans$Reader;)Z"⟩
abbrev cX5_told : ByteArray := prog_1_method_32_code
def yX5_told : MethodName := ⟨RX5, "told", "(J)I"⟩
abbrev cX5_isTable : ByteArray := prog_1_method_33_code
def yX5_isTable : MethodName := ⟨RX5, "isTable", "(I)Z"⟩
abbrev cX5_isJoin : ByteArray := prog_1_method_34_code
def yX5_isJoin : MethodName := ⟨RX5, "isJoin", "(II)Z"⟩
abbrev cX5_isSet : ByteArray := prog_1_method_35_code
def yX5_isSet : MethodName := ⟨RX5, "isSet", "(I)Z"⟩
abbrev cX5_bit : ByteArray := prog_1_method_36_code
def yX5_bit : MethodName := ⟨RX5, "bit", "(I)I"⟩
abbrev cX5_has : ByteArray := prog_1_method_37_code
def yX5_has : MethodName := ⟨RX5, "has", "(II)Z"⟩
abbrev cX5_hasAll : ByteArray := prog_1_method_38_code
def yX5_hasAll : MethodName := ⟨RX5, "hasAll", "(II)Z"⟩
abbrev cX5_makingCost : ByteArray := prog_1_method_39_code
def yX5_makingCost : MethodName := ⟨RX5, "makingCost", "(I)J"⟩
abbrev cX5_longerOrder : ByteArray := prog_1_method_40_code
def yX5_longerOrder : MethodName := ⟨RX5, "longerOrder", "(II)I"⟩
abbrev cX5_tableAt : ByteArray := prog_1_method_41_code
def yX5_tableAt : MethodName := ⟨RX5, "tableAt", "(III)I"⟩
abbrev cX5_driftDown : ByteArray := prog_1_method_42_code
def yX5_driftDown : MethodName := ⟨RX5, "driftDown", "(II)I"⟩
abbrev cX5_driftUp : ByteArray := prog_1_method_43_code
def yX5_driftUp : MethodName := ⟨RX5, "driftUp", "(II)I"⟩
def RX6 : String := "DriftPlansModel"
def TX6 : u_T := fun k => match k with
  | 0 => ("DriftPlansModel", "s", "[I", true)
  | 1 => ("DriftPlansModel", "past", "[I", true)
  | 2 => ("DriftPlansModel", "kept", "[I", true)
  | 3 => ("DriftPlansModel", "spare", "[I", true)
  | 4 => ("DriftPlansModel", "paid", "[J", true)
  | 5 => ("DriftPlansModel", "pastPaid", "[J", true)
  | 6 => ("DriftPlansModel", "keptPaid", "[J", true)
  | 7 => ("DriftPlansModel", "sparePaid", "[J", true)
  | 8 => ("DriftPlansModel", "isKept", "Z", false)
  | 9 => ("DriftPlansModel", "pasts", "I", false)
  | 10 => ("DriftPlansModel", "runs", "Z", false)
  | 11 => ("DriftPlansModel", "pad", "[I", true)
  | 12 => ("DriftPlansModel", "typed", "I", false)
  | 13 => ("DriftPlansModel", "isStopped", "Z", false)
  | 14 => ("DriftPlansModel", "stop", "[I", true)
  | 15 => ("DriftPlansModel", "order", "[I", true)
  | 16 => ("DriftPlansModel", "best", "[I", true)
  | 17 => ("DriftPlansModel", "many", "I", false)
  | 18 => ("DriftPlansModel", "bySets", "[J", true)
  | 19 => ("DriftPlansModel", "spot", "I", false)
  | 20 => ("DriftPlansModel", "deeds", "I", false)
  | _ => ("DriftPlansModel", "deed", "[I", true)
def tyX6 : Nat → FieldType := fun k => match k with
  | 0 => .array .int
  | 1 => .array .int
  | 2 => .array .int
  | 3 => .array .int
  | 4 => .array .long
  | 5 => .array .long
  | 6 => .array .long
  | 7 => .array .long
  | 8 => .boolean
  | 9 => .int
  | 10 => .boolean
  | 11 => .array .int
  | 12 => .int
  | 13 => .boolean
  | 14 => .array .int
  | 15 => .array .int
  | 16 => .array .int
  | 17 => .int
  | 18 => .array .long
  | 19 => .int
  | 20 => .int
  | _ => .array .int
abbrev wsX60 : List Cond := u_ws RX6 TX6 22
theorem nmX6 : ∀ a, a < 22 → ∀ b, b < 22 → a ≠ b → (TX6 a).2.1 ≠ (TX6 b).2.1 := by decide +kernel
theorem tyX6_ok : ∀ k, k < 22 → parseFieldDescriptor (TX6 k).2.2.1 = some (tyX6 k) := by decide +kernel
abbrev cX6_init : ByteArray := prog_8_method_1_code
def yX6_init : MethodName := ⟨RX6, "<init>", "()V"⟩
abbrev cX6_in : ByteArray := prog_8_method_3_code
def yX6_in : MethodName := ⟨RX6, "in", "(III)Z"⟩
abbrev cX6_cut : ByteArray := prog_8_method_4_code
def yX6_cut : MethodName := ⟨RX6, "cut", "(J)I"⟩
abbrev cX6_changes : ByteArray := prog_8_method_5_code
def yX6_changes : MethodName := ⟨RX6, "changes", "()V"⟩
abbrev cX6_putsAside : ByteArray := prog_8_method_6_code
def yX6_putsAside : MethodName := ⟨RX6, "putsAside", "()V"⟩
abbrev cX6_putsBack : ByteArray := prog_8_method_7_code
def yX6_putsBack : MethodName := ⟨RX6, "putsBack", "()V"⟩
abbrev cX6_isTable : ByteArray := prog_8_method_8_code
def yX6_isTable : MethodName := ⟨RX6, "isTable", "(I)Z"⟩
abbrev cX6_isSet : ByteArray := prog_8_method_9_code
def yX6_isSet : MethodName := ⟨RX6, "isSet", "(I)Z"⟩
abbrev cX6_sizeOf : ByteArray := prog_8_method_10_code
def yX6_sizeOf : MethodName := ⟨RX6, "sizeOf", "(II)J"⟩
abbrev cX6_base : ByteArray := prog_8_method_11_code
def yX6_base : MethodName := ⟨RX6, "base", "(Z)I"⟩
abbrev cX6_costOf : ByteArray := prog_8_method_12_code
def yX6_costOf : MethodName := ⟨RX6, "costOf", "(I)J"⟩
abbrev cX6_hasNext : ByteArray := prog_8_method_13_code
def yX6_hasNext : MethodName := ⟨RX6, "hasNext", "()Z"⟩
abbrev cX6_swaps : ByteArray := prog_8_method_14_code
def yX6_swaps : MethodName := ⟨RX6, "swaps", "(II)V"⟩
abbrev cX6_finds : ByteArray := prog_8_method_15_code
def yX6_finds : MethodName := ⟨RX6, "finds", "(II)J"⟩
abbrev cX6_findsBySets : ByteArray := prog_8_method_16_code
def yX6_findsBySets : MethodName := ⟨RX6, "findsBySets", "(II)J"⟩
abbrev cX6_at : ByteArray := prog_8_method_17_code
def yX6_at : MethodName := ⟨RX6, "at", "(I)I"⟩
abbrev cX6_slotOf : ByteArray := prog_8_method_18_code
def yX6_slotOf : MethodName := ⟨RX6, "slotOf", "(I)I"⟩
abbrev cX6_tablesIn : ByteArray := prog_8_method_19_code
def yX6_tablesIn : MethodName := ⟨RX6, "tablesIn", "(I)I"⟩
abbrev cX6_costAt : ByteArray := prog_8_method_20_code
def yX6_costAt : MethodName := ⟨RX6, "costAt", "(II)J"⟩
abbrev cX6_hasDrifted : ByteArray := prog_8_method_21_code
def yX6_hasDrifted : MethodName := ⟨RX6, "hasDrifted", "(II)Z"⟩
abbrev cX6_isLoose : ByteArray := prog_8_method_22_code
def yX6_isLoose : MethodName := ⟨RX6, "isLoose", "(I)Z"⟩
abbrev cX6_empties : ByteArray := prog_8_method_23_code
def yX6_empties : MethodName := ⟨RX6, "empties", "(I)V"⟩
abbrev cX6_throwsOut : ByteArray := prog_8_method_24_code
def yX6_throwsOut : MethodName := ⟨RX6, "throwsOut", "()I"⟩
abbrev cX6_counts : ByteArray := prog_8_method_25_code
def yX6_counts : MethodName := ⟨RX6, "counts", "(I)I"⟩
abbrev cX6_rows : ByteArray := prog_8_method_26_code
def yX6_rows : MethodName := ⟨RX6, "rows", "(II)I"⟩
abbrev cX6_part : ByteArray := prog_8_method_27_code
def yX6_part : MethodName := ⟨RX6, "part", "(III)I"⟩
abbrev cX6_count : ByteArray := prog_8_method_28_code
def yX6_count : MethodName := ⟨RX6, "count", "(I)I"⟩
abbrev cX6_slotFor : ByteArray := prog_8_method_29_code
def yX6_slotFor : MethodName := ⟨RX6, "slotFor", "()I"⟩
abbrev cX6_makes : ByteArray := prog_8_method_30_code
def yX6_makes : MethodName := ⟨RX6, "makes", "(I)J"⟩
abbrev cX6_uses : ByteArray := prog_8_method_31_code
def yX6_uses : MethodName := ⟨RX6, "uses", "(I)J"⟩
abbrev cX6_runsOf : ByteArray := prog_8_method_32_code
def yX6_runsOf : MethodName := ⟨RX6, "runsOf", "(I)J"⟩
abbrev cX6_run : ByteArray := prog_8_method_33_code
def yX6_run : MethodName := ⟨RX6, "run", "(I)I"⟩
abbrev cX6_pin : ByteArray := prog_8_method_34_code
def yX6_pin : MethodName := ⟨RX6, "pin", "(I)I"⟩
abbrev cX6_forget : ByteArray := prog_8_method_35_code
def yX6_forget : MethodName := ⟨RX6, "forget", "(I)I"⟩
abbrev cX6_drift : ByteArray := prog_8_method_36_code
def yX6_drift : MethodName := ⟨RX6, "drift", "(I)I"⟩
abbrev cX6_append : ByteArray := prog_8_method_37_code
def yX6_append : MethodName := ⟨RX6, "append", "(I)I"⟩
abbrev cX6_clear : ByteArray := prog_8_method_38_code
def yX6_clear : MethodName := ⟨RX6, "clear", "()I"⟩
abbrev cX6_isAt : ByteArray := prog_8_method_39_code
def yX6_isAt : MethodName := ⟨RX6, "isAt", "(II)Z"⟩
abbrev cX6_sign : ByteArray := prog_8_method_40_code
def yX6_sign : MethodName := ⟨RX6, "sign", "(I)Z"⟩
abbrev cX6_digits : ByteArray := prog_8_method_41_code
def yX6_digits : MethodName := ⟨RX6, "digits", "()Z"⟩
abbrev cX6_oneTable : ByteArray := prog_8_method_42_code
def yX6_oneTable : MethodName := ⟨RX6, "oneTable", "()Z"⟩
abbrev cX6_number : ByteArray := prog_8_method_43_code
def yX6_number : MethodName := ⟨RX6, "number", "()Z"⟩
abbrev cX6_reads : ByteArray := prog_8_method_44_code
def yX6_reads : MethodName := ⟨RX6, "reads", "()Z"⟩
abbrev cX6_fault : ByteArray := prog_8_method_45_code
def yX6_fault : MethodName := ⟨RX6, "fault", "()I"⟩
abbrev cX6_pins : ByteArray := prog_8_method_46_code
def yX6_pins : MethodName := ⟨RX6, "pins", "(I)I"⟩
abbrev cX6_does : ByteArray := prog_8_method_47_code
def yX6_does : MethodName := ⟨RX6, "does", "(I)I"⟩
abbrev cX6_carryOut : ByteArray := prog_8_method_48_code
def yX6_carryOut : MethodName := ⟨RX6, "carryOut", "()I"⟩
abbrev cX6_why : ByteArray := prog_8_method_49_code
def yX6_why : MethodName := ⟨RX6, "why", "(I)I"⟩
abbrev cX6_plansWith : ByteArray := prog_8_method_50_code
def yX6_plansWith : MethodName := ⟨RX6, "plansWith", "(I)I"⟩
abbrev cX6_table : ByteArray := prog_8_method_51_code
def yX6_table : MethodName := ⟨RX6, "table", "(II)I"⟩
abbrev cX6_partOf : ByteArray := prog_8_method_52_code
def yX6_partOf : MethodName := ⟨RX6, "partOf", "(II)I"⟩
abbrev cX6_size : ByteArray := prog_8_method_53_code
def yX6_size : MethodName := ⟨RX6, "size", "(IZ)I"⟩
abbrev cX6_least : ByteArray := prog_8_method_54_code
def yX6_least : MethodName := ⟨RX6, "least", "(IZI)I"⟩
abbrev cX6_best : ByteArray := prog_8_method_55_code
def yX6_best : MethodName := ⟨RX6, "best", "(IZI)I"⟩
abbrev cX6_orderOf : ByteArray := prog_8_method_56_code
def yX6_orderOf : MethodName := ⟨RX6, "orderOf", "(I)I"⟩
abbrev cX6_over : ByteArray := prog_8_method_57_code
def yX6_over : MethodName := ⟨RX6, "over", "(I)J"⟩
abbrev cX6_plan : ByteArray := prog_8_method_58_code
def yX6_plan : MethodName := ⟨RX6, "plan", "(II)I"⟩
abbrev cX6_plans : ByteArray := prog_8_method_59_code
def yX6_plans : MethodName := ⟨RX6, "plans", "()I"⟩
abbrev cX6_pinned : ByteArray := prog_8_method_60_code
def yX6_pinned : MethodName := ⟨RX6, "pinned", "()I"⟩
abbrev cX6_counted : ByteArray := prog_8_method_61_code
def yX6_counted : MethodName := ⟨RX6, "counted", "(I)I"⟩
abbrev cX6_fitness : ByteArray := prog_8_method_62_code
def yX6_fitness : MethodName := ⟨RX6, "fitness", "()D"⟩
abbrev cX6_dearer : ByteArray := prog_8_method_63_code
def yX6_dearer : MethodName := ⟨RX6, "dearer", "()I"⟩
abbrev cX6_ifCounted : ByteArray := prog_8_method_64_code
def yX6_ifCounted : MethodName := ⟨RX6, "ifCounted", "(II)I"⟩
abbrev cX6_ifRun : ByteArray := prog_8_method_65_code
def yX6_ifRun : MethodName := ⟨RX6, "ifRun", "(I)I"⟩
abbrev cX6_leastDrift : ByteArray := prog_8_method_66_code
def yX6_leastDrift : MethodName := ⟨RX6, "leastDrift", "()I"⟩
abbrev cX6_undo : ByteArray := prog_8_method_67_code
def yX6_undo : MethodName := ⟨RX6, "undo", "()I"⟩
abbrev cX6_save : ByteArray := prog_8_method_68_code
def yX6_save : MethodName := ⟨RX6, "save", "()I"⟩
abbrev cX6_restore : ByteArray := prog_8_method_69_code
def yX6_restore : MethodName := ⟨RX6, "restore", "()I"⟩
def RJx145de : String := "java/io/Serializable"
def TJx145de : u_T := fun k => match k with
  | _ => ("", "", "", false)
def tyJx145de : Nat → FieldType := fun k => match k with
  | _ => .int
abbrev wsJx145de0 : List Cond := u_ws RJx145de TJx145de 0
theorem nmJx145de : ∀ a, a < 0 → ∀ b, b < 0 → a ≠ b → (TJx145de a).2.1 ≠ (TJx145de b).2.1 := by decide +kernel
theorem tyJx145de_ok : ∀ k, k < 0 → parseFieldDescriptor (TJx145de k).2.2.1 = some (tyJx145de k) := by decide +kernel
def RJx8e188 : String := "java/lang/Cloneable"
def TJx8e188 : u_T := fun k => match k with
  | _ => ("", "", "", false)
def tyJx8e188 : Nat → FieldType := fun k => match k with
  | _ => .int
abbrev wsJx8e1880 : List Cond := u_ws RJx8e188 TJx8e188 0
theorem nmJx8e188 : ∀ a, a < 0 → ∀ b, b < 0 → a ≠ b → (TJx8e188 a).2.1 ≠ (TJx8e188 b).2.1 := by decide +kernel
theorem tyJx8e188_ok : ∀ k, k < 0 → parseFieldDescriptor (TJx8e188 k).2.2.1 = some (tyJx8e188 k) := by decide +kernel
def RJ6 : String := "java/lang/Integer"
def TJ6 : u_T := fun k => match k with
  | _ => ("", "", "", false)
def tyJ6 : Nat → FieldType := fun k => match k with
  | _ => .int
abbrev wsJ60 : List Cond := u_ws RJ6 TJ6 0
theorem nmJ6 : ∀ a, a < 0 → ∀ b, b < 0 → a ≠ b → (TJ6 a).2.1 ≠ (TJ6 b).2.1 := by decide +kernel
theorem tyJ6_ok : ∀ k, k < 0 → parseFieldDescriptor (TJ6 k).2.2.1 = some (tyJ6 k) := by decide +kernel
abbrev cJ6_bitCount_0f7a4 : ByteArray := prog_11_method_49_code
def yJ6_bitCount_0f7a4 : MethodName := ⟨RJ6, "bitCount", "(I)I"⟩
def RJxab1ab : String := "java/lang/Iterable"
def TJxab1ab : u_T := fun k => match k with
  | _ => ("", "", "", false)
def tyJxab1ab : Nat → FieldType := fun k => match k with
  | _ => .int
abbrev wsJxab1ab0 : List Cond := u_ws RJxab1ab TJxab1ab 0
theorem nmJxab1ab : ∀ a, a < 0 → ∀ b, b < 0 → a ≠ b → (TJxab1ab a).2.1 ≠ (TJxab1ab b).2.1 := by decide +kernel
theorem tyJxab1ab_ok : ∀ k, k < 0 → parseFieldDescriptor (TJxab1ab k).2.2.1 = some (tyJxab1ab k) := by decide +kernel
def RJ9 : String := "java/lang/Math"
def TJ9 : u_T := fun k => match k with
  | _ => ("", "", "", false)
def tyJ9 : Nat → FieldType := fun k => match k with
  | _ => .int
abbrev wsJ90 : List Cond := u_ws RJ9 TJ9 0
theorem nmJ9 : ∀ a, a < 0 → ∀ b, b < 0 → a ≠ b → (TJ9 a).2.1 ≠ (TJ9 b).2.1 := by decide +kernel
theorem tyJ9_ok : ∀ k, k < 0 → parseFieldDescriptor (TJ9 k).2.2.1 = some (tyJ9 k) := by decide +kernel
abbrev cJ9_max_7cf53 : ByteArray := prog_13_method_65_code
def yJ9_max_7cf53 : MethodName := ⟨RJ9, "max", "(II)I"⟩
abbrev cJ9_max_f86c9 : ByteArray := prog_13_method_66_code
def yJ9_max_f86c9 : MethodName := ⟨RJ9, "max", "(JJ)J"⟩
abbrev cJ9_min_7cf53 : ByteArray := prog_13_method_69_code
def yJ9_min_7cf53 : MethodName := ⟨RJ9, "min", "(II)I"⟩
abbrev cJ9_min_f86c9 : ByteArray := prog_13_method_70_code
def yJ9_min_f86c9 : MethodName := ⟨RJ9, "min", "(JJ)J"⟩
def RJ10 : String := "java/lang/System"
def TJ10 : u_T := fun k => match k with
  | _ => ("", "", "", false)
def tyJ10 : Nat → FieldType := fun k => match k with
  | _ => .int
abbrev wsJ100 : List Cond := u_ws RJ10 TJ10 0
theorem nmJ10 : ∀ a, a < 0 → ∀ b, b < 0 → a ≠ b → (TJ10 a).2.1 ≠ (TJ10 b).2.1 := by decide +kernel
theorem tyJ10_ok : ∀ k, k < 0 → parseFieldDescriptor (TJ10 k).2.2.1 = some (tyJ10 k) := by decide +kernel
def RJxa1e45 : String := "java/util/AbstractCollection"
def TJxa1e45 : u_T := fun k => match k with
  | _ => ("", "", "", false)
def tyJxa1e45 : Nat → FieldType := fun k => match k with
  | _ => .int
abbrev wsJxa1e450 : List Cond := u_ws RJxa1e45 TJxa1e45 0
theorem nmJxa1e45 : ∀ a, a < 0 → ∀ b, b < 0 → a ≠ b → (TJxa1e45 a).2.1 ≠ (TJxa1e45 b).2.1 := by decide +kernel
theorem tyJxa1e45_ok : ∀ k, k < 0 → parseFieldDescriptor (TJxa1e45 k).2.2.1 = some (tyJxa1e45 k) := by decide +kernel
abbrev cJxa1e45_init_da8c8 : ByteArray := prog_15_method_1_code
def yJxa1e45_init_da8c8 : MethodName := ⟨RJxa1e45, "<init>", "()V"⟩
def RJxc12de : String := "java/util/AbstractList"
def TJxc12de : u_T := fun k => match k with
  | _ => ("", "", "", false)
def tyJxc12de : Nat → FieldType := fun k => match k with
  | _ => .int
abbrev wsJxc12de0 : List Cond := u_ws RJxc12de TJxc12de 0
theorem nmJxc12de : ∀ a, a < 0 → ∀ b, b < 0 → a ≠ b → (TJxc12de a).2.1 ≠ (TJxc12de b).2.1 := by decide +kernel
theorem tyJxc12de_ok : ∀ k, k < 0 → parseFieldDescriptor (TJxc12de k).2.2.1 = some (tyJxc12de k) := by decide +kernel
abbrev cJxc12de_init_da8c8 : ByteArray := prog_16_method_1_code
def yJxc12de_init_da8c8 : MethodName := ⟨RJxc12de, "<init>", "()V"⟩
def RJx4a65c : String := "java/util/ArrayList"
def TJx4a65c : u_T := fun k => match k with
  | 0 => ("java/util/AbstractList", "modCount", "I", false)
  | 1 => ("java/util/ArrayList", "elementData", "[Ljava/lang/Object;", false)
  | _ => ("java/util/ArrayList", "size", "I", false)
def tyJx4a65c : Nat → FieldType := fun k => match k with
  | 0 => .int
  | 1 => .array (.object "java/lang/Object")
  | _ => .int
abbrev wsJx4a65c0 : List Cond := u_ws RJx4a65c TJx4a65c 3
theorem nmJx4a65c : ∀ a, a < 3 → ∀ b, b < 3 → a ≠ b → (TJx4a65c a).2.1 ≠ (TJx4a65c b).2.1 := by decide +kernel
theorem tyJx4a65c_ok : ∀ k, k < 3 → parseFieldDescriptor (TJx4a65c k).2.2.1 = some (tyJx4a65c k) := by decide +kernel
abbrev cJx4a65c_init_da8c8 : ByteArray := prog_17_method_2_code
def yJx4a65c_init_da8c8 : MethodName := ⟨RJx4a65c, "<init>", "()V"⟩
abbrev cJx4a65c_grow_92f84 : ByteArray := prog_17_method_6_code
def yJx4a65c_grow_92f84 : MethodName := ⟨RJx4a65c, "grow", "(I)[Ljava/lang/Object;"⟩
abbrev cJx4a65c_grow_d5877 : ByteArray := prog_17_method_7_code
def yJx4a65c_grow_d5877 : MethodName := ⟨RJx4a65c, "grow", "()[Ljava/lang/Object;"⟩
abbrev cJx4a65c_size_8abf5 : ByteArray := prog_17_method_8_code
def yJx4a65c_size_8abf5 : MethodName := ⟨RJx4a65c, "size", "()I"⟩
abbrev cJx4a65c_elementData_915e3 : ByteArray := prog_17_method_18_code
def yJx4a65c_elementData_915e3 : MethodName := ⟨RJx4a65c, "elementData", "(I)Ljava/lang/Object;"⟩
abbrev cJx4a65c_get_915e3 : ByteArray := prog_17_method_20_code
def yJx4a65c_get_915e3 : MethodName := ⟨RJx4a65c, "get", "(I)Ljava/lang/Object;"⟩
abbrev cJx4a65c_set_bcc79 : ByteArray := prog_17_method_23_code
def yJx4a65c_set_bcc79 : MethodName := ⟨RJx4a65c, "set", "(ILjava/lang/Object;)Ljava/lang/Object;"⟩
abbrev cJx4a65c_add_72be8 : ByteArray := prog_17_method_24_code
def yJx4a65c_add_72be8 : MethodName := ⟨RJx4a65c, "add", "(Ljava/lang/Object;[Ljava/lang/Object;I)V"⟩
abbrev cJx4a65c_add_9ea2d : ByteArray := prog_17_method_25_code
def yJx4a65c_add_9ea2d : MethodName := ⟨RJx4a65c, "add", "(Ljava/lang/Object;)Z"⟩
abbrev cJx4a65c_remove_915e3 : ByteArray := prog_17_method_29_code
def yJx4a65c_remove_915e3 : MethodName := ⟨RJx4a65c, "remove", "(I)Ljava/lang/Object;"⟩
abbrev cJx4a65c_fastRemove_b59b0 : ByteArray := prog_17_method_39_code
def yJx4a65c_fastRemove_b59b0 : MethodName := ⟨RJx4a65c, "fastRemove", "([Ljava/lang/Object;I)V"⟩
def RJ7 : String := "java/util/Arrays"
def TJ7 : u_T := fun k => match k with
  | _ => ("", "", "", false)
def tyJ7 : Nat → FieldType := fun k => match k with
  | _ => .int
abbrev wsJ70 : List Cond := u_ws RJ7 TJ7 0
theorem nmJ7 : ∀ a, a < 0 → ∀ b, b < 0 → a ≠ b → (TJ7 a).2.1 ≠ (TJ7 b).2.1 := by decide +kernel
theorem tyJ7_ok : ∀ k, k < 0 → parseFieldDescriptor (TJ7 k).2.2.1 = some (tyJ7 k) := by decide +kernel
abbrev cJ7_copyOf_1904c : ByteArray := prog_18_method_119_code
def yJ7_copyOf_1904c : MethodName := ⟨RJ7, "copyOf", "([Ljava/lang/Object;I)[Ljava/lang/Object;"⟩
abbrev cJ7_copyOf_6403c : ByteArray := prog_18_method_120_code
def yJ7_copyOf_6403c : MethodName := ⟨RJ7, "copyOf", "([Ljava/lang/Object;ILjava/lang/Class;)[Ljava/lang/Object;"⟩
def RJx5ef63 : String := "java/util/Collection"
def TJx5ef63 : u_T := fun k => match k with
  | _ => ("", "", "", false)
def tyJx5ef63 : Nat → FieldType := fun k => match k with
  | _ => .int
abbrev wsJx5ef630 : List Cond := u_ws RJx5ef63 TJx5ef63 0
theorem nmJx5ef63 : ∀ a, a < 0 → ∀ b, b < 0 → a ≠ b → (TJx5ef63 a).2.1 ≠ (TJx5ef63 b).2.1 := by decide +kernel
theorem tyJx5ef63_ok : ∀ k, k < 0 → parseFieldDescriptor (TJx5ef63 k).2.2.1 = some (tyJx5ef63 k) := by decide +kernel
def RJxbd725 : String := "java/util/List"
def TJxbd725 : u_T := fun k => match k with
  | _ => ("", "", "", false)
def tyJxbd725 : Nat → FieldType := fun k => match k with
  | _ => .int
abbrev wsJxbd7250 : List Cond := u_ws RJxbd725 TJxbd725 0
theorem nmJxbd725 : ∀ a, a < 0 → ∀ b, b < 0 → a ≠ b → (TJxbd725 a).2.1 ≠ (TJxbd725 b).2.1 := by decide +kernel
theorem tyJxbd725_ok : ∀ k, k < 0 → parseFieldDescriptor (TJxbd725 k).2.2.1 = some (tyJxbd725 k) := by decide +kernel
def RJ15 : String := "java/util/Objects"
def TJ15 : u_T := fun k => match k with
  | _ => ("", "", "", false)
def tyJ15 : Nat → FieldType := fun k => match k with
  | _ => .int
abbrev wsJ150 : List Cond := u_ws RJ15 TJ15 0
theorem nmJ15 : ∀ a, a < 0 → ∀ b, b < 0 → a ≠ b → (TJ15 a).2.1 ≠ (TJ15 b).2.1 := by decide +kernel
theorem tyJ15_ok : ∀ k, k < 0 → parseFieldDescriptor (TJ15 k).2.2.1 = some (tyJ15 k) := by decide +kernel
abbrev cJ15_checkIndex_7cf53 : ByteArray := prog_21_method_17_code
def yJ15_checkIndex_7cf53 : MethodName := ⟨RJ15, "checkIndex", "(II)I"⟩
def RJxf0a74 : String := "java/util/RandomAccess"
def TJxf0a74 : u_T := fun k => match k with
  | _ => ("", "", "", false)
def tyJxf0a74 : Nat → FieldType := fun k => match k with
  | _ => .int
abbrev wsJxf0a740 : List Cond := u_ws RJxf0a74 TJxf0a74 0
theorem nmJxf0a74 : ∀ a, a < 0 → ∀ b, b < 0 → a ≠ b → (TJxf0a74 a).2.1 ≠ (TJxf0a74 b).2.1 := by decide +kernel
theorem tyJxf0a74_ok : ∀ k, k < 0 → parseFieldDescriptor (TJxf0a74 k).2.2.1 = some (tyJxf0a74 k) := by decide +kernel
def RJxa66e6 : String := "java/util/SequencedCollection"
def TJxa66e6 : u_T := fun k => match k with
  | _ => ("", "", "", false)
def tyJxa66e6 : Nat → FieldType := fun k => match k with
  | _ => .int
abbrev wsJxa66e60 : List Cond := u_ws RJxa66e6 TJxa66e6 0
theorem nmJxa66e6 : ∀ a, a < 0 → ∀ b, b < 0 → a ≠ b → (TJxa66e6 a).2.1 ≠ (TJxa66e6 b).2.1 := by decide +kernel
theorem tyJxa66e6_ok : ∀ k, k < 0 → parseFieldDescriptor (TJxa66e6 k).2.2.1 = some (tyJxa66e6 k) := by decide +kernel
def RJ8 : String := "jdk/internal/util/ArraysSupport"
def TJ8 : u_T := fun k => match k with
  | _ => ("", "", "", false)
def tyJ8 : Nat → FieldType := fun k => match k with
  | _ => .int
abbrev wsJ80 : List Cond := u_ws RJ8 TJ8 0
theorem nmJ8 : ∀ a, a < 0 → ∀ b, b < 0 → a ≠ b → (TJ8 a).2.1 ≠ (TJ8 b).2.1 := by decide +kernel
theorem tyJ8_ok : ∀ k, k < 0 → parseFieldDescriptor (TJ8 k).2.2.1 = some (tyJ8 k) := by decide +kernel
abbrev cJ8_newLength_cabcc : ByteArray := prog_24_method_27_code
def yJ8_newLength_cabcc : MethodName := ⟨RJ8, "newLength", "(III)I"⟩
abbrev cJ8_hugeLength_7cf53 : ByteArray := prog_24_method_28_code
def yJ8_hugeLength_7cf53 : MethodName := ⟨RJ8, "hugeLength", "(II)I"⟩
def RJ3 : String := "jdk/internal/util/Preconditions"
def TJ3 : u_T := fun k => match k with
  | _ => ("", "", "", false)
def tyJ3 : Nat → FieldType := fun k => match k with
  | _ => .int
abbrev wsJ30 : List Cond := u_ws RJ3 TJ3 0
theorem nmJ3 : ∀ a, a < 0 → ∀ b, b < 0 → a ≠ b → (TJ3 a).2.1 ≠ (TJ3 b).2.1 := by decide +kernel
theorem tyJ3_ok : ∀ k, k < 0 → parseFieldDescriptor (TJ3 k).2.2.1 = some (tyJ3 k) := by decide +kernel
abbrev cJ3_checkIndex_8e157 : ByteArray := prog_25_method_11_code
def yJ3_checkIndex_8e157 : MethodName := ⟨RJ3, "checkIndex", "(IILjava/util/function/BiFunction;)I"⟩
def RL : String := "DriftPlansLaw"
abbrev cL_law : ByteArray := code
def yL_law : MethodName := ⟨RL, "law", "([I)Z"⟩
def wsL_law_r1 : List Cond := [Cond.classLink RL 7 RX5, Cond.instantiable RX5 7, Cond.initialized RX5, Cond.classLink RL 10 RX6, Cond.instantiable RX6 22, Cond.initialized RX6, Cond.methodLink RL 9 yX5_init, Cond.instanceMethod yX5_init, Cond.code yX5_init cX5_init 1 none, Cond.methodLink RX5 1 objectInit, Cond.instanceMethod objectInit, Cond.code objectInit ⟨#[0xb1]⟩ 1 none, Cond.classLink RX5 7 RX4, Cond.instantiable RX4 14, Cond.initialized RX4, Cond.fieldLink RX5 10 "DriftPlans" "now" "LDriftPlans$State;", Cond.fieldLink RX5 16 "DriftPlans" "snapshot" "LDriftPlans$State;", Cond.classLink RX5 19 RJx4a65c, Cond.instantiable RJx4a65c 3, Cond.initialized RJx4a65c, Cond.fieldLink RX5 22 "DriftPlans" "history" "Ljava/util/ArrayList;", Cond.classLink RX5 26 RX3, Cond.instantiable RX3 3, Cond.initialized RX3]
def wsL_law_r2 : List Cond := [Cond.fieldLink RX5 29 "DriftPlans" "reckoner" "LDriftPlans$Reckoner;", Cond.classLink RX5 33 RX1, Cond.instantiable RX1 2, Cond.initialized RX1, Cond.fieldLink RX5 36 "DriftPlans" "pad" "LDriftPlans$Pad;", Cond.fieldLink RX5 40 "DriftPlans" "stopDeed" "I", Cond.fieldLink RX5 44 "DriftPlans" "stopPlace" "I", Cond.methodLink RX5 9 yX4_init, Cond.instanceMethod yX4_init, Cond.code yX4_init cX4_init 3 none, Cond.methodLink RX4 3 objectInit, Cond.arrayClass .int, Cond.fieldLink RX4 9 "DriftPlans$State" "rows" "[I", Cond.fieldLink RX4 15 "DriftPlans$State" "guesses" "[I", Cond.classLink RX4 18 "[[I", Cond.fieldLink RX4 20 "DriftPlans$State" "parts" "[[I", Cond.classLink RX4 23 RJx4a65c, Cond.fieldLink RX4 26 "DriftPlans$State" "kept" "Ljava/util/ArrayList;", Cond.fieldLink RX4 30 "DriftPlans$State" "driftLimit" "I", Cond.methodLink RX4 25 yJx4a65c_init_da8c8, Cond.instanceMethod yJx4a65c_init_da8c8, Cond.code yJx4a65c_init_da8c8 cJx4a65c_init_da8c8 1 none, Cond.fieldLink RJx4a65c 39 "java/util/ArrayList" "DEFAULTCAPACITY_EMPTY_ELEMENTDATA" "[Ljava/lang/Object;", Cond.fieldLink RJx4a65c 9 "java/util/ArrayList" "elementData" "[Ljava/lang/Object;"]
def wsL_law_r3 : List Cond := [Cond.methodLink RJx4a65c 1 yJxc12de_init_da8c8, Cond.instanceMethod yJxc12de_init_da8c8, Cond.initialized RJxc12de, Cond.code yJxc12de_init_da8c8 cJxc12de_init_da8c8 1 none, Cond.fieldLink RJxc12de 7 "java/util/AbstractList" "modCount" "I", Cond.methodLink RJxc12de 1 yJxa1e45_init_da8c8, Cond.instanceMethod yJxa1e45_init_da8c8, Cond.initialized RJxa1e45, Cond.code yJxa1e45_init_da8c8 cJxa1e45_init_da8c8 1 none, Cond.methodLink RJxa1e45 1 objectInit, Cond.methodLink RX5 21 yJx4a65c_init_da8c8, Cond.methodLink RX5 28 yX3_init, Cond.instanceMethod yX3_init, Cond.code yX3_init cX3_init 1 none, Cond.methodLink RX3 3 objectInit, Cond.arrayClass .long, Cond.fieldLink RX3 9 "DriftPlans$Reckoner" "products" "[J", Cond.fieldLink RX3 15 "DriftPlans$Reckoner" "leastCosts" "[J", Cond.fieldLink RX3 18 "DriftPlans$Reckoner" "bestOrders" "[I", Cond.instanceMethod yX1_init, Cond.code yX1_init cX1_init 1 none, Cond.methodLink RX1 3 objectInit, Cond.arrayClass .char, Cond.fieldLink RX1 9 "DriftPlans$Pad" "signs" "[C"]
def wsL_law_r4 : List Cond := [Cond.fieldLink RX1 15 "DriftPlans$Pad" "length" "I", Cond.methodLink RL 12 yX6_init, Cond.instanceMethod yX6_init, Cond.code yX6_init cX6_init 2 none, Cond.methodLink RX6 1 objectInit, Cond.fieldLink RX6 7 "DriftPlansModel" "s" "[I", Cond.fieldLink RX6 13 "DriftPlansModel" "past" "[I", Cond.fieldLink RX6 16 "DriftPlansModel" "kept" "[I", Cond.fieldLink RX6 19 "DriftPlansModel" "spare" "[I", Cond.fieldLink RX6 22 "DriftPlansModel" "paid" "[J", Cond.fieldLink RX6 26 "DriftPlansModel" "pastPaid" "[J", Cond.fieldLink RX6 29 "DriftPlansModel" "keptPaid" "[J", Cond.fieldLink RX6 32 "DriftPlansModel" "sparePaid" "[J", Cond.fieldLink RX6 35 "DriftPlansModel" "pad" "[I", Cond.fieldLink RX6 38 "DriftPlansModel" "stop" "[I", Cond.fieldLink RX6 41 "DriftPlansModel" "order" "[I", Cond.fieldLink RX6 44 "DriftPlansModel" "best" "[I", Cond.fieldLink RX6 47 "DriftPlansModel" "bySets" "[J", Cond.fieldLink RX6 50 "DriftPlansModel" "deed" "[I", Cond.methodLink RL 13 yX5_rows, Cond.instanceMethod yX5_rows, Cond.selects RX5 yX5_rows yX5_rows, Cond.code yX5_rows cX5_rows 4 (some .int), Cond.fieldLink RX5 54 "DriftPlans$State" "rows" "[I"]
def wsL_law_r5 : List Cond := [Cond.methodLink RX5 47 yX5_isTable, Cond.static yX5_isTable, Cond.code yX5_isTable cX5_isTable 1 (some .boolean), Cond.methodLink RX5 51 yX5_remember, Cond.instanceMethod yX5_remember, Cond.selects RX5 yX5_remember yX5_remember, Cond.code yX5_remember cX5_remember 1 none, Cond.methodLink RX5 247 yX4_init_, Cond.instanceMethod yX4_init_, Cond.code yX4_init_ cX4_init_ 4 none, Cond.classLink RX4 42 "DriftPlans$Kept", Cond.fieldLink RX4 48 "DriftPlans$State" "hits" "J", Cond.fieldLink RX4 52 "DriftPlans$State" "misses" "J", Cond.fieldLink RX4 55 "DriftPlans$State" "runCosts" "J", Cond.fieldLink RX4 58 "DriftPlans$State" "makingCosts" "J", Cond.fieldLink RX4 61 "DriftPlans$State" "driftedOut" "J", Cond.fieldLink RX4 64 "DriftPlans$State" "pushedOut" "J", Cond.fieldLink RX4 67 "DriftPlans$State" "joinedOut" "J", Cond.fieldLink RX4 70 "DriftPlans$State" "forgotten" "J", Cond.fieldLink RX4 73 "DriftPlans$State" "usedOnly" "J", Cond.methodLink RX4 34 yJx4a65c_size_8abf5, Cond.instanceMethod yJx4a65c_size_8abf5, Cond.selects RJx4a65c yJx4a65c_size_8abf5 yJx4a65c_size_8abf5, Cond.code yJx4a65c_size_8abf5 cJx4a65c_size_8abf5 1 (some .int)]
def wsL_law_r6 : List Cond := [Cond.fieldLink RJx4a65c 48 "java/util/ArrayList" "size" "I", Cond.methodLink RX4 38 yJx4a65c_get_915e3, Cond.instanceMethod yJx4a65c_get_915e3, Cond.selects RJx4a65c yJx4a65c_get_915e3 yJx4a65c_get_915e3, Cond.code yJx4a65c_get_915e3 cJx4a65c_get_915e3 2 (some (.object "java/lang/Object")), Cond.methodLink RJx4a65c 118 yJ15_checkIndex_7cf53, Cond.static yJ15_checkIndex_7cf53, Cond.initialized RJ15, Cond.code yJ15_checkIndex_7cf53 cJ15_checkIndex_7cf53 2 (some .int), Cond.methodLink RJ15 105 yJ3_checkIndex_8e157, Cond.static yJ3_checkIndex_8e157, Cond.initialized RJ3, Cond.code yJ3_checkIndex_8e157 cJ3_checkIndex_8e157 3 (some .int), Cond.methodLink RJx4a65c 123 yJx4a65c_elementData_915e3, Cond.instanceMethod yJx4a65c_elementData_915e3, Cond.selects RJx4a65c yJx4a65c_elementData_915e3 yJx4a65c_elementData_915e3, Cond.code yJx4a65c_elementData_915e3 cJx4a65c_elementData_915e3 2 (some (.object "java/lang/Object")), Cond.methodLink RX4 44 yJx4a65c_add_9ea2d, Cond.instanceMethod yJx4a65c_add_9ea2d, Cond.selects RJx4a65c yJx4a65c_add_9ea2d yJx4a65c_add_9ea2d, Cond.code yJx4a65c_add_9ea2d cJx4a65c_add_9ea2d 2 (some .boolean), Cond.fieldLink RJx4a65c 63 "java/util/ArrayList" "modCount" "I", Cond.sameField "java/util/ArrayList" "java/util/AbstractList" "modCount" "I", Cond.methodLink RJx4a65c 131 yJx4a65c_add_72be8]
def wsL_law_r7 : List Cond := [Cond.instanceMethod yJx4a65c_add_72be8, Cond.selects RJx4a65c yJx4a65c_add_72be8 yJx4a65c_add_72be8, Cond.code yJx4a65c_add_72be8 cJx4a65c_add_72be8 4 none, Cond.methodLink RJx4a65c 129 yJx4a65c_grow_d5877, Cond.instanceMethod yJx4a65c_grow_d5877, Cond.selects RJx4a65c yJx4a65c_grow_d5877 yJx4a65c_grow_d5877, Cond.code yJx4a65c_grow_d5877 cJx4a65c_grow_d5877 1 (some (.array (.object "java/lang/Object"))), Cond.methodLink RJx4a65c 69 yJx4a65c_grow_92f84, Cond.instanceMethod yJx4a65c_grow_92f84, Cond.selects RJx4a65c yJx4a65c_grow_92f84 yJx4a65c_grow_92f84, Cond.code yJx4a65c_grow_92f84 cJx4a65c_grow_92f84 4 (some (.array (.object "java/lang/Object"))), Cond.methodLink RJx4a65c 79 Lib.Math.max.name, Cond.static Lib.Math.max.name, Cond.initialized "java/lang/Math", Cond.code Lib.Math.max.name Lib.Math.max.code 2 (some .int), Cond.classLink RJx4a65c 7 "java/lang/Object", Cond.methodLink RJx4a65c 73 yJ8_newLength_cabcc, Cond.static yJ8_newLength_cabcc, Cond.initialized RJ8, Cond.code yJ8_newLength_cabcc cJ8_newLength_cabcc 4 (some .int), Cond.methodLink RJ8 194 Lib.Math.max.name, Cond.constant RJ8 200 (2147483639), Cond.methodLink RJ8 201 yJ8_hugeLength_7cf53, Cond.static yJ8_hugeLength_7cf53]
def wsL_law_r8 : List Cond := [Cond.code yJ8_hugeLength_7cf53 cJ8_hugeLength_7cf53 3 (some .int), Cond.methodLink RJx4a65c 66 yJ7_copyOf_1904c, Cond.static yJ7_copyOf_1904c, Cond.initialized RJ7, Cond.code yJ7_copyOf_1904c cJ7_copyOf_1904c 2 (some (.array (.object "java/lang/Object"))), Cond.methodLink RJ7 86 ⟨"java/lang/Object", "getClass", "()Ljava/lang/Class;"⟩, Cond.selects "[Ljava/lang/Object;" ⟨"java/lang/Object", "getClass", "()Ljava/lang/Class;"⟩ ⟨"java/lang/Object", "getClass", "()Ljava/lang/Class;"⟩, Cond.instanceMethod ⟨"java/lang/Object", "getClass", "()Ljava/lang/Class;"⟩, Cond.native ⟨"java/lang/Object", "getClass", "()Ljava/lang/Class;"⟩, Cond.methodLink RJ7 300 yJ7_copyOf_6403c, Cond.static yJ7_copyOf_6403c, Cond.code yJ7_copyOf_6403c cJ7_copyOf_6403c 4 (some (.array (.object "java/lang/Object"))), Cond.classLink RJ7 110 "[Ljava/lang/Object;", Cond.classLink RJ7 2 "java/lang/Object", Cond.methodLink RJ7 304 Lib.Math.min.name, Cond.static Lib.Math.min.name, Cond.code Lib.Math.min.name Lib.Math.min.code 2 (some .int), Cond.methodLink RJ7 150 arraycopyName, Cond.native arraycopyName, Cond.static arraycopyName, Cond.initialized "java/lang/System", Cond.methodLink RX5 250 yJx4a65c_add_9ea2d, Cond.methodLink RX5 202 yJx4a65c_size_8abf5, Cond.methodLink RX5 115 yJx4a65c_remove_915e3]
def wsL_law_r9 : List Cond := [Cond.instanceMethod yJx4a65c_remove_915e3, Cond.selects RJx4a65c yJx4a65c_remove_915e3 yJx4a65c_remove_915e3, Cond.code yJx4a65c_remove_915e3 cJx4a65c_remove_915e3 4 (some (.object "java/lang/Object")), Cond.methodLink RJx4a65c 144 yJx4a65c_fastRemove_b59b0, Cond.instanceMethod yJx4a65c_fastRemove_b59b0, Cond.selects RJx4a65c yJx4a65c_fastRemove_b59b0 yJx4a65c_fastRemove_b59b0, Cond.code yJx4a65c_fastRemove_b59b0 cJx4a65c_fastRemove_b59b0 4 none, Cond.methodLink RJx4a65c 112 arraycopyName, Cond.methodLink RL 17 yX6_rows, Cond.instanceMethod yX6_rows, Cond.selects RX6 yX6_rows yX6_rows, Cond.code yX6_rows cX6_rows 4 (some .int), Cond.methodLink RX6 113 yX6_isTable, Cond.static yX6_isTable, Cond.code yX6_isTable cX6_isTable 1 (some .boolean), Cond.methodLink RX6 63 yX6_in, Cond.static yX6_in, Cond.code yX6_in cX6_in 3 (some .boolean), Cond.methodLink RX6 116 yX6_changes, Cond.instanceMethod yX6_changes, Cond.selects RX6 yX6_changes yX6_changes, Cond.code yX6_changes cX6_changes 2 none, Cond.fieldLink RX6 55 "DriftPlansModel" "runs" "Z", Cond.fieldLink RX6 59 "DriftPlansModel" "pasts" "I"]
def wsL_law_r10 : List Cond := [Cond.methodLink RL 18 yX5_part, Cond.instanceMethod yX5_part, Cond.selects RX5 yX5_part yX5_part, Cond.code yX5_part cX5_part 4 (some .int), Cond.fieldLink RX5 62 "DriftPlans$State" "parts" "[[I", Cond.methodLink RX5 58 yX5_isJoin, Cond.static yX5_isJoin, Cond.code yX5_isJoin cX5_isJoin 2 (some .boolean), Cond.methodLink RX5 66 yX5_bit, Cond.static yX5_bit, Cond.code yX5_bit cX5_bit 1 (some .int), Cond.methodLink RX5 70 yX4_throwOutJoins, Cond.instanceMethod yX4_throwOutJoins, Cond.selects RX4 yX4_throwOutJoins yX4_throwOutJoins, Cond.code yX4_throwOutJoins cX4_throwOutJoins 5 (some .int), Cond.fieldLink RX4 83 "DriftPlans$Kept" "pinned" "Z", Cond.fieldLink RX4 76 "DriftPlans$Kept" "shape" "I", Cond.static yX5_hasAll, Cond.code yX5_hasAll cX5_hasAll 2 (some .boolean), Cond.methodLink RX4 101 yJx4a65c_remove_915e3, Cond.methodLink RL 22 yX6_part, Cond.instanceMethod yX6_part, Cond.selects RX6 yX6_part yX6_part, Cond.code yX6_part cX6_part 7 (some .int)]
def wsL_law_r11 : List Cond := [Cond.methodLink RX6 97 yX6_isLoose, Cond.instanceMethod yX6_isLoose, Cond.selects RX6 yX6_isLoose yX6_isLoose, Cond.code yX6_isLoose cX6_isLoose 2 (some .boolean), Cond.methodLink RX6 90 yX6_at, Cond.static yX6_at, Cond.code yX6_at cX6_at 1 (some .int), Cond.methodLink RX6 105 yX6_empties, Cond.instanceMethod yX6_empties, Cond.selects RX6 yX6_empties yX6_empties, Cond.code yX6_empties cX6_empties 3 none, Cond.methodLink RL 23 yX5_count, Cond.instanceMethod yX5_count, Cond.selects RX5 yX5_count yX5_count, Cond.code yX5_count cX5_count 2 (some .int), Cond.methodLink RX5 73 yX4_countTables, Cond.instanceMethod yX4_countTables, Cond.selects RX4 yX4_countTables yX4_countTables, Cond.code yX4_countTables cX4_countTables 3 (some .int), Cond.static yX5_has, Cond.code yX5_has cX5_has 2 (some .boolean), Cond.methodLink RX4 116 yX4_throwOutDrifted, Cond.instanceMethod yX4_throwOutDrifted, Cond.selects RX4 yX4_throwOutDrifted yX4_throwOutDrifted]
def wsL_law_r12 : List Cond := [Cond.code yX4_throwOutDrifted cX4_throwOutDrifted 4 (some .int), Cond.methodLink RX4 119 yX4_driftsOnceCounted, Cond.instanceMethod yX4_driftsOnceCounted, Cond.selects RX4 yX4_driftsOnceCounted yX4_driftsOnceCounted, Cond.code yX4_driftsOnceCounted cX4_driftsOnceCounted 6 (some .boolean), Cond.fieldLink RX4 90 "DriftPlans$Kept" "guesses" "[I", Cond.methodLink RX4 123 Lib.Math.max.name, Cond.methodLink RX4 129 Lib.Math.min.name, Cond.methodLink RL 27 yX6_count, Cond.instanceMethod yX6_count, Cond.selects RX6 yX6_count yX6_count, Cond.code yX6_count cX6_count 2 (some .int), Cond.methodLink RX6 119 yX6_counts, Cond.instanceMethod yX6_counts, Cond.selects RX6 yX6_counts yX6_counts, Cond.code yX6_counts cX6_counts 2 (some .int), Cond.methodLink RX6 109 yX6_throwsOut, Cond.instanceMethod yX6_throwsOut, Cond.selects RX6 yX6_throwsOut yX6_throwsOut, Cond.code yX6_throwsOut cX6_throwsOut 3 (some .int), Cond.methodLink RX6 101 yX6_hasDrifted, Cond.instanceMethod yX6_hasDrifted, Cond.selects RX6 yX6_hasDrifted yX6_hasDrifted, Cond.code yX6_hasDrifted cX6_hasDrifted 9 (some .boolean)]
def wsL_law_r13 : List Cond := [Cond.methodLink RL 28 yX5_run, Cond.instanceMethod yX5_run, Cond.selects RX5 yX5_run yX5_run, Cond.code yX5_run cX5_run 2 (some .int), Cond.methodLink RX5 76 yX5_isSet, Cond.static yX5_isSet, Cond.code yX5_isSet cX5_isSet 1 (some .boolean), Cond.methodLink RX5 79 yX5_runQuery, Cond.instanceMethod yX5_runQuery, Cond.selects RX5 yX5_runQuery yX5_runQuery, Cond.code yX5_runQuery cX5_runQuery 8 (some .long), Cond.fieldLink RX5 90 "DriftPlans$State" "kept" "Ljava/util/ArrayList;", Cond.classLink RX5 97 "DriftPlans$Kept", Cond.fieldLink RX5 188 "DriftPlans$Kept" "order" "I", Cond.fieldLink RX5 214 "DriftPlans$State" "runCosts" "J", Cond.methodLink RX5 87 yX4_placeOf, Cond.instanceMethod yX4_placeOf, Cond.selects RX4 yX4_placeOf yX4_placeOf, Cond.code yX4_placeOf cX4_placeOf 3 (some .int), Cond.methodLink RX5 93 yJx4a65c_get_915e3, Cond.methodLink RX5 258 yX4_useAgain, Cond.instanceMethod yX4_useAgain, Cond.selects RX4 yX4_useAgain yX4_useAgain, Cond.code yX4_useAgain cX4_useAgain 3 none]
def wsL_law_r14 : List Cond := [Cond.classLink RX4 42 RX0, Cond.instantiable RX0 5, Cond.initialized RX0, Cond.fieldLink RX4 87 "DriftPlans$Kept" "order" "I", Cond.fieldLink RX4 91 "DriftPlans$Kept" "runs" "J", Cond.methodLink RX4 94 yX0_init, Cond.instanceMethod yX0_init, Cond.code yX0_init cX0_init 7 none, Cond.methodLink RX0 1 objectInit, Cond.fieldLink RX0 7 "DriftPlans$Kept" "shape" "I", Cond.fieldLink RX0 13 "DriftPlans$Kept" "order" "I", Cond.fieldLink RX0 16 "DriftPlans$Kept" "guesses" "[I", Cond.fieldLink RX0 20 "DriftPlans$Kept" "runs" "J", Cond.fieldLink RX0 24 "DriftPlans$Kept" "pinned" "Z", Cond.methodLink RX5 163 yX5_reckoned, Cond.instanceMethod yX5_reckoned, Cond.selects RX5 yX5_reckoned yX5_reckoned, Cond.code yX5_reckoned cX5_reckoned 2 (some (.object "DriftPlans$Reckoner")), Cond.fieldLink RX5 153 "DriftPlans$State" "guesses" "[I", Cond.methodLink RX5 254 yX3_reckon, Cond.instanceMethod yX3_reckon, Cond.selects RX3 yX3_reckon yX3_reckon, Cond.code yX3_reckon cX3_reckon 8 none, Cond.constantLong RX3 30 (100)]
def wsL_law_r15 : List Cond := [Cond.methodLink RX3 32 yX3_planSet, Cond.instanceMethod yX3_planSet, Cond.selects RX3 yX3_planSet yX3_planSet, Cond.code yX3_planSet cX3_planSet 10 none, Cond.constantLong RX3 38 (9223372036854775807), Cond.methodLink RX3 48 Lib.MathLoose.max_long.x, Cond.static Lib.MathLoose.max_long.x, Cond.code Lib.MathLoose.max_long.x Lib.MathLoose.max_long.code 4 (some .long), Cond.static yX5_longerOrder, Cond.code yX5_longerOrder cX5_longerOrder 2 (some .int), Cond.methodLink RX5 181 yX3_bestOrder, Cond.instanceMethod yX3_bestOrder, Cond.selects RX3 yX3_bestOrder yX3_bestOrder, Cond.code yX3_bestOrder cX3_bestOrder 2 (some .int), Cond.methodLink RX5 235 yX5_makingCost, Cond.static yX5_makingCost, Cond.code yX5_makingCost cX5_makingCost 1 (some .long), Cond.constantLong RX5 285 (10), Cond.methodLink RX5 176 yJ6_bitCount_0f7a4, Cond.static yJ6_bitCount_0f7a4, Cond.initialized RJ6, Cond.code yJ6_bitCount_0f7a4 cJ6_bitCount_0f7a4 1 (some .int), Cond.constant RJ6 265 (1431655765), Cond.constant RJ6 266 (858993459)]
def wsL_law_r16 : List Cond := [Cond.constant RJ6 267 (252645135), Cond.methodLink RX5 262 yX4_keepNew, Cond.instanceMethod yX4_keepNew, Cond.selects RX4 yX4_keepNew yX4_keepNew, Cond.code yX4_keepNew cX4_keepNew 5 none, Cond.methodLink RX4 108 ⟨"[I", "clone", "()Ljava/lang/Object;"⟩, Cond.sameMethod "[I" "java/lang/Object" "clone" "()Ljava/lang/Object;", Cond.native ⟨"java/lang/Object", "clone", "()Ljava/lang/Object;"⟩, Cond.instanceMethod ⟨"java/lang/Object", "clone", "()Ljava/lang/Object;"⟩, Cond.selects "[I" ⟨"[I", "clone", "()Ljava/lang/Object;"⟩ ⟨"java/lang/Object", "clone", "()Ljava/lang/Object;"⟩, Cond.classLink RX4 109 "[I", Cond.methodLink RX4 104 yX4_pushOneOut, Cond.instanceMethod yX4_pushOneOut, Cond.selects RX4 yX4_pushOneOut yX4_pushOneOut, Cond.code yX4_pushOneOut cX4_pushOneOut 2 (some .boolean), Cond.methodLink RX5 191 yX3_costOf, Cond.instanceMethod yX3_costOf, Cond.selects RX3 yX3_costOf yX3_costOf, Cond.code yX3_costOf cX3_costOf 8 (some .long), Cond.methodLink RX3 65 yJ6_bitCount_0f7a4, Cond.static yX5_tableAt, Cond.code yX5_tableAt cX5_tableAt 3 (some .int), Cond.methodLink RX3 58 yX3_sizeOf, Cond.instanceMethod yX3_sizeOf]
def wsL_law_r17 : List Cond := [Cond.selects RX3 yX3_sizeOf yX3_sizeOf, Cond.code yX3_sizeOf cX3_sizeOf 2 (some .long), Cond.methodLink RX5 83 yX5_told, Cond.static yX5_told, Cond.code yX5_told cX5_told 2 (some .int), Cond.constantLong RX5 279 (1000000000), Cond.methodLink RX5 281 Lib.MathLoose.min_long.x, Cond.static Lib.MathLoose.min_long.x, Cond.code Lib.MathLoose.min_long.x Lib.MathLoose.min_long.code 4 (some .long), Cond.methodLink RL 31 yX6_run, Cond.instanceMethod yX6_run, Cond.selects RX6 yX6_run yX6_run, Cond.code yX6_run cX6_run 2 (some .int), Cond.methodLink RX6 142 yX6_isSet, Cond.static yX6_isSet, Cond.code yX6_isSet cX6_isSet 1 (some .boolean), Cond.methodLink RX6 145 yX6_runsOf, Cond.instanceMethod yX6_runsOf, Cond.selects RX6 yX6_runsOf yX6_runsOf, Cond.code yX6_runsOf cX6_runsOf 8 (some .long), Cond.constantLong RX6 134 (10), Cond.methodLink RX6 122 yX6_slotOf, Cond.instanceMethod yX6_slotOf, Cond.selects RX6 yX6_slotOf yX6_slotOf]
def wsL_law_r18 : List Cond := [Cond.code yX6_slotOf cX6_slotOf 3 (some .int), Cond.methodLink RX6 94 yX6_tablesIn, Cond.static yX6_tablesIn, Cond.code yX6_tablesIn cX6_tablesIn 3 (some .int), Cond.methodLink RX6 136 yX6_makes, Cond.instanceMethod yX6_makes, Cond.selects RX6 yX6_makes yX6_makes, Cond.code yX6_makes cX6_makes 8 (some .long), Cond.fieldLink RX6 69 "DriftPlansModel" "many" "I", Cond.methodLink RX6 125 yX6_finds, Cond.instanceMethod yX6_finds, Cond.selects RX6 yX6_finds yX6_finds, Cond.code yX6_finds cX6_finds 9 (some .long), Cond.constantLong RX6 80 (-1), Cond.methodLink RX6 82 yX6_costOf, Cond.instanceMethod yX6_costOf, Cond.selects RX6 yX6_costOf yX6_costOf, Cond.code yX6_costOf cX6_costOf 6 (some .long), Cond.methodLink RX6 72 yX6_sizeOf, Cond.instanceMethod yX6_sizeOf, Cond.selects RX6 yX6_sizeOf yX6_sizeOf, Cond.code yX6_sizeOf cX6_sizeOf 7 (some .long), Cond.constantLong RX6 67 (100), Cond.methodLink RX6 86 yX6_hasNext]
def wsL_law_r19 : List Cond := [Cond.instanceMethod yX6_hasNext, Cond.selects RX6 yX6_hasNext yX6_hasNext, Cond.code yX6_hasNext cX6_hasNext 5 (some .boolean), Cond.methodLink RX6 76 yX6_swaps, Cond.instanceMethod yX6_swaps, Cond.selects RX6 yX6_swaps yX6_swaps, Cond.code yX6_swaps cX6_swaps 4 none, Cond.methodLink RX6 128 yX6_slotFor, Cond.instanceMethod yX6_slotFor, Cond.selects RX6 yX6_slotFor yX6_slotFor, Cond.code yX6_slotFor cX6_slotFor 4 (some .int), Cond.methodLink RX6 139 yX6_uses, Cond.instanceMethod yX6_uses, Cond.selects RX6 yX6_uses yX6_uses, Cond.code yX6_uses cX6_uses 2 (some .long), Cond.methodLink RX6 131 yX6_costAt, Cond.instanceMethod yX6_costAt, Cond.selects RX6 yX6_costAt yX6_costAt, Cond.code yX6_costAt cX6_costAt 4 (some .long), Cond.methodLink RX6 148 yX6_cut, Cond.static yX6_cut, Cond.code yX6_cut cX6_cut 2 (some .int), Cond.constantLong RX6 53 (1000000000), Cond.methodLink RL 32 yX5_pin]
def wsL_law_r20 : List Cond := [Cond.instanceMethod yX5_pin, Cond.selects RX5 yX5_pin yX5_pin, Cond.code yX5_pin cX5_pin 4 (some .int), Cond.fieldLink RX5 99 "DriftPlans$Kept" "pinned" "Z", Cond.methodLink RX5 103 yX4_setPinned, Cond.instanceMethod yX4_setPinned, Cond.selects RX4 yX4_setPinned yX4_setPinned, Cond.code yX4_setPinned cX4_setPinned 4 none, Cond.methodLink RX4 97 yJx4a65c_set_bcc79, Cond.instanceMethod yJx4a65c_set_bcc79, Cond.selects RJx4a65c yJx4a65c_set_bcc79 yJx4a65c_set_bcc79, Cond.code yJx4a65c_set_bcc79 cJx4a65c_set_bcc79 4 (some (.object "java/lang/Object")), Cond.methodLink RX5 107 yX4_throwOutDrifted, Cond.methodLink RL 35 yX6_pin, Cond.instanceMethod yX6_pin, Cond.selects RX6 yX6_pin yX6_pin, Cond.code yX6_pin cX6_pin 4 (some .int), Cond.methodLink RL 36 yX5_forget, Cond.instanceMethod yX5_forget, Cond.selects RX5 yX5_forget yX5_forget, Cond.code yX5_forget cX5_forget 3 (some .int), Cond.fieldLink RX5 111 "DriftPlans$State" "forgotten" "J", Cond.fieldLink RX5 118 "DriftPlans$Kept" "runs" "J", Cond.methodLink RL 39 yX6_forget]
def wsL_law_r21 : List Cond := [Cond.instanceMethod yX6_forget, Cond.selects RX6 yX6_forget yX6_forget, Cond.code yX6_forget cX6_forget 4 (some .int), Cond.methodLink RL 40 yX5_drift, Cond.instanceMethod yX5_drift, Cond.selects RX5 yX5_drift yX5_drift, Cond.code yX5_drift cX5_drift 2 (some .int), Cond.fieldLink RX5 121 "DriftPlans$State" "driftLimit" "I", Cond.methodLink RL 43 yX6_drift, Cond.instanceMethod yX6_drift, Cond.selects RX6 yX6_drift yX6_drift, Cond.code yX6_drift cX6_drift 2 (some .int), Cond.methodLink RL 44 yX5_append, Cond.instanceMethod yX5_append, Cond.selects RX5 yX5_append yX5_append, Cond.code yX5_append cX5_append 2 (some .int), Cond.fieldLink RX5 128 "DriftPlans$Pad" "length" "I", Cond.methodLink RX5 124 yX1_put, Cond.instanceMethod yX1_put, Cond.selects RX1 yX1_put yX1_put, Cond.code yX1_put cX1_put 2 (some .boolean), Cond.methodLink RL 47 yX6_append, Cond.instanceMethod yX6_append, Cond.selects RX6 yX6_append yX6_append]
def wsL_law_r22 : List Cond := [Cond.code yX6_append cX6_append 2 (some .int), Cond.fieldLink RX6 152 "DriftPlansModel" "typed" "I", Cond.methodLink RL 48 yX5_clear, Cond.instanceMethod yX5_clear, Cond.selects RX5 yX5_clear yX5_clear, Cond.code yX5_clear cX5_clear 2 (some .int), Cond.methodLink RL 52 yX6_clear, Cond.instanceMethod yX6_clear, Cond.selects RX6 yX6_clear yX6_clear, Cond.code yX6_clear cX6_clear 2 (some .int), Cond.methodLink RL 53 yX5_fault, Cond.instanceMethod yX5_fault, Cond.selects RX5 yX5_fault yX5_fault, Cond.code yX5_fault cX5_fault 2 (some .int), Cond.classLink RX5 131 RX2, Cond.instantiable RX2 7, Cond.initialized RX2, Cond.methodLink RX5 133 yX2_init, Cond.instanceMethod yX2_init, Cond.code yX2_init cX2_init 2 none, Cond.methodLink RX2 3 objectInit, Cond.fieldLink RX2 9 "DriftPlans$Reader" "next" "I", Cond.fieldLink RX2 15 "DriftPlans$Reader" "start" "I", Cond.fieldLink RX2 18 "DriftPlans$Reader" "letter" "C"]
def wsL_law_r23 : List Cond := [Cond.fieldLink RX2 22 "DriftPlans$Reader" "tables" "I", Cond.fieldLink RX2 25 "DriftPlans$Reader" "table" "I", Cond.fieldLink RX2 28 "DriftPlans$Reader" "number" "I", Cond.fieldLink RX2 31 "DriftPlans$Reader" "pad" "LDriftPlans$Pad;", Cond.methodLink RX5 136 yX2_findFault, Cond.instanceMethod yX2_findFault, Cond.selects RX2 yX2_findFault yX2_findFault, Cond.code yX2_findFault cX2_findFault 2 (some .int), Cond.fieldLink RX2 39 "DriftPlans$Pad" "length" "I", Cond.methodLink RX2 35 yX2_readDeed, Cond.instanceMethod yX2_readDeed, Cond.selects RX2 yX2_readDeed yX2_readDeed, Cond.code yX2_readDeed cX2_readDeed 1 (some .boolean), Cond.methodLink RX2 48 yX1_signAt, Cond.instanceMethod yX1_signAt, Cond.selects RX1 yX1_signAt yX1_signAt, Cond.code yX1_signAt cX1_signAt 2 (some .char), Cond.methodLink RX2 52 yX2_readTables, Cond.instanceMethod yX2_readTables, Cond.selects RX2 yX2_readTables yX2_readTables, Cond.code yX2_readTables cX2_readTables 3 (some .boolean), Cond.methodLink RX2 61 yX2_digit, Cond.instanceMethod yX2_digit, Cond.selects RX2 yX2_digit yX2_digit]
def wsL_law_r24 : List Cond := [Cond.code yX2_digit cX2_digit 1 (some .int), Cond.methodLink RX2 55 yX2_readTable, Cond.instanceMethod yX2_readTable, Cond.selects RX2 yX2_readTable yX2_readTable, Cond.code yX2_readTable cX2_readTable 1 (some .boolean), Cond.methodLink RX2 44 yX2_readSign, Cond.instanceMethod yX2_readSign, Cond.selects RX2 yX2_readSign yX2_readSign, Cond.code yX2_readSign cX2_readSign 2 (some .boolean), Cond.methodLink RX2 58 yX2_readNumber, Cond.instanceMethod yX2_readNumber, Cond.selects RX2 yX2_readNumber yX2_readNumber, Cond.code yX2_readNumber cX2_readNumber 3 (some .boolean), Cond.methodLink RL 56 yX6_fault, Cond.instanceMethod yX6_fault, Cond.selects RX6 yX6_fault yX6_fault, Cond.code yX6_fault cX6_fault 2 (some .int), Cond.fieldLink RX6 155 "DriftPlansModel" "spot" "I", Cond.fieldLink RX6 161 "DriftPlansModel" "deeds" "I", Cond.methodLink RX6 176 yX6_reads, Cond.instanceMethod yX6_reads, Cond.selects RX6 yX6_reads yX6_reads, Cond.code yX6_reads cX6_reads 2 (some .boolean), Cond.methodLink RX6 164 yX6_digits]
def wsL_law_r25 : List Cond := [Cond.instanceMethod yX6_digits, Cond.selects RX6 yX6_digits yX6_digits, Cond.code yX6_digits cX6_digits 3 (some .boolean), Cond.methodLink RX6 158 yX6_isAt, Cond.instanceMethod yX6_isAt, Cond.selects RX6 yX6_isAt yX6_isAt, Cond.code yX6_isAt cX6_isAt 3 (some .boolean), Cond.methodLink RX6 167 yX6_oneTable, Cond.instanceMethod yX6_oneTable, Cond.selects RX6 yX6_oneTable yX6_oneTable, Cond.code yX6_oneTable cX6_oneTable 2 (some .boolean), Cond.methodLink RX6 170 yX6_sign, Cond.instanceMethod yX6_sign, Cond.selects RX6 yX6_sign yX6_sign, Cond.code yX6_sign cX6_sign 3 (some .boolean), Cond.methodLink RX6 173 yX6_number, Cond.instanceMethod yX6_number, Cond.selects RX6 yX6_number yX6_number, Cond.code yX6_number cX6_number 2 (some .boolean), Cond.methodLink RL 57 yX5_carryOut, Cond.instanceMethod yX5_carryOut, Cond.selects RX5 yX5_carryOut yX5_carryOut, Cond.code yX5_carryOut cX5_carryOut 3 (some .int), Cond.fieldLink RX5 150 "DriftPlans$Reader" "start" "I"]
def wsL_law_r26 : List Cond := [Cond.methodLink RX5 139 yX2_readDeed, Cond.methodLink RX5 143 yX5_carryOutDeed, Cond.instanceMethod yX5_carryOutDeed, Cond.selects RX5 yX5_carryOutDeed yX5_carryOutDeed, Cond.code yX5_carryOutDeed cX5_carryOutDeed 3 (some .boolean), Cond.fieldLink RX5 266 "DriftPlans$Reader" "letter" "C", Cond.fieldLink RX5 270 "DriftPlans$Reader" "tables" "I", Cond.fieldLink RX5 273 "DriftPlans$Reader" "table" "I", Cond.fieldLink RX5 276 "DriftPlans$Reader" "number" "I", Cond.methodLink RX5 147 yX2_readSign, Cond.methodLink RL 60 yX6_carryOut, Cond.instanceMethod yX6_carryOut, Cond.selects RX6 yX6_carryOut yX6_carryOut, Cond.code yX6_carryOut cX6_carryOut 2 (some .int), Cond.fieldLink RX6 195 "DriftPlansModel" "isStopped" "Z", Cond.methodLink RX6 192 yX6_fault, Cond.methodLink RX6 198 yX6_does, Cond.instanceMethod yX6_does, Cond.selects RX6 yX6_does yX6_does, Cond.code yX6_does cX6_does 3 (some .int), Cond.methodLink RX6 179 yX6_run, Cond.methodLink RX6 182 yX6_pins, Cond.instanceMethod yX6_pins, Cond.selects RX6 yX6_pins yX6_pins]
def wsL_law_r27 : List Cond := [Cond.code yX6_pins cX6_pins 3 (some .int), Cond.methodLink RX6 185 yX6_count, Cond.methodLink RX6 188 yX6_rows, Cond.methodLink RL 61 yX5_why, Cond.instanceMethod yX5_why, Cond.selects RX5 yX5_why yX5_why, Cond.code yX5_why cX5_why 2 (some .int), Cond.methodLink RL 64 yX6_why, Cond.instanceMethod yX6_why, Cond.selects RX6 yX6_why yX6_why, Cond.code yX6_why cX6_why 2 (some .int), Cond.methodLink RL 65 yX5_table, Cond.instanceMethod yX5_table, Cond.selects RX5 yX5_table yX5_table, Cond.code yX5_table cX5_table 3 (some .int), Cond.methodLink RX5 156 yX5_driftDown, Cond.static yX5_driftDown, Cond.code yX5_driftDown cX5_driftDown 3 (some .int), Cond.methodLink RX5 287 Lib.Math.min.name, Cond.methodLink RX5 242 Lib.Math.max.name, Cond.methodLink RX5 160 yX4_keptWith, Cond.instanceMethod yX4_keptWith, Cond.selects RX4 yX4_keptWith yX4_keptWith, Cond.code yX4_keptWith cX4_keptWith 4 (some .int)]
def wsL_law_r28 : List Cond := [Cond.methodLink RL 68 yX6_table, Cond.instanceMethod yX6_table, Cond.selects RX6 yX6_table yX6_table, Cond.code yX6_table cX6_table 5 (some .int), Cond.methodLink RX6 201 yX6_plansWith, Cond.instanceMethod yX6_plansWith, Cond.selects RX6 yX6_plansWith yX6_plansWith, Cond.code yX6_plansWith cX6_plansWith 4 (some .int), Cond.methodLink RL 69 yX5_partOf, Cond.instanceMethod yX5_partOf, Cond.selects RX5 yX5_partOf yX5_partOf, Cond.code yX5_partOf cX5_partOf 3 (some .int), Cond.methodLink RL 72 yX6_partOf, Cond.instanceMethod yX6_partOf, Cond.selects RX6 yX6_partOf yX6_partOf, Cond.code yX6_partOf cX6_partOf 3 (some .int), Cond.methodLink RL 73 yX5_size, Cond.instanceMethod yX5_size, Cond.selects RX5 yX5_size yX5_size, Cond.code yX5_size cX5_size 3 (some .int), Cond.methodLink RX5 167 yX3_sizeOf, Cond.methodLink RL 77 yX6_size, Cond.instanceMethod yX6_size, Cond.selects RX6 yX6_size yX6_size]
def wsL_law_r29 : List Cond := [Cond.code yX6_size cX6_size 3 (some .int), Cond.methodLink RX6 204 yX6_base, Cond.static yX6_base, Cond.code yX6_base cX6_base 1 (some .int), Cond.methodLink RL 78 yX5_least, Cond.instanceMethod yX5_least, Cond.selects RX5 yX5_least yX5_least, Cond.code yX5_least cX5_least 5 (some .int), Cond.methodLink RX5 170 yX3_leastByOrders, Cond.instanceMethod yX3_leastByOrders, Cond.selects RX3 yX3_leastByOrders yX3_leastByOrders, Cond.code yX3_leastByOrders cX3_leastByOrders 2 (some .long), Cond.methodLink RX3 54 yX3_leastOnward, Cond.static yX3_leastOnward, Cond.code yX3_leastOnward cX3_leastOnward 10 (some .long), Cond.methodLink RX3 62 Lib.MathLoose.min_long.x, Cond.methodLink RX5 173 yX3_leastBySets, Cond.instanceMethod yX3_leastBySets, Cond.selects RX3 yX3_leastBySets yX3_leastBySets, Cond.code yX3_leastBySets cX3_leastBySets 2 (some .long), Cond.methodLink RL 82 yX6_least, Cond.instanceMethod yX6_least, Cond.selects RX6 yX6_least yX6_least, Cond.code yX6_least cX6_least 4 (some .int)]
def wsL_law_r30 : List Cond := [Cond.methodLink RX6 208 yX6_findsBySets, Cond.instanceMethod yX6_findsBySets, Cond.selects RX6 yX6_findsBySets yX6_findsBySets, Cond.code yX6_findsBySets cX6_findsBySets 9 (some .long), Cond.methodLink RL 83 yX5_best, Cond.instanceMethod yX5_best, Cond.selects RX5 yX5_best yX5_best, Cond.code yX5_best cX5_best 5 (some .int), Cond.methodLink RX5 184 yX5_tableAt, Cond.methodLink RL 86 yX6_best, Cond.instanceMethod yX6_best, Cond.selects RX6 yX6_best yX6_best, Cond.code yX6_best cX6_best 4 (some .int), Cond.methodLink RL 87 yX5_plan, Cond.instanceMethod yX5_plan, Cond.selects RX5 yX5_plan yX5_plan, Cond.code yX5_plan cX5_plan 6 (some .int), Cond.methodLink RX5 195 yX3_excessOf, Cond.instanceMethod yX3_excessOf, Cond.selects RX3 yX3_excessOf yX3_excessOf, Cond.code yX3_excessOf cX3_excessOf 3 (some .long), Cond.methodLink RX3 74 yX3_costOf, Cond.methodLink RX3 78 yX3_leastBySets, Cond.methodLink RX5 198 yX4_driftsOnceCounted]
def wsL_law_r31 : List Cond := [Cond.methodLink RL 90 yX6_plan, Cond.instanceMethod yX6_plan, Cond.selects RX6 yX6_plan yX6_plan, Cond.code yX6_plan cX6_plan 4 (some .int), Cond.methodLink RX6 211 yX6_over, Cond.instanceMethod yX6_over, Cond.selects RX6 yX6_over yX6_over, Cond.code yX6_over cX6_over 4 (some .long), Cond.methodLink RX6 214 yX6_orderOf, Cond.instanceMethod yX6_orderOf, Cond.selects RX6 yX6_orderOf yX6_orderOf, Cond.code yX6_orderOf cX6_orderOf 4 (some .int), Cond.methodLink RL 91 yX5_counted, Cond.instanceMethod yX5_counted, Cond.selects RX5 yX5_counted yX5_counted, Cond.code yX5_counted cX5_counted 2 (some .int), Cond.fieldLink RX5 208 "DriftPlans$State" "hits" "J", Cond.fieldLink RX5 211 "DriftPlans$State" "misses" "J", Cond.fieldLink RX5 217 "DriftPlans$State" "makingCosts" "J", Cond.fieldLink RX5 220 "DriftPlans$State" "driftedOut" "J", Cond.fieldLink RX5 223 "DriftPlans$State" "pushedOut" "J", Cond.fieldLink RX5 226 "DriftPlans$State" "joinedOut" "J", Cond.fieldLink RX5 229 "DriftPlans$State" "usedOnly" "J", Cond.methodLink RX5 205 yX4_countPinned]
def wsL_law_r32 : List Cond := [Cond.instanceMethod yX4_countPinned, Cond.selects RX4 yX4_countPinned yX4_countPinned, Cond.code yX4_countPinned cX4_countPinned 3 (some .int), Cond.methodLink RL 94 yX6_counted, Cond.instanceMethod yX6_counted, Cond.selects RX6 yX6_counted yX6_counted, Cond.code yX6_counted cX6_counted 2 (some .int), Cond.methodLink RX6 217 yX6_plans, Cond.instanceMethod yX6_plans, Cond.selects RX6 yX6_plans yX6_plans, Cond.code yX6_plans cX6_plans 3 (some .int), Cond.methodLink RX6 220 yX6_pinned, Cond.instanceMethod yX6_pinned, Cond.selects RX6 yX6_pinned yX6_pinned, Cond.code yX6_pinned cX6_pinned 3 (some .int), Cond.methodLink RL 95 yX5_fitness, Cond.instanceMethod yX5_fitness, Cond.selects RX5 yX5_fitness yX5_fitness, Cond.code yX5_fitness cX5_fitness 8 (some .double), Cond.fieldLink RX5 232 "DriftPlans$Kept" "shape" "I", Cond.methodLink RL 99 yX6_fitness, Cond.instanceMethod yX6_fitness, Cond.selects RX6 yX6_fitness yX6_fitness, Cond.code yX6_fitness cX6_fitness 9 (some .double)]
def wsL_law_r33 : List Cond := [Cond.methodLink RL 100 yX5_ifCounted, Cond.instanceMethod yX5_ifCounted, Cond.selects RX5 yX5_ifCounted yX5_ifCounted, Cond.code yX5_ifCounted cX5_ifCounted 8 (some .int), Cond.methodLink RL 103 yX6_ifCounted, Cond.instanceMethod yX6_ifCounted, Cond.selects RX6 yX6_ifCounted yX6_ifCounted, Cond.code yX6_ifCounted cX6_ifCounted 5 (some .int), Cond.methodLink RX6 223 yX6_putsAside, Cond.instanceMethod yX6_putsAside, Cond.selects RX6 yX6_putsAside yX6_putsAside, Cond.code yX6_putsAside cX6_putsAside 2 none, Cond.methodLink RX6 226 yX6_dearer, Cond.instanceMethod yX6_dearer, Cond.selects RX6 yX6_dearer yX6_dearer, Cond.code yX6_dearer cX6_dearer 3 (some .int), Cond.methodLink RX6 229 yX6_putsBack, Cond.instanceMethod yX6_putsBack, Cond.selects RX6 yX6_putsBack yX6_putsBack, Cond.code yX6_putsBack cX6_putsBack 2 none, Cond.methodLink RL 104 yX5_ifRun, Cond.instanceMethod yX5_ifRun, Cond.selects RX5 yX5_ifRun yX5_ifRun, Cond.code yX5_ifRun cX5_ifRun 4 (some .int)]
def wsL_law_r34 : List Cond := [Cond.methodLink RL 107 yX6_ifRun, Cond.instanceMethod yX6_ifRun, Cond.selects RX6 yX6_ifRun yX6_ifRun, Cond.code yX6_ifRun cX6_ifRun 3 (some .int), Cond.methodLink RL 108 yX5_leastDrift, Cond.instanceMethod yX5_leastDrift, Cond.selects RX5 yX5_leastDrift yX5_leastDrift, Cond.code yX5_leastDrift cX5_leastDrift 4 (some .int), Cond.methodLink RX5 238 yX4_driftToBear, Cond.instanceMethod yX4_driftToBear, Cond.selects RX4 yX4_driftToBear yX4_driftToBear, Cond.code yX4_driftToBear cX4_driftToBear 4 (some .int), Cond.static yX5_driftUp, Cond.code yX5_driftUp cX5_driftUp 3 (some .int), Cond.methodLink RL 111 yX6_leastDrift, Cond.instanceMethod yX6_leastDrift, Cond.selects RX6 yX6_leastDrift yX6_leastDrift, Cond.code yX6_leastDrift cX6_leastDrift 4 (some .int), Cond.methodLink RL 112 yX5_undo, Cond.instanceMethod yX5_undo, Cond.selects RX5 yX5_undo yX5_undo, Cond.code yX5_undo cX5_undo 2 (some .int), Cond.classLink RX5 7 "DriftPlans$State", Cond.methodLink RL 115 yX6_undo]
def wsL_law_r35 : List Cond := [Cond.instanceMethod yX6_undo, Cond.selects RX6 yX6_undo yX6_undo, Cond.code yX6_undo cX6_undo 2 (some .int), Cond.methodLink RL 116 yX5_save, Cond.instanceMethod yX5_save, Cond.selects RX5 yX5_save yX5_save, Cond.code yX5_save cX5_save 1 (some .int), Cond.methodLink RL 119 yX6_save, Cond.instanceMethod yX6_save, Cond.selects RX6 yX6_save yX6_save, Cond.code yX6_save cX6_save 2 (some .int), Cond.fieldLink RX6 232 "DriftPlansModel" "isKept" "Z", Cond.methodLink RL 120 yX5_restore, Cond.instanceMethod yX5_restore, Cond.selects RX5 yX5_restore yX5_restore, Cond.code yX5_restore cX5_restore 1 (some .int), Cond.methodLink RL 123 yX6_restore, Cond.instanceMethod yX6_restore, Cond.selects RX6 yX6_restore yX6_restore, Cond.code yX6_restore cX6_restore 2 (some .int)]
def wsL_law : List Cond := (wsL_law_r1 ++ (wsL_law_r2 ++ (wsL_law_r3 ++ (wsL_law_r4 ++ (wsL_law_r5 ++ (wsL_law_r6 ++ (wsL_law_r7 ++ (wsL_law_r8 ++ (wsL_law_r9 ++ (wsL_law_r10 ++ (wsL_law_r11 ++ (wsL_law_r12 ++ (wsL_law_r13 ++ (wsL_law_r14 ++ (wsL_law_r15 ++ (wsL_law_r16 ++ (wsL_law_r17 ++ (wsL_law_r18 ++ (wsL_law_r19 ++ (wsL_law_r20 ++ (wsL_law_r21 ++ (wsL_law_r22 ++ (wsL_law_r23 ++ (wsL_law_r24 ++ (wsL_law_r25 ++ (wsL_law_r26 ++ (wsL_law_r27 ++ (wsL_law_r28 ++ (wsL_law_r29 ++ (wsL_law_r30 ++ (wsL_law_r31 ++ (wsL_law_r32 ++ (wsL_law_r33 ++ (wsL_law_r34 ++ wsL_law_r35)))))))))))))))))))))))))))))))))) ++ wsX50 ++ wsX60 ++ wsX40 ++ wsJx4a65c0 ++ wsX30 ++ wsX10 ++ wsX00 ++ wsX20 ++ ([] : List Cond)
theorem wt_ {w : Cond} (h : w ∈ tables_1) : w ∈ lw_tbl := List.mem_append_right _ h
theorem wp_ {w : Cond} (h : w ∈ k2_sels lw_privs) : w ∈ lw_tbl := List.mem_append_left _ h
theorem wi_1_0 : (Cond.classLink RL 7 RX5) ∈ lw_tbl := wt_ (List.mem_of_getElem? (i := 18) (by decide +kernel))
theorem wi_1_1 : (Cond.instantiable RX5 7) ∈ lw_tbl := wt_ (List.mem_of_getElem? (i := 19) (by decide +kernel))
theorem wi_1_2 : (Cond.initialized RX5) ∈ lw_tbl := wt_ (List.mem_of_getElem? (i := 1) (by decide +kernel))
theorem wi_1_3 : (Cond.classLink RL 10 RX6) ∈ lw_tbl := wt_ (List.mem_of_getElem? (i := 650) (by decide +kernel))
theorem wi_1_4 : (Cond.instantiable RX6 22) ∈ lw_tbl := wt_ (List.mem_of_getElem? (i := 651) (by decide +kernel))
theorem wi_1_5 : (Cond.initialized RX6) ∈ lw_tbl := wt_ (List.mem_of_getElem? (i := 8) (by decide +kernel))
theorem wi_1_6 : (Cond.methodLink RL 9 yX5_init) ∈ lw_tbl := wt_ (List.mem_of_getElem? (i := 20) (by decide +kernel))
theorem wi_1_7 : (Cond.instanceMethod yX5_init) ∈ lw_tbl := wt_ (List.mem_of_getElem? (i := 21) (by decide +kernel))
theorem wi_1_8 : (Cond.code yX5_init cX5_init 1 none) ∈ lw_tbl := wt_ (List.mem_append_left _ (List.mem_of_getElem? (i := 22) rfl : _ ∈ tables_1_1))
theorem wi_1_9 : (Cond.methodLink RX5 1 objectInit) ∈ lw_tbl := wt_ (List.mem_of_getElem? (i := 23) (by decide +kernel))
theorem wi_1_10 : (Cond.instanceMethod objectInit) ∈ lw_tbl := wt_ (List.mem_of_getElem? (i := 24) (by decide +kernel))
theorem wi_1_11 : (Cond.code objectInit ⟨#[0xb1]⟩ 1 none) ∈ lw_tbl := wt_ (List.mem_append_left _ (List.mem_of_getElem? (i := 25) rfl : _ ∈ tables_1_1))
theorem wi_1_12 : (Cond.classLink RX5 7 RX4) ∈ lw_tbl := wt_ (List.mem_of_getElem? (i := 26) (by decide +kernel))
theorem wi_1_13 : (Cond.instantiable RX4 14) ∈ lw_tbl := wt_ (List.mem_of_getElem? (i := 27) (by decide +kernel))
theorem wi_1_14 : (Cond.initialized RX4) ∈ lw_tbl := wt_ (List.mem_of_getElem? (i := 2) (by decide +kernel))
theorem wi_1_15 : (Cond.fieldLink RX5 10 "DriftPlans" "now" "LDriftPlans$State;") ∈ lw_tbl := wt_ (List.mem_of_getElem? (i := 153) (by decide +kernel))
theorem wi_1_16 : (Cond.fieldLink RX5 16 "DriftPlans" "snapshot" "LDriftPlans$State;") ∈ lw_tbl := wt_ (List.mem_of_getElem? (i := 154) (by decide +kernel))
theorem wi_1_17 : (Cond.classLink RX5 19 RJx4a65c) ∈ lw_tbl := wt_ (List.mem_of_getElem? (i := 118) (by decide +kernel))
theorem wi_1_18 : (Cond.instantiable RJx4a65c 3) ∈ lw_tbl := wt_ (List.mem_of_getElem? (i := 35) (by decide +kernel))
theorem wi_1_19 : (Cond.initialized RJx4a65c) ∈ lw_tbl := wt_ (List.mem_of_getElem? (i := 5) (by decide +kernel))
theorem wi_1_20 : (Cond.fieldLink RX5 22 "DriftPlans" "history" "Ljava/util/ArrayList;") ∈ lw_tbl := wt_ (List.mem_of_getElem? (i := 155) (by decide +kernel))
theorem wi_1_21 : (Cond.classLink RX5 26 RX3) ∈ lw_tbl := wt_ (List.mem_of_getElem? (i := 120) (by decide +kernel))
theorem wi_1_22 : (Cond.instantiable RX3 3) ∈ lw_tbl := wt_ (List.mem_of_getElem? (i := 121) (by decide +kernel))
theorem wi_1_23 : (Cond.initialized RX3) ∈ lw_tbl := wt_ (List.mem_of_getElem? (i := 6) (by decide +kernel))
theorem wc_1 : ∀ w ∈ wsL_law_r1, w ∈ lw_tbl := List.forall_mem_cons.mpr ⟨wi_1_0, List.forall_mem_cons.mpr ⟨wi_1_1, List.forall_mem_cons.mpr ⟨wi_1_2, List.forall_mem_cons.mpr ⟨wi_1_3, List.forall_mem_cons.mpr ⟨wi_1_4, List.forall_mem_cons.mpr ⟨wi_1_5, List.forall_mem_cons.mpr ⟨wi_1_6, List.forall_mem_cons.mpr ⟨wi_1_7, List.forall_mem_cons.mpr ⟨wi_1_8, List.forall_mem_cons.mpr ⟨wi_1_9, List.forall_mem_cons.mpr ⟨wi_1_10, List.forall_mem_cons.mpr ⟨wi_1_11, List.forall_mem_cons.mpr ⟨wi_1_12, List.forall_mem_cons.mpr ⟨wi_1_13, List.forall_mem_cons.mpr ⟨wi_1_14, List.forall_mem_cons.mpr ⟨wi_1_15, List.forall_mem_cons.mpr ⟨wi_1_16, List.forall_mem_cons.mpr ⟨wi_1_17, List.forall_mem_cons.mpr ⟨wi_1_18, List.forall_mem_cons.mpr ⟨wi_1_19, List.forall_mem_cons.mpr ⟨wi_1_20, List.forall_mem_cons.mpr ⟨wi_1_21, List.forall_mem_cons.mpr ⟨wi_1_22, List.forall_mem_cons.mpr ⟨wi_1_23, (fun _ h => absurd h List.not_mem_nil)⟩⟩⟩⟩⟩⟩⟩⟩⟩⟩⟩⟩⟩⟩⟩⟩⟩⟩⟩⟩⟩⟩⟩⟩
theorem wi_2_0 : (Cond.fieldLink RX5 29 "DriftPlans" "reckoner" "LDriftPlans$Reckoner;") ∈ lw_tbl := wt_ (List.mem_of_getElem? (i := 156) (by decide +kernel))
theorem wi_2_1 : (Cond.classLink RX5 33 RX1) ∈ lw_tbl := wt_ (List.mem_of_getElem? (i := 137) (by decide +kernel))
theorem wi_2_2 : (Cond.instantiable RX1 2) ∈ lw_tbl := wt_ (List.mem_of_getElem? (i := 138) (by decide +kernel))
theorem wi_2_3 : (Cond.initialized RX1) ∈ lw_tbl := wt_ (List.mem_of_getElem? (i := 7) (by decide +kernel))
theorem wi_2_4 : (Cond.fieldLink RX5 36 "DriftPlans" "pad" "LDriftPlans$Pad;") ∈ lw_tbl := wt_ (List.mem_of_getElem? (i := 157) (by decide +kernel))
theorem wi_2_5 : (Cond.fieldLink RX5 40 "DriftPlans" "stopDeed" "I") ∈ lw_tbl := wt_ (List.mem_of_getElem? (i := 158) (by decide +kernel))
theorem wi_2_6 : (Cond.fieldLink RX5 44 "DriftPlans" "stopPlace" "I") ∈ lw_tbl := wt_ (List.mem_of_getElem? (i := 159) (by decide +kernel))
theorem wi_2_7 : (Cond.methodLink RX5 9 yX4_init) ∈ lw_tbl := wt_ (List.mem_of_getElem? (i := 28) (by decide +kernel))
theorem wi_2_8 : (Cond.instanceMethod yX4_init) ∈ lw_tbl := wt_ (List.mem_of_getElem? (i := 29) (by decide +kernel))
theorem wi_2_9 : (Cond.code yX4_init cX4_init 3 none) ∈ lw_tbl := wt_ (List.mem_append_left _ (List.mem_of_getElem? (i := 30) rfl : _ ∈ tables_1_1))
theorem wi_2_10 : (Cond.methodLink RX4 3 objectInit) ∈ lw_tbl := wt_ (List.mem_of_getElem? (i := 31) (by decide +kernel))
theorem wi_2_11 : (Cond.arrayClass .int) ∈ lw_tbl := wt_ (List.mem_of_getElem? (i := 60) (by decide +kernel))
theorem wi_2_12 : (Cond.fieldLink RX4 9 "DriftPlans$State" "rows" "[I") ∈ lw_tbl := wt_ (List.mem_of_getElem? (i := 61) (by decide +kernel))
theorem wi_2_13 : (Cond.fieldLink RX4 15 "DriftPlans$State" "guesses" "[I") ∈ lw_tbl := wt_ (List.mem_of_getElem? (i := 63) (by decide +kernel))
theorem wi_2_14 : (Cond.classLink RX4 18 "[[I") ∈ lw_tbl := wt_ (List.mem_of_getElem? (i := 32) (by decide +kernel))
theorem wi_2_15 : (Cond.fieldLink RX4 20 "DriftPlans$State" "parts" "[[I") ∈ lw_tbl := wt_ (List.mem_of_getElem? (i := 65) (by decide +kernel))
theorem wi_2_16 : (Cond.classLink RX4 23 RJx4a65c) ∈ lw_tbl := wt_ (List.mem_of_getElem? (i := 34) (by decide +kernel))
theorem wi_2_17 : (Cond.fieldLink RX4 26 "DriftPlans$State" "kept" "Ljava/util/ArrayList;") ∈ lw_tbl := wt_ (List.mem_of_getElem? (i := 67) (by decide +kernel))
theorem wi_2_18 : (Cond.fieldLink RX4 30 "DriftPlans$State" "driftLimit" "I") ∈ lw_tbl := wt_ (List.mem_of_getElem? (i := 69) (by decide +kernel))
theorem wi_2_19 : (Cond.methodLink RX4 25 yJx4a65c_init_da8c8) ∈ lw_tbl := wt_ (List.mem_of_getElem? (i := 36) (by decide +kernel))
theorem wi_2_20 : (Cond.instanceMethod yJx4a65c_init_da8c8) ∈ lw_tbl := wt_ (List.mem_of_getElem? (i := 37) (by decide +kernel))
theorem wi_2_21 : (Cond.code yJx4a65c_init_da8c8 cJx4a65c_init_da8c8 1 none) ∈ lw_tbl := wt_ (List.mem_append_left _ (List.mem_of_getElem? (i := 38) rfl : _ ∈ tables_1_1))
theorem wi_2_22 : (Cond.fieldLink RJx4a65c 39 "java/util/ArrayList" "DEFAULTCAPACITY_EMPTY_ELEMENTDATA" "[Ljava/lang/Object;") ∈ lw_tbl := wt_ (List.mem_of_getElem? (i := 46) (by decide +kernel))
theorem wi_2_23 : (Cond.fieldLink RJx4a65c 9 "java/util/ArrayList" "elementData" "[Ljava/lang/Object;") ∈ lw_tbl := wt_ (List.mem_of_getElem? (i := 48) (by decide +kernel))
theorem wc_2 : ∀ w ∈ wsL_law_r2, w ∈ lw_tbl := List.forall_mem_cons.mpr ⟨wi_2_0, List.forall_mem_cons.mpr ⟨wi_2_1, List.forall_mem_cons.mpr ⟨wi_2_2, List.forall_mem_cons.mpr ⟨wi_2_3, List.forall_mem_cons.mpr ⟨wi_2_4, List.forall_mem_cons.mpr ⟨wi_2_5, List.forall_mem_cons.mpr ⟨wi_2_6, List.forall_mem_cons.mpr ⟨wi_2_7, List.forall_mem_cons.mpr ⟨wi_2_8, List.forall_mem_cons.mpr ⟨wi_2_9, List.forall_mem_cons.mpr ⟨wi_2_10, List.forall_mem_cons.mpr ⟨wi_2_11, List.forall_mem_cons.mpr ⟨wi_2_12, List.forall_mem_cons.mpr ⟨wi_2_13, List.forall_mem_cons.mpr ⟨wi_2_14, List.forall_mem_cons.mpr ⟨wi_2_15, List.forall_mem_cons.mpr ⟨wi_2_16, List.forall_mem_cons.mpr ⟨wi_2_17, List.forall_mem_cons.mpr ⟨wi_2_18, List.forall_mem_cons.mpr ⟨wi_2_19, List.forall_mem_cons.mpr ⟨wi_2_20, List.forall_mem_cons.mpr ⟨wi_2_21, List.forall_mem_cons.mpr ⟨wi_2_22, List.forall_mem_cons.mpr ⟨wi_2_23, (fun _ h => absurd h List.not_mem_nil)⟩⟩⟩⟩⟩⟩⟩⟩⟩⟩⟩⟩⟩⟩⟩⟩⟩⟩⟩⟩⟩⟩⟩⟩
theorem wi_3_0 : (Cond.methodLink RJx4a65c 1 yJxc12de_init_da8c8) ∈ lw_tbl := wt_ (List.mem_of_getElem? (i := 39) (by decide +kernel))
theorem wi_3_1 : (Cond.instanceMethod yJxc12de_init_da8c8) ∈ lw_tbl := wt_ (List.mem_of_getElem? (i := 40) (by decide +kernel))
theorem wi_3_2 : (Cond.initialized RJxc12de) ∈ lw_tbl := wt_ (List.mem_of_getElem? (i := 4) (by decide +kernel))
theorem wi_3_3 : (Cond.code yJxc12de_init_da8c8 cJxc12de_init_da8c8 1 none) ∈ lw_tbl := wt_ (List.mem_append_left _ (List.mem_of_getElem? (i := 41) rfl : _ ∈ tables_1_1))
theorem wi_3_4 : (Cond.fieldLink RJxc12de 7 "java/util/AbstractList" "modCount" "I") ∈ lw_tbl := wt_ (List.mem_of_getElem? (i := 50) (by decide +kernel))
theorem wi_3_5 : (Cond.methodLink RJxc12de 1 yJxa1e45_init_da8c8) ∈ lw_tbl := wt_ (List.mem_of_getElem? (i := 42) (by decide +kernel))
theorem wi_3_6 : (Cond.instanceMethod yJxa1e45_init_da8c8) ∈ lw_tbl := wt_ (List.mem_of_getElem? (i := 43) (by decide +kernel))
theorem wi_3_7 : (Cond.initialized RJxa1e45) ∈ lw_tbl := wt_ (List.mem_of_getElem? (i := 3) (by decide +kernel))
theorem wi_3_8 : (Cond.code yJxa1e45_init_da8c8 cJxa1e45_init_da8c8 1 none) ∈ lw_tbl := wt_ (List.mem_append_left _ (List.mem_of_getElem? (i := 44) rfl : _ ∈ tables_1_1))
theorem wi_3_9 : (Cond.methodLink RJxa1e45 1 objectInit) ∈ lw_tbl := wt_ (List.mem_of_getElem? (i := 45) (by decide +kernel))
theorem wi_3_10 : (Cond.methodLink RX5 21 yJx4a65c_init_da8c8) ∈ lw_tbl := wt_ (List.mem_of_getElem? (i := 119) (by decide +kernel))
theorem wi_3_11 : (Cond.methodLink RX5 28 yX3_init) ∈ lw_tbl := wt_ (List.mem_of_getElem? (i := 122) (by decide +kernel))
theorem wi_3_12 : (Cond.instanceMethod yX3_init) ∈ lw_tbl := wt_ (List.mem_of_getElem? (i := 123) (by decide +kernel))
theorem wi_3_13 : (Cond.code yX3_init cX3_init 1 none) ∈ lw_tbl := wt_ (List.mem_append_left _ (List.mem_of_getElem? (i := 124) rfl : _ ∈ tables_1_1))
theorem wi_3_14 : (Cond.methodLink RX3 3 objectInit) ∈ lw_tbl := wt_ (List.mem_of_getElem? (i := 125) (by decide +kernel))
theorem wi_3_15 : (Cond.arrayClass .long) ∈ lw_tbl := wt_ (List.mem_of_getElem? (i := 136) (by decide +kernel))
theorem wi_3_16 : (Cond.fieldLink RX3 9 "DriftPlans$Reckoner" "products" "[J") ∈ lw_tbl := wt_ (List.mem_of_getElem? (i := 126) (by decide +kernel))
theorem wi_3_17 : (Cond.fieldLink RX3 15 "DriftPlans$Reckoner" "leastCosts" "[J") ∈ lw_tbl := wt_ (List.mem_of_getElem? (i := 127) (by decide +kernel))
theorem wi_3_18 : (Cond.fieldLink RX3 18 "DriftPlans$Reckoner" "bestOrders" "[I") ∈ lw_tbl := wt_ (List.mem_of_getElem? (i := 128) (by decide +kernel))
theorem wi_3_19 : (Cond.instanceMethod yX1_init) ∈ lw_tbl := wt_ (List.mem_of_getElem? (i := 140) (by decide +kernel))
theorem wi_3_20 : (Cond.code yX1_init cX1_init 1 none) ∈ lw_tbl := wt_ (List.mem_append_left _ (List.mem_of_getElem? (i := 141) rfl : _ ∈ tables_1_1))
theorem wi_3_21 : (Cond.methodLink RX1 3 objectInit) ∈ lw_tbl := wt_ (List.mem_of_getElem? (i := 142) (by decide +kernel))
theorem wi_3_22 : (Cond.arrayClass .char) ∈ lw_tbl := wt_ (List.mem_of_getElem? (i := 152) (by decide +kernel))
theorem wi_3_23 : (Cond.fieldLink RX1 9 "DriftPlans$Pad" "signs" "[C") ∈ lw_tbl := wt_ (List.mem_of_getElem? (i := 143) (by decide +kernel))
theorem wc_3 : ∀ w ∈ wsL_law_r3, w ∈ lw_tbl := List.forall_mem_cons.mpr ⟨wi_3_0, List.forall_mem_cons.mpr ⟨wi_3_1, List.forall_mem_cons.mpr ⟨wi_3_2, List.forall_mem_cons.mpr ⟨wi_3_3, List.forall_mem_cons.mpr ⟨wi_3_4, List.forall_mem_cons.mpr ⟨wi_3_5, List.forall_mem_cons.mpr ⟨wi_3_6, List.forall_mem_cons.mpr ⟨wi_3_7, List.forall_mem_cons.mpr ⟨wi_3_8, List.forall_mem_cons.mpr ⟨wi_3_9, List.forall_mem_cons.mpr ⟨wi_3_10, List.forall_mem_cons.mpr ⟨wi_3_11, List.forall_mem_cons.mpr ⟨wi_3_12, List.forall_mem_cons.mpr ⟨wi_3_13, List.forall_mem_cons.mpr ⟨wi_3_14, List.forall_mem_cons.mpr ⟨wi_3_15, List.forall_mem_cons.mpr ⟨wi_3_16, List.forall_mem_cons.mpr ⟨wi_3_17, List.forall_mem_cons.mpr ⟨wi_3_18, List.forall_mem_cons.mpr ⟨wi_3_19, List.forall_mem_cons.mpr ⟨wi_3_20, List.forall_mem_cons.mpr ⟨wi_3_21, List.forall_mem_cons.mpr ⟨wi_3_22, List.forall_mem_cons.mpr ⟨wi_3_23, (fun _ h => absurd h List.not_mem_nil)⟩⟩⟩⟩⟩⟩⟩⟩⟩⟩⟩⟩⟩⟩⟩⟩⟩⟩⟩⟩⟩⟩⟩⟩
theorem wi_4_0 : (Cond.fieldLink RX1 15 "DriftPlans$Pad" "length" "I") ∈ lw_tbl := wt_ (List.mem_of_getElem? (i := 144) (by decide +kernel))
theorem wi_4_1 : (Cond.methodLink RL 12 yX6_init) ∈ lw_tbl := wt_ (List.mem_of_getElem? (i := 652) (by decide +kernel))
theorem wi_4_2 : (Cond.instanceMethod yX6_init) ∈ lw_tbl := wt_ (List.mem_of_getElem? (i := 653) (by decide +kernel))
theorem wi_4_3 : (Cond.code yX6_init cX6_init 2 none) ∈ lw_tbl := wt_ (List.mem_append_right _ (List.mem_append_right _ (List.mem_append_left _ (List.mem_of_getElem? (i := 174) rfl : _ ∈ tables_1_3))))
theorem wi_4_4 : (Cond.methodLink RX6 1 objectInit) ∈ lw_tbl := wt_ (List.mem_of_getElem? (i := 655) (by decide +kernel))
theorem wi_4_5 : (Cond.fieldLink RX6 7 "DriftPlansModel" "s" "[I") ∈ lw_tbl := wt_ (List.mem_of_getElem? (i := 656) (by decide +kernel))
theorem wi_4_6 : (Cond.fieldLink RX6 13 "DriftPlansModel" "past" "[I") ∈ lw_tbl := wt_ (List.mem_of_getElem? (i := 657) (by decide +kernel))
theorem wi_4_7 : (Cond.fieldLink RX6 16 "DriftPlansModel" "kept" "[I") ∈ lw_tbl := wt_ (List.mem_of_getElem? (i := 658) (by decide +kernel))
theorem wi_4_8 : (Cond.fieldLink RX6 19 "DriftPlansModel" "spare" "[I") ∈ lw_tbl := wt_ (List.mem_of_getElem? (i := 659) (by decide +kernel))
theorem wi_4_9 : (Cond.fieldLink RX6 22 "DriftPlansModel" "paid" "[J") ∈ lw_tbl := wt_ (List.mem_of_getElem? (i := 660) (by decide +kernel))
theorem wi_4_10 : (Cond.fieldLink RX6 26 "DriftPlansModel" "pastPaid" "[J") ∈ lw_tbl := wt_ (List.mem_of_getElem? (i := 661) (by decide +kernel))
theorem wi_4_11 : (Cond.fieldLink RX6 29 "DriftPlansModel" "keptPaid" "[J") ∈ lw_tbl := wt_ (List.mem_of_getElem? (i := 662) (by decide +kernel))
theorem wi_4_12 : (Cond.fieldLink RX6 32 "DriftPlansModel" "sparePaid" "[J") ∈ lw_tbl := wt_ (List.mem_of_getElem? (i := 663) (by decide +kernel))
theorem wi_4_13 : (Cond.fieldLink RX6 35 "DriftPlansModel" "pad" "[I") ∈ lw_tbl := wt_ (List.mem_of_getElem? (i := 667) (by decide +kernel))
theorem wi_4_14 : (Cond.fieldLink RX6 38 "DriftPlansModel" "stop" "[I") ∈ lw_tbl := wt_ (List.mem_of_getElem? (i := 670) (by decide +kernel))
theorem wi_4_15 : (Cond.fieldLink RX6 41 "DriftPlansModel" "order" "[I") ∈ lw_tbl := wt_ (List.mem_of_getElem? (i := 671) (by decide +kernel))
theorem wi_4_16 : (Cond.fieldLink RX6 44 "DriftPlansModel" "best" "[I") ∈ lw_tbl := wt_ (List.mem_of_getElem? (i := 672) (by decide +kernel))
theorem wi_4_17 : (Cond.fieldLink RX6 47 "DriftPlansModel" "bySets" "[J") ∈ lw_tbl := wt_ (List.mem_of_getElem? (i := 674) (by decide +kernel))
theorem wi_4_18 : (Cond.fieldLink RX6 50 "DriftPlansModel" "deed" "[I") ∈ lw_tbl := wt_ (List.mem_of_getElem? (i := 677) (by decide +kernel))
theorem wi_4_19 : (Cond.methodLink RL 13 yX5_rows) ∈ lw_tbl := wt_ (List.mem_of_getElem? (i := 175) (by decide +kernel))
theorem wi_4_20 : (Cond.instanceMethod yX5_rows) ∈ lw_tbl := wt_ (List.mem_of_getElem? (i := 176) (by decide +kernel))
theorem wi_4_21 : (Cond.selects RX5 yX5_rows yX5_rows) ∈ lw_tbl := wt_ (List.mem_of_getElem? (i := 177) (by decide +kernel))
theorem wi_4_22 : (Cond.code yX5_rows cX5_rows 4 (some .int)) ∈ lw_tbl := wt_ (List.mem_append_left _ (List.mem_of_getElem? (i := 178) rfl : _ ∈ tables_1_1))
theorem wi_4_23 : (Cond.fieldLink RX5 54 "DriftPlans$State" "rows" "[I") ∈ lw_tbl := wt_ (List.mem_of_getElem? (i := 62) (by decide +kernel))
theorem wc_4 : ∀ w ∈ wsL_law_r4, w ∈ lw_tbl := List.forall_mem_cons.mpr ⟨wi_4_0, List.forall_mem_cons.mpr ⟨wi_4_1, List.forall_mem_cons.mpr ⟨wi_4_2, List.forall_mem_cons.mpr ⟨wi_4_3, List.forall_mem_cons.mpr ⟨wi_4_4, List.forall_mem_cons.mpr ⟨wi_4_5, List.forall_mem_cons.mpr ⟨wi_4_6, List.forall_mem_cons.mpr ⟨wi_4_7, List.forall_mem_cons.mpr ⟨wi_4_8, List.forall_mem_cons.mpr ⟨wi_4_9, List.forall_mem_cons.mpr ⟨wi_4_10, List.forall_mem_cons.mpr ⟨wi_4_11, List.forall_mem_cons.mpr ⟨wi_4_12, List.forall_mem_cons.mpr ⟨wi_4_13, List.forall_mem_cons.mpr ⟨wi_4_14, List.forall_mem_cons.mpr ⟨wi_4_15, List.forall_mem_cons.mpr ⟨wi_4_16, List.forall_mem_cons.mpr ⟨wi_4_17, List.forall_mem_cons.mpr ⟨wi_4_18, List.forall_mem_cons.mpr ⟨wi_4_19, List.forall_mem_cons.mpr ⟨wi_4_20, List.forall_mem_cons.mpr ⟨wi_4_21, List.forall_mem_cons.mpr ⟨wi_4_22, List.forall_mem_cons.mpr ⟨wi_4_23, (fun _ h => absurd h List.not_mem_nil)⟩⟩⟩⟩⟩⟩⟩⟩⟩⟩⟩⟩⟩⟩⟩⟩⟩⟩⟩⟩⟩⟩⟩⟩
theorem wi_5_0 : (Cond.methodLink RX5 47 yX5_isTable) ∈ lw_tbl := wt_ (List.mem_of_getElem? (i := 179) (by decide +kernel))
theorem wi_5_1 : (Cond.static yX5_isTable) ∈ lw_tbl := wt_ (List.mem_of_getElem? (i := 180) (by decide +kernel))
theorem wi_5_2 : (Cond.code yX5_isTable cX5_isTable 1 (some .boolean)) ∈ lw_tbl := wt_ (List.mem_append_left _ (List.mem_of_getElem? (i := 181) rfl : _ ∈ tables_1_1))
theorem wi_5_3 : (Cond.methodLink RX5 51 yX5_remember) ∈ lw_tbl := wt_ (List.mem_of_getElem? (i := 182) (by decide +kernel))
theorem wi_5_4 : (Cond.instanceMethod yX5_remember) ∈ lw_tbl := wt_ (List.mem_of_getElem? (i := 184) (by decide +kernel))
theorem wi_5_5 : (Cond.selects RX5 yX5_remember yX5_remember) ∈ lw_tbl := wp_ (List.mem_of_getElem? (i := 0) (by decide +kernel))
theorem wi_5_6 : (Cond.code yX5_remember cX5_remember 1 none) ∈ lw_tbl := wt_ (List.mem_append_left _ (List.mem_of_getElem? (i := 185) rfl : _ ∈ tables_1_1))
theorem wi_5_7 : (Cond.methodLink RX5 247 yX4_init_) ∈ lw_tbl := wt_ (List.mem_of_getElem? (i := 186) (by decide +kernel))
theorem wi_5_8 : (Cond.instanceMethod yX4_init_) ∈ lw_tbl := wt_ (List.mem_of_getElem? (i := 187) (by decide +kernel))
theorem wi_5_9 : (Cond.code yX4_init_ cX4_init_ 4 none) ∈ lw_tbl := wt_ (List.mem_append_left _ (List.mem_of_getElem? (i := 188) rfl : _ ∈ tables_1_1))
theorem wi_5_10 : (Cond.classLink RX4 42 "DriftPlans$Kept") ∈ lw_tbl := wt_ (List.mem_of_getElem? (i := 207) (by decide +kernel))
theorem wi_5_11 : (Cond.fieldLink RX4 48 "DriftPlans$State" "hits" "J") ∈ lw_tbl := wt_ (List.mem_of_getElem? (i := 71) (by decide +kernel))
theorem wi_5_12 : (Cond.fieldLink RX4 52 "DriftPlans$State" "misses" "J") ∈ lw_tbl := wt_ (List.mem_of_getElem? (i := 73) (by decide +kernel))
theorem wi_5_13 : (Cond.fieldLink RX4 55 "DriftPlans$State" "runCosts" "J") ∈ lw_tbl := wt_ (List.mem_of_getElem? (i := 75) (by decide +kernel))
theorem wi_5_14 : (Cond.fieldLink RX4 58 "DriftPlans$State" "makingCosts" "J") ∈ lw_tbl := wt_ (List.mem_of_getElem? (i := 77) (by decide +kernel))
theorem wi_5_15 : (Cond.fieldLink RX4 61 "DriftPlans$State" "driftedOut" "J") ∈ lw_tbl := wt_ (List.mem_of_getElem? (i := 79) (by decide +kernel))
theorem wi_5_16 : (Cond.fieldLink RX4 64 "DriftPlans$State" "pushedOut" "J") ∈ lw_tbl := wt_ (List.mem_of_getElem? (i := 81) (by decide +kernel))
theorem wi_5_17 : (Cond.fieldLink RX4 67 "DriftPlans$State" "joinedOut" "J") ∈ lw_tbl := wt_ (List.mem_of_getElem? (i := 83) (by decide +kernel))
theorem wi_5_18 : (Cond.fieldLink RX4 70 "DriftPlans$State" "forgotten" "J") ∈ lw_tbl := wt_ (List.mem_of_getElem? (i := 85) (by decide +kernel))
theorem wi_5_19 : (Cond.fieldLink RX4 73 "DriftPlans$State" "usedOnly" "J") ∈ lw_tbl := wt_ (List.mem_of_getElem? (i := 87) (by decide +kernel))
theorem wi_5_20 : (Cond.methodLink RX4 34 yJx4a65c_size_8abf5) ∈ lw_tbl := wt_ (List.mem_of_getElem? (i := 189) (by decide +kernel))
theorem wi_5_21 : (Cond.instanceMethod yJx4a65c_size_8abf5) ∈ lw_tbl := wt_ (List.mem_of_getElem? (i := 190) (by decide +kernel))
theorem wi_5_22 : (Cond.selects RJx4a65c yJx4a65c_size_8abf5 yJx4a65c_size_8abf5) ∈ lw_tbl := wt_ (List.mem_of_getElem? (i := 191) (by decide +kernel))
theorem wi_5_23 : (Cond.code yJx4a65c_size_8abf5 cJx4a65c_size_8abf5 1 (some .int)) ∈ lw_tbl := wt_ (List.mem_append_left _ (List.mem_of_getElem? (i := 192) rfl : _ ∈ tables_1_1))
theorem wc_5 : ∀ w ∈ wsL_law_r5, w ∈ lw_tbl := List.forall_mem_cons.mpr ⟨wi_5_0, List.forall_mem_cons.mpr ⟨wi_5_1, List.forall_mem_cons.mpr ⟨wi_5_2, List.forall_mem_cons.mpr ⟨wi_5_3, List.forall_mem_cons.mpr ⟨wi_5_4, List.forall_mem_cons.mpr ⟨wi_5_5, List.forall_mem_cons.mpr ⟨wi_5_6, List.forall_mem_cons.mpr ⟨wi_5_7, List.forall_mem_cons.mpr ⟨wi_5_8, List.forall_mem_cons.mpr ⟨wi_5_9, List.forall_mem_cons.mpr ⟨wi_5_10, List.forall_mem_cons.mpr ⟨wi_5_11, List.forall_mem_cons.mpr ⟨wi_5_12, List.forall_mem_cons.mpr ⟨wi_5_13, List.forall_mem_cons.mpr ⟨wi_5_14, List.forall_mem_cons.mpr ⟨wi_5_15, List.forall_mem_cons.mpr ⟨wi_5_16, List.forall_mem_cons.mpr ⟨wi_5_17, List.forall_mem_cons.mpr ⟨wi_5_18, List.forall_mem_cons.mpr ⟨wi_5_19, List.forall_mem_cons.mpr ⟨wi_5_20, List.forall_mem_cons.mpr ⟨wi_5_21, List.forall_mem_cons.mpr ⟨wi_5_22, List.forall_mem_cons.mpr ⟨wi_5_23, (fun _ h => absurd h List.not_mem_nil)⟩⟩⟩⟩⟩⟩⟩⟩⟩⟩⟩⟩⟩⟩⟩⟩⟩⟩⟩⟩⟩⟩⟩⟩
theorem wi_6_0 : (Cond.fieldLink RJx4a65c 48 "java/util/ArrayList" "size" "I") ∈ lw_tbl := wt_ (List.mem_of_getElem? (i := 49) (by decide +kernel))
theorem wi_6_1 : (Cond.methodLink RX4 38 yJx4a65c_get_915e3) ∈ lw_tbl := wt_ (List.mem_of_getElem? (i := 193) (by decide +kernel))
theorem wi_6_2 : (Cond.instanceMethod yJx4a65c_get_915e3) ∈ lw_tbl := wt_ (List.mem_of_getElem? (i := 194) (by decide +kernel))
theorem wi_6_3 : (Cond.selects RJx4a65c yJx4a65c_get_915e3 yJx4a65c_get_915e3) ∈ lw_tbl := wt_ (List.mem_of_getElem? (i := 195) (by decide +kernel))
theorem wi_6_4 : (Cond.code yJx4a65c_get_915e3 cJx4a65c_get_915e3 2 (some (.object "java/lang/Object"))) ∈ lw_tbl := wt_ (List.mem_append_left _ (List.mem_of_getElem? (i := 196) rfl : _ ∈ tables_1_1))
theorem wi_6_5 : (Cond.methodLink RJx4a65c 118 yJ15_checkIndex_7cf53) ∈ lw_tbl := wt_ (List.mem_of_getElem? (i := 197) (by decide +kernel))
theorem wi_6_6 : (Cond.static yJ15_checkIndex_7cf53) ∈ lw_tbl := wt_ (List.mem_of_getElem? (i := 198) (by decide +kernel))
theorem wi_6_7 : (Cond.initialized RJ15) ∈ lw_tbl := wt_ (List.mem_of_getElem? (i := 9) (by decide +kernel))
theorem wi_6_8 : (Cond.code yJ15_checkIndex_7cf53 cJ15_checkIndex_7cf53 2 (some .int)) ∈ lw_tbl := wt_ (List.mem_append_left _ (List.mem_of_getElem? (i := 199) rfl : _ ∈ tables_1_1))
theorem wi_6_9 : (Cond.methodLink RJ15 105 yJ3_checkIndex_8e157) ∈ lw_tbl := wt_ (List.mem_of_getElem? (i := 200) (by decide +kernel))
theorem wi_6_10 : (Cond.static yJ3_checkIndex_8e157) ∈ lw_tbl := wt_ (List.mem_of_getElem? (i := 201) (by decide +kernel))
theorem wi_6_11 : (Cond.initialized RJ3) ∈ lw_tbl := wt_ (List.mem_of_getElem? (i := 10) (by decide +kernel))
theorem wi_6_12 : (Cond.code yJ3_checkIndex_8e157 cJ3_checkIndex_8e157 3 (some .int)) ∈ lw_tbl := wt_ (List.mem_append_left _ (List.mem_of_getElem? (i := 202) rfl : _ ∈ tables_1_1))
theorem wi_6_13 : (Cond.methodLink RJx4a65c 123 yJx4a65c_elementData_915e3) ∈ lw_tbl := wt_ (List.mem_of_getElem? (i := 203) (by decide +kernel))
theorem wi_6_14 : (Cond.instanceMethod yJx4a65c_elementData_915e3) ∈ lw_tbl := wt_ (List.mem_of_getElem? (i := 204) (by decide +kernel))
theorem wi_6_15 : (Cond.selects RJx4a65c yJx4a65c_elementData_915e3 yJx4a65c_elementData_915e3) ∈ lw_tbl := wt_ (List.mem_of_getElem? (i := 205) (by decide +kernel))
theorem wi_6_16 : (Cond.code yJx4a65c_elementData_915e3 cJx4a65c_elementData_915e3 2 (some (.object "java/lang/Object"))) ∈ lw_tbl := wt_ (List.mem_append_left _ (List.mem_of_getElem? (i := 206) rfl : _ ∈ tables_1_1))
theorem wi_6_17 : (Cond.methodLink RX4 44 yJx4a65c_add_9ea2d) ∈ lw_tbl := wt_ (List.mem_of_getElem? (i := 208) (by decide +kernel))
theorem wi_6_18 : (Cond.instanceMethod yJx4a65c_add_9ea2d) ∈ lw_tbl := wt_ (List.mem_of_getElem? (i := 209) (by decide +kernel))
theorem wi_6_19 : (Cond.selects RJx4a65c yJx4a65c_add_9ea2d yJx4a65c_add_9ea2d) ∈ lw_tbl := wt_ (List.mem_of_getElem? (i := 210) (by decide +kernel))
theorem wi_6_20 : (Cond.code yJx4a65c_add_9ea2d cJx4a65c_add_9ea2d 2 (some .boolean)) ∈ lw_tbl := wt_ (List.mem_append_left _ (List.mem_of_getElem? (i := 211) rfl : _ ∈ tables_1_1))
theorem wi_6_21 : (Cond.fieldLink RJx4a65c 63 "java/util/ArrayList" "modCount" "I") ∈ lw_tbl := wt_ (List.mem_of_getElem? (i := 51) (by decide +kernel))
theorem wi_6_22 : (Cond.sameField "java/util/ArrayList" "java/util/AbstractList" "modCount" "I") ∈ lw_tbl := wt_ (List.mem_of_getElem? (i := 52) (by decide +kernel))
theorem wi_6_23 : (Cond.methodLink RJx4a65c 131 yJx4a65c_add_72be8) ∈ lw_tbl := wt_ (List.mem_of_getElem? (i := 212) (by decide +kernel))
theorem wc_6 : ∀ w ∈ wsL_law_r6, w ∈ lw_tbl := List.forall_mem_cons.mpr ⟨wi_6_0, List.forall_mem_cons.mpr ⟨wi_6_1, List.forall_mem_cons.mpr ⟨wi_6_2, List.forall_mem_cons.mpr ⟨wi_6_3, List.forall_mem_cons.mpr ⟨wi_6_4, List.forall_mem_cons.mpr ⟨wi_6_5, List.forall_mem_cons.mpr ⟨wi_6_6, List.forall_mem_cons.mpr ⟨wi_6_7, List.forall_mem_cons.mpr ⟨wi_6_8, List.forall_mem_cons.mpr ⟨wi_6_9, List.forall_mem_cons.mpr ⟨wi_6_10, List.forall_mem_cons.mpr ⟨wi_6_11, List.forall_mem_cons.mpr ⟨wi_6_12, List.forall_mem_cons.mpr ⟨wi_6_13, List.forall_mem_cons.mpr ⟨wi_6_14, List.forall_mem_cons.mpr ⟨wi_6_15, List.forall_mem_cons.mpr ⟨wi_6_16, List.forall_mem_cons.mpr ⟨wi_6_17, List.forall_mem_cons.mpr ⟨wi_6_18, List.forall_mem_cons.mpr ⟨wi_6_19, List.forall_mem_cons.mpr ⟨wi_6_20, List.forall_mem_cons.mpr ⟨wi_6_21, List.forall_mem_cons.mpr ⟨wi_6_22, List.forall_mem_cons.mpr ⟨wi_6_23, (fun _ h => absurd h List.not_mem_nil)⟩⟩⟩⟩⟩⟩⟩⟩⟩⟩⟩⟩⟩⟩⟩⟩⟩⟩⟩⟩⟩⟩⟩⟩
theorem wi_7_0 : (Cond.instanceMethod yJx4a65c_add_72be8) ∈ lw_tbl := wt_ (List.mem_of_getElem? (i := 214) (by decide +kernel))
theorem wi_7_1 : (Cond.selects RJx4a65c yJx4a65c_add_72be8 yJx4a65c_add_72be8) ∈ lw_tbl := wp_ (List.mem_of_getElem? (i := 1) (by decide +kernel))
theorem wi_7_2 : (Cond.code yJx4a65c_add_72be8 cJx4a65c_add_72be8 4 none) ∈ lw_tbl := wt_ (List.mem_append_left _ (List.mem_of_getElem? (i := 215) rfl : _ ∈ tables_1_1))
theorem wi_7_3 : (Cond.methodLink RJx4a65c 129 yJx4a65c_grow_d5877) ∈ lw_tbl := wt_ (List.mem_of_getElem? (i := 216) (by decide +kernel))
theorem wi_7_4 : (Cond.instanceMethod yJx4a65c_grow_d5877) ∈ lw_tbl := wt_ (List.mem_of_getElem? (i := 218) (by decide +kernel))
theorem wi_7_5 : (Cond.selects RJx4a65c yJx4a65c_grow_d5877 yJx4a65c_grow_d5877) ∈ lw_tbl := wp_ (List.mem_of_getElem? (i := 2) (by decide +kernel))
theorem wi_7_6 : (Cond.code yJx4a65c_grow_d5877 cJx4a65c_grow_d5877 1 (some (.array (.object "java/lang/Object")))) ∈ lw_tbl := wt_ (List.mem_append_left _ (List.mem_of_getElem? (i := 219) rfl : _ ∈ tables_1_1))
theorem wi_7_7 : (Cond.methodLink RJx4a65c 69 yJx4a65c_grow_92f84) ∈ lw_tbl := wt_ (List.mem_of_getElem? (i := 220) (by decide +kernel))
theorem wi_7_8 : (Cond.instanceMethod yJx4a65c_grow_92f84) ∈ lw_tbl := wt_ (List.mem_of_getElem? (i := 222) (by decide +kernel))
theorem wi_7_9 : (Cond.selects RJx4a65c yJx4a65c_grow_92f84 yJx4a65c_grow_92f84) ∈ lw_tbl := wp_ (List.mem_of_getElem? (i := 3) (by decide +kernel))
theorem wi_7_10 : (Cond.code yJx4a65c_grow_92f84 cJx4a65c_grow_92f84 4 (some (.array (.object "java/lang/Object")))) ∈ lw_tbl := wt_ (List.mem_append_left _ (List.mem_of_getElem? (i := 223) rfl : _ ∈ tables_1_1))
theorem wi_7_11 : (Cond.methodLink RJx4a65c 79 Lib.Math.max.name) ∈ lw_tbl := wt_ (List.mem_of_getElem? (i := 261) (by decide +kernel))
theorem wi_7_12 : (Cond.static Lib.Math.max.name) ∈ lw_tbl := wt_ (List.mem_of_getElem? (i := 228) (by decide +kernel))
theorem wi_7_13 : (Cond.initialized "java/lang/Math") ∈ lw_tbl := wt_ (List.mem_of_getElem? (i := 12) (by decide +kernel))
theorem wi_7_14 : (Cond.code Lib.Math.max.name Lib.Math.max.code 2 (some .int)) ∈ lw_tbl := wt_ (List.mem_append_left _ (List.mem_of_getElem? (i := 229) rfl : _ ∈ tables_1_1))
theorem wi_7_15 : (Cond.classLink RJx4a65c 7 "java/lang/Object") ∈ lw_tbl := wt_ (List.mem_of_getElem? (i := 262) (by decide +kernel))
theorem wi_7_16 : (Cond.methodLink RJx4a65c 73 yJ8_newLength_cabcc) ∈ lw_tbl := wt_ (List.mem_of_getElem? (i := 224) (by decide +kernel))
theorem wi_7_17 : (Cond.static yJ8_newLength_cabcc) ∈ lw_tbl := wt_ (List.mem_of_getElem? (i := 225) (by decide +kernel))
theorem wi_7_18 : (Cond.initialized RJ8) ∈ lw_tbl := wt_ (List.mem_of_getElem? (i := 11) (by decide +kernel))
theorem wi_7_19 : (Cond.code yJ8_newLength_cabcc cJ8_newLength_cabcc 4 (some .int)) ∈ lw_tbl := wt_ (List.mem_append_left _ (List.mem_of_getElem? (i := 226) rfl : _ ∈ tables_1_1))
theorem wi_7_20 : (Cond.methodLink RJ8 194 Lib.Math.max.name) ∈ lw_tbl := wt_ (List.mem_of_getElem? (i := 227) (by decide +kernel))
theorem wi_7_21 : (Cond.constant RJ8 200 (2147483639)) ∈ lw_tbl := wt_ (List.mem_of_getElem? (i := 230) (by decide +kernel))
theorem wi_7_22 : (Cond.methodLink RJ8 201 yJ8_hugeLength_7cf53) ∈ lw_tbl := wt_ (List.mem_of_getElem? (i := 231) (by decide +kernel))
theorem wi_7_23 : (Cond.static yJ8_hugeLength_7cf53) ∈ lw_tbl := wt_ (List.mem_of_getElem? (i := 232) (by decide +kernel))
theorem wc_7 : ∀ w ∈ wsL_law_r7, w ∈ lw_tbl := List.forall_mem_cons.mpr ⟨wi_7_0, List.forall_mem_cons.mpr ⟨wi_7_1, List.forall_mem_cons.mpr ⟨wi_7_2, List.forall_mem_cons.mpr ⟨wi_7_3, List.forall_mem_cons.mpr ⟨wi_7_4, List.forall_mem_cons.mpr ⟨wi_7_5, List.forall_mem_cons.mpr ⟨wi_7_6, List.forall_mem_cons.mpr ⟨wi_7_7, List.forall_mem_cons.mpr ⟨wi_7_8, List.forall_mem_cons.mpr ⟨wi_7_9, List.forall_mem_cons.mpr ⟨wi_7_10, List.forall_mem_cons.mpr ⟨wi_7_11, List.forall_mem_cons.mpr ⟨wi_7_12, List.forall_mem_cons.mpr ⟨wi_7_13, List.forall_mem_cons.mpr ⟨wi_7_14, List.forall_mem_cons.mpr ⟨wi_7_15, List.forall_mem_cons.mpr ⟨wi_7_16, List.forall_mem_cons.mpr ⟨wi_7_17, List.forall_mem_cons.mpr ⟨wi_7_18, List.forall_mem_cons.mpr ⟨wi_7_19, List.forall_mem_cons.mpr ⟨wi_7_20, List.forall_mem_cons.mpr ⟨wi_7_21, List.forall_mem_cons.mpr ⟨wi_7_22, List.forall_mem_cons.mpr ⟨wi_7_23, (fun _ h => absurd h List.not_mem_nil)⟩⟩⟩⟩⟩⟩⟩⟩⟩⟩⟩⟩⟩⟩⟩⟩⟩⟩⟩⟩⟩⟩⟩⟩
theorem wi_8_0 : (Cond.code yJ8_hugeLength_7cf53 cJ8_hugeLength_7cf53 3 (some .int)) ∈ lw_tbl := wt_ (List.mem_append_left _ (List.mem_of_getElem? (i := 233) rfl : _ ∈ tables_1_1))
theorem wi_8_1 : (Cond.methodLink RJx4a65c 66 yJ7_copyOf_1904c) ∈ lw_tbl := wt_ (List.mem_of_getElem? (i := 234) (by decide +kernel))
theorem wi_8_2 : (Cond.static yJ7_copyOf_1904c) ∈ lw_tbl := wt_ (List.mem_of_getElem? (i := 235) (by decide +kernel))
theorem wi_8_3 : (Cond.initialized RJ7) ∈ lw_tbl := wt_ (List.mem_of_getElem? (i := 13) (by decide +kernel))
theorem wi_8_4 : (Cond.code yJ7_copyOf_1904c cJ7_copyOf_1904c 2 (some (.array (.object "java/lang/Object")))) ∈ lw_tbl := wt_ (List.mem_append_left _ (List.mem_of_getElem? (i := 236) rfl : _ ∈ tables_1_1))
theorem wi_8_5 : (Cond.methodLink RJ7 86 ⟨"java/lang/Object", "getClass", "()Ljava/lang/Class;"⟩) ∈ lw_tbl := wt_ (List.mem_of_getElem? (i := 237) (by decide +kernel))
theorem wi_8_6 : (Cond.selects "[Ljava/lang/Object;" ⟨"java/lang/Object", "getClass", "()Ljava/lang/Class;"⟩ ⟨"java/lang/Object", "getClass", "()Ljava/lang/Class;"⟩) ∈ lw_tbl := wt_ (List.mem_of_getElem? (i := 1001) (by decide +kernel))
theorem wi_8_7 : (Cond.instanceMethod ⟨"java/lang/Object", "getClass", "()Ljava/lang/Class;"⟩) ∈ lw_tbl := wt_ (List.mem_of_getElem? (i := 238) (by decide +kernel))
theorem wi_8_8 : (Cond.native ⟨"java/lang/Object", "getClass", "()Ljava/lang/Class;"⟩) ∈ lw_tbl := wt_ (List.mem_of_getElem? (i := 248) (by decide +kernel))
theorem wi_8_9 : (Cond.methodLink RJ7 300 yJ7_copyOf_6403c) ∈ lw_tbl := wt_ (List.mem_of_getElem? (i := 249) (by decide +kernel))
theorem wi_8_10 : (Cond.static yJ7_copyOf_6403c) ∈ lw_tbl := wt_ (List.mem_of_getElem? (i := 250) (by decide +kernel))
theorem wi_8_11 : (Cond.code yJ7_copyOf_6403c cJ7_copyOf_6403c 4 (some (.array (.object "java/lang/Object")))) ∈ lw_tbl := wt_ (List.mem_append_right _ (List.mem_append_left _ (List.mem_of_getElem? (i := 11) rfl : _ ∈ tables_1_2)))
theorem wi_8_12 : (Cond.classLink RJ7 110 "[Ljava/lang/Object;") ∈ lw_tbl := wt_ (List.mem_of_getElem? (i := 252) (by decide +kernel))
theorem wi_8_13 : (Cond.classLink RJ7 2 "java/lang/Object") ∈ lw_tbl := wt_ (List.mem_of_getElem? (i := 254) (by decide +kernel))
theorem wi_8_14 : (Cond.methodLink RJ7 304 Lib.Math.min.name) ∈ lw_tbl := wt_ (List.mem_of_getElem? (i := 255) (by decide +kernel))
theorem wi_8_15 : (Cond.static Lib.Math.min.name) ∈ lw_tbl := wt_ (List.mem_of_getElem? (i := 256) (by decide +kernel))
theorem wi_8_16 : (Cond.code Lib.Math.min.name Lib.Math.min.code 2 (some .int)) ∈ lw_tbl := wt_ (List.mem_append_right _ (List.mem_append_left _ (List.mem_of_getElem? (i := 17) rfl : _ ∈ tables_1_2)))
theorem wi_8_17 : (Cond.methodLink RJ7 150 arraycopyName) ∈ lw_tbl := wt_ (List.mem_of_getElem? (i := 258) (by decide +kernel))
theorem wi_8_18 : (Cond.native arraycopyName) ∈ lw_tbl := wt_ (List.mem_of_getElem? (i := 260) (by decide +kernel))
theorem wi_8_19 : (Cond.static arraycopyName) ∈ lw_tbl := wt_ (List.mem_of_getElem? (i := 259) (by decide +kernel))
theorem wi_8_20 : (Cond.initialized "java/lang/System") ∈ lw_tbl := wt_ (List.mem_of_getElem? (i := 14) (by decide +kernel))
theorem wi_8_21 : (Cond.methodLink RX5 250 yJx4a65c_add_9ea2d) ∈ lw_tbl := wt_ (List.mem_of_getElem? (i := 263) (by decide +kernel))
theorem wi_8_22 : (Cond.methodLink RX5 202 yJx4a65c_size_8abf5) ∈ lw_tbl := wt_ (List.mem_of_getElem? (i := 264) (by decide +kernel))
theorem wi_8_23 : (Cond.methodLink RX5 115 yJx4a65c_remove_915e3) ∈ lw_tbl := wt_ (List.mem_of_getElem? (i := 265) (by decide +kernel))
theorem wc_8 : ∀ w ∈ wsL_law_r8, w ∈ lw_tbl := List.forall_mem_cons.mpr ⟨wi_8_0, List.forall_mem_cons.mpr ⟨wi_8_1, List.forall_mem_cons.mpr ⟨wi_8_2, List.forall_mem_cons.mpr ⟨wi_8_3, List.forall_mem_cons.mpr ⟨wi_8_4, List.forall_mem_cons.mpr ⟨wi_8_5, List.forall_mem_cons.mpr ⟨wi_8_6, List.forall_mem_cons.mpr ⟨wi_8_7, List.forall_mem_cons.mpr ⟨wi_8_8, List.forall_mem_cons.mpr ⟨wi_8_9, List.forall_mem_cons.mpr ⟨wi_8_10, List.forall_mem_cons.mpr ⟨wi_8_11, List.forall_mem_cons.mpr ⟨wi_8_12, List.forall_mem_cons.mpr ⟨wi_8_13, List.forall_mem_cons.mpr ⟨wi_8_14, List.forall_mem_cons.mpr ⟨wi_8_15, List.forall_mem_cons.mpr ⟨wi_8_16, List.forall_mem_cons.mpr ⟨wi_8_17, List.forall_mem_cons.mpr ⟨wi_8_18, List.forall_mem_cons.mpr ⟨wi_8_19, List.forall_mem_cons.mpr ⟨wi_8_20, List.forall_mem_cons.mpr ⟨wi_8_21, List.forall_mem_cons.mpr ⟨wi_8_22, List.forall_mem_cons.mpr ⟨wi_8_23, (fun _ h => absurd h List.not_mem_nil)⟩⟩⟩⟩⟩⟩⟩⟩⟩⟩⟩⟩⟩⟩⟩⟩⟩⟩⟩⟩⟩⟩⟩⟩
theorem wi_9_0 : (Cond.instanceMethod yJx4a65c_remove_915e3) ∈ lw_tbl := wt_ (List.mem_of_getElem? (i := 266) (by decide +kernel))
theorem wi_9_1 : (Cond.selects RJx4a65c yJx4a65c_remove_915e3 yJx4a65c_remove_915e3) ∈ lw_tbl := wt_ (List.mem_of_getElem? (i := 267) (by decide +kernel))
theorem wi_9_2 : (Cond.code yJx4a65c_remove_915e3 cJx4a65c_remove_915e3 4 (some (.object "java/lang/Object"))) ∈ lw_tbl := wt_ (List.mem_append_right _ (List.mem_append_left _ (List.mem_of_getElem? (i := 28) rfl : _ ∈ tables_1_2)))
theorem wi_9_3 : (Cond.methodLink RJx4a65c 144 yJx4a65c_fastRemove_b59b0) ∈ lw_tbl := wt_ (List.mem_of_getElem? (i := 269) (by decide +kernel))
theorem wi_9_4 : (Cond.instanceMethod yJx4a65c_fastRemove_b59b0) ∈ lw_tbl := wt_ (List.mem_of_getElem? (i := 271) (by decide +kernel))
theorem wi_9_5 : (Cond.selects RJx4a65c yJx4a65c_fastRemove_b59b0 yJx4a65c_fastRemove_b59b0) ∈ lw_tbl := wp_ (List.mem_of_getElem? (i := 4) (by decide +kernel))
theorem wi_9_6 : (Cond.code yJx4a65c_fastRemove_b59b0 cJx4a65c_fastRemove_b59b0 4 none) ∈ lw_tbl := wt_ (List.mem_append_right _ (List.mem_append_left _ (List.mem_of_getElem? (i := 32) rfl : _ ∈ tables_1_2)))
theorem wi_9_7 : (Cond.methodLink RJx4a65c 112 arraycopyName) ∈ lw_tbl := wt_ (List.mem_of_getElem? (i := 273) (by decide +kernel))
theorem wi_9_8 : (Cond.methodLink RL 17 yX6_rows) ∈ lw_tbl := wt_ (List.mem_of_getElem? (i := 723) (by decide +kernel))
theorem wi_9_9 : (Cond.instanceMethod yX6_rows) ∈ lw_tbl := wt_ (List.mem_of_getElem? (i := 724) (by decide +kernel))
theorem wi_9_10 : (Cond.selects RX6 yX6_rows yX6_rows) ∈ lw_tbl := wt_ (List.mem_of_getElem? (i := 725) (by decide +kernel))
theorem wi_9_11 : (Cond.code yX6_rows cX6_rows 4 (some .int)) ∈ lw_tbl := wt_ (List.mem_append_right _ (List.mem_append_right _ (List.mem_append_right _ (List.mem_append_left _ (List.mem_of_getElem? (i := 6) rfl : _ ∈ tables_1_4)))))
theorem wi_9_12 : (Cond.methodLink RX6 113 yX6_isTable) ∈ lw_tbl := wt_ (List.mem_of_getElem? (i := 727) (by decide +kernel))
theorem wi_9_13 : (Cond.static yX6_isTable) ∈ lw_tbl := wt_ (List.mem_of_getElem? (i := 728) (by decide +kernel))
theorem wi_9_14 : (Cond.code yX6_isTable cX6_isTable 1 (some .boolean)) ∈ lw_tbl := wt_ (List.mem_append_right _ (List.mem_append_right _ (List.mem_append_right _ (List.mem_append_left _ (List.mem_of_getElem? (i := 9) rfl : _ ∈ tables_1_4)))))
theorem wi_9_15 : (Cond.methodLink RX6 63 yX6_in) ∈ lw_tbl := wt_ (List.mem_of_getElem? (i := 730) (by decide +kernel))
theorem wi_9_16 : (Cond.static yX6_in) ∈ lw_tbl := wt_ (List.mem_of_getElem? (i := 731) (by decide +kernel))
theorem wi_9_17 : (Cond.code yX6_in cX6_in 3 (some .boolean)) ∈ lw_tbl := wt_ (List.mem_append_right _ (List.mem_append_right _ (List.mem_append_right _ (List.mem_append_left _ (List.mem_of_getElem? (i := 12) rfl : _ ∈ tables_1_4)))))
theorem wi_9_18 : (Cond.methodLink RX6 116 yX6_changes) ∈ lw_tbl := wt_ (List.mem_of_getElem? (i := 733) (by decide +kernel))
theorem wi_9_19 : (Cond.instanceMethod yX6_changes) ∈ lw_tbl := wt_ (List.mem_of_getElem? (i := 735) (by decide +kernel))
theorem wi_9_20 : (Cond.selects RX6 yX6_changes yX6_changes) ∈ lw_tbl := wp_ (List.mem_of_getElem? (i := 14) (by decide +kernel))
theorem wi_9_21 : (Cond.code yX6_changes cX6_changes 2 none) ∈ lw_tbl := wt_ (List.mem_append_right _ (List.mem_append_right _ (List.mem_append_right _ (List.mem_append_left _ (List.mem_of_getElem? (i := 16) rfl : _ ∈ tables_1_4)))))
theorem wi_9_22 : (Cond.fieldLink RX6 55 "DriftPlansModel" "runs" "Z") ∈ lw_tbl := wt_ (List.mem_of_getElem? (i := 666) (by decide +kernel))
theorem wi_9_23 : (Cond.fieldLink RX6 59 "DriftPlansModel" "pasts" "I") ∈ lw_tbl := wt_ (List.mem_of_getElem? (i := 665) (by decide +kernel))
theorem wc_9 : ∀ w ∈ wsL_law_r9, w ∈ lw_tbl := List.forall_mem_cons.mpr ⟨wi_9_0, List.forall_mem_cons.mpr ⟨wi_9_1, List.forall_mem_cons.mpr ⟨wi_9_2, List.forall_mem_cons.mpr ⟨wi_9_3, List.forall_mem_cons.mpr ⟨wi_9_4, List.forall_mem_cons.mpr ⟨wi_9_5, List.forall_mem_cons.mpr ⟨wi_9_6, List.forall_mem_cons.mpr ⟨wi_9_7, List.forall_mem_cons.mpr ⟨wi_9_8, List.forall_mem_cons.mpr ⟨wi_9_9, List.forall_mem_cons.mpr ⟨wi_9_10, List.forall_mem_cons.mpr ⟨wi_9_11, List.forall_mem_cons.mpr ⟨wi_9_12, List.forall_mem_cons.mpr ⟨wi_9_13, List.forall_mem_cons.mpr ⟨wi_9_14, List.forall_mem_cons.mpr ⟨wi_9_15, List.forall_mem_cons.mpr ⟨wi_9_16, List.forall_mem_cons.mpr ⟨wi_9_17, List.forall_mem_cons.mpr ⟨wi_9_18, List.forall_mem_cons.mpr ⟨wi_9_19, List.forall_mem_cons.mpr ⟨wi_9_20, List.forall_mem_cons.mpr ⟨wi_9_21, List.forall_mem_cons.mpr ⟨wi_9_22, List.forall_mem_cons.mpr ⟨wi_9_23, (fun _ h => absurd h List.not_mem_nil)⟩⟩⟩⟩⟩⟩⟩⟩⟩⟩⟩⟩⟩⟩⟩⟩⟩⟩⟩⟩⟩⟩⟩⟩
theorem wi_10_0 : (Cond.methodLink RL 18 yX5_part) ∈ lw_tbl := wt_ (List.mem_of_getElem? (i := 274) (by decide +kernel))
theorem wi_10_1 : (Cond.instanceMethod yX5_part) ∈ lw_tbl := wt_ (List.mem_of_getElem? (i := 275) (by decide +kernel))
theorem wi_10_2 : (Cond.selects RX5 yX5_part yX5_part) ∈ lw_tbl := wt_ (List.mem_of_getElem? (i := 276) (by decide +kernel))
theorem wi_10_3 : (Cond.code yX5_part cX5_part 4 (some .int)) ∈ lw_tbl := wt_ (List.mem_append_right _ (List.mem_append_left _ (List.mem_of_getElem? (i := 37) rfl : _ ∈ tables_1_2)))
theorem wi_10_4 : (Cond.fieldLink RX5 62 "DriftPlans$State" "parts" "[[I") ∈ lw_tbl := wt_ (List.mem_of_getElem? (i := 66) (by decide +kernel))
theorem wi_10_5 : (Cond.methodLink RX5 58 yX5_isJoin) ∈ lw_tbl := wt_ (List.mem_of_getElem? (i := 278) (by decide +kernel))
theorem wi_10_6 : (Cond.static yX5_isJoin) ∈ lw_tbl := wt_ (List.mem_of_getElem? (i := 279) (by decide +kernel))
theorem wi_10_7 : (Cond.code yX5_isJoin cX5_isJoin 2 (some .boolean)) ∈ lw_tbl := wt_ (List.mem_append_right _ (List.mem_append_left _ (List.mem_of_getElem? (i := 40) rfl : _ ∈ tables_1_2)))
theorem wi_10_8 : (Cond.methodLink RX5 66 yX5_bit) ∈ lw_tbl := wt_ (List.mem_of_getElem? (i := 281) (by decide +kernel))
theorem wi_10_9 : (Cond.static yX5_bit) ∈ lw_tbl := wt_ (List.mem_of_getElem? (i := 282) (by decide +kernel))
theorem wi_10_10 : (Cond.code yX5_bit cX5_bit 1 (some .int)) ∈ lw_tbl := wt_ (List.mem_append_right _ (List.mem_append_left _ (List.mem_of_getElem? (i := 43) rfl : _ ∈ tables_1_2)))
theorem wi_10_11 : (Cond.methodLink RX5 70 yX4_throwOutJoins) ∈ lw_tbl := wt_ (List.mem_of_getElem? (i := 284) (by decide +kernel))
theorem wi_10_12 : (Cond.instanceMethod yX4_throwOutJoins) ∈ lw_tbl := wt_ (List.mem_of_getElem? (i := 285) (by decide +kernel))
theorem wi_10_13 : (Cond.selects RX4 yX4_throwOutJoins yX4_throwOutJoins) ∈ lw_tbl := wt_ (List.mem_of_getElem? (i := 286) (by decide +kernel))
theorem wi_10_14 : (Cond.code yX4_throwOutJoins cX4_throwOutJoins 5 (some .int)) ∈ lw_tbl := wt_ (List.mem_append_right _ (List.mem_append_left _ (List.mem_of_getElem? (i := 47) rfl : _ ∈ tables_1_2)))
theorem wi_10_15 : (Cond.fieldLink RX4 83 "DriftPlans$Kept" "pinned" "Z") ∈ lw_tbl := wt_ (List.mem_of_getElem? (i := 351) (by decide +kernel))
theorem wi_10_16 : (Cond.fieldLink RX4 76 "DriftPlans$Kept" "shape" "I") ∈ lw_tbl := wt_ (List.mem_of_getElem? (i := 340) (by decide +kernel))
theorem wi_10_17 : (Cond.static yX5_hasAll) ∈ lw_tbl := wt_ (List.mem_of_getElem? (i := 289) (by decide +kernel))
theorem wi_10_18 : (Cond.code yX5_hasAll cX5_hasAll 2 (some .boolean)) ∈ lw_tbl := wt_ (List.mem_append_right _ (List.mem_append_left _ (List.mem_of_getElem? (i := 50) rfl : _ ∈ tables_1_2)))
theorem wi_10_19 : (Cond.methodLink RX4 101 yJx4a65c_remove_915e3) ∈ lw_tbl := wt_ (List.mem_of_getElem? (i := 291) (by decide +kernel))
theorem wi_10_20 : (Cond.methodLink RL 22 yX6_part) ∈ lw_tbl := wt_ (List.mem_of_getElem? (i := 737) (by decide +kernel))
theorem wi_10_21 : (Cond.instanceMethod yX6_part) ∈ lw_tbl := wt_ (List.mem_of_getElem? (i := 738) (by decide +kernel))
theorem wi_10_22 : (Cond.selects RX6 yX6_part yX6_part) ∈ lw_tbl := wt_ (List.mem_of_getElem? (i := 739) (by decide +kernel))
theorem wi_10_23 : (Cond.code yX6_part cX6_part 7 (some .int)) ∈ lw_tbl := wt_ (List.mem_append_right _ (List.mem_append_right _ (List.mem_append_right _ (List.mem_append_left _ (List.mem_of_getElem? (i := 20) rfl : _ ∈ tables_1_4)))))
theorem wc_10 : ∀ w ∈ wsL_law_r10, w ∈ lw_tbl := List.forall_mem_cons.mpr ⟨wi_10_0, List.forall_mem_cons.mpr ⟨wi_10_1, List.forall_mem_cons.mpr ⟨wi_10_2, List.forall_mem_cons.mpr ⟨wi_10_3, List.forall_mem_cons.mpr ⟨wi_10_4, List.forall_mem_cons.mpr ⟨wi_10_5, List.forall_mem_cons.mpr ⟨wi_10_6, List.forall_mem_cons.mpr ⟨wi_10_7, List.forall_mem_cons.mpr ⟨wi_10_8, List.forall_mem_cons.mpr ⟨wi_10_9, List.forall_mem_cons.mpr ⟨wi_10_10, List.forall_mem_cons.mpr ⟨wi_10_11, List.forall_mem_cons.mpr ⟨wi_10_12, List.forall_mem_cons.mpr ⟨wi_10_13, List.forall_mem_cons.mpr ⟨wi_10_14, List.forall_mem_cons.mpr ⟨wi_10_15, List.forall_mem_cons.mpr ⟨wi_10_16, List.forall_mem_cons.mpr ⟨wi_10_17, List.forall_mem_cons.mpr ⟨wi_10_18, List.forall_mem_cons.mpr ⟨wi_10_19, List.forall_mem_cons.mpr ⟨wi_10_20, List.forall_mem_cons.mpr ⟨wi_10_21, List.forall_mem_cons.mpr ⟨wi_10_22, List.forall_mem_cons.mpr ⟨wi_10_23, (fun _ h => absurd h List.not_mem_nil)⟩⟩⟩⟩⟩⟩⟩⟩⟩⟩⟩⟩⟩⟩⟩⟩⟩⟩⟩⟩⟩⟩⟩⟩
theorem wi_11_0 : (Cond.methodLink RX6 97 yX6_isLoose) ∈ lw_tbl := wt_ (List.mem_of_getElem? (i := 741) (by decide +kernel))
theorem wi_11_1 : (Cond.instanceMethod yX6_isLoose) ∈ lw_tbl := wt_ (List.mem_of_getElem? (i := 743) (by decide +kernel))
theorem wi_11_2 : (Cond.selects RX6 yX6_isLoose yX6_isLoose) ∈ lw_tbl := wp_ (List.mem_of_getElem? (i := 15) (by decide +kernel))
theorem wi_11_3 : (Cond.code yX6_isLoose cX6_isLoose 2 (some .boolean)) ∈ lw_tbl := wt_ (List.mem_append_right _ (List.mem_append_right _ (List.mem_append_right _ (List.mem_append_left _ (List.mem_of_getElem? (i := 24) rfl : _ ∈ tables_1_4)))))
theorem wi_11_4 : (Cond.methodLink RX6 90 yX6_at) ∈ lw_tbl := wt_ (List.mem_of_getElem? (i := 745) (by decide +kernel))
theorem wi_11_5 : (Cond.static yX6_at) ∈ lw_tbl := wt_ (List.mem_of_getElem? (i := 746) (by decide +kernel))
theorem wi_11_6 : (Cond.code yX6_at cX6_at 1 (some .int)) ∈ lw_tbl := wt_ (List.mem_append_right _ (List.mem_append_right _ (List.mem_append_right _ (List.mem_append_left _ (List.mem_of_getElem? (i := 27) rfl : _ ∈ tables_1_4)))))
theorem wi_11_7 : (Cond.methodLink RX6 105 yX6_empties) ∈ lw_tbl := wt_ (List.mem_of_getElem? (i := 748) (by decide +kernel))
theorem wi_11_8 : (Cond.instanceMethod yX6_empties) ∈ lw_tbl := wt_ (List.mem_of_getElem? (i := 750) (by decide +kernel))
theorem wi_11_9 : (Cond.selects RX6 yX6_empties yX6_empties) ∈ lw_tbl := wp_ (List.mem_of_getElem? (i := 16) (by decide +kernel))
theorem wi_11_10 : (Cond.code yX6_empties cX6_empties 3 none) ∈ lw_tbl := wt_ (List.mem_append_right _ (List.mem_append_right _ (List.mem_append_right _ (List.mem_append_left _ (List.mem_of_getElem? (i := 31) rfl : _ ∈ tables_1_4)))))
theorem wi_11_11 : (Cond.methodLink RL 23 yX5_count) ∈ lw_tbl := wt_ (List.mem_of_getElem? (i := 292) (by decide +kernel))
theorem wi_11_12 : (Cond.instanceMethod yX5_count) ∈ lw_tbl := wt_ (List.mem_of_getElem? (i := 293) (by decide +kernel))
theorem wi_11_13 : (Cond.selects RX5 yX5_count yX5_count) ∈ lw_tbl := wt_ (List.mem_of_getElem? (i := 294) (by decide +kernel))
theorem wi_11_14 : (Cond.code yX5_count cX5_count 2 (some .int)) ∈ lw_tbl := wt_ (List.mem_append_right _ (List.mem_append_left _ (List.mem_of_getElem? (i := 55) rfl : _ ∈ tables_1_2)))
theorem wi_11_15 : (Cond.methodLink RX5 73 yX4_countTables) ∈ lw_tbl := wt_ (List.mem_of_getElem? (i := 296) (by decide +kernel))
theorem wi_11_16 : (Cond.instanceMethod yX4_countTables) ∈ lw_tbl := wt_ (List.mem_of_getElem? (i := 297) (by decide +kernel))
theorem wi_11_17 : (Cond.selects RX4 yX4_countTables yX4_countTables) ∈ lw_tbl := wt_ (List.mem_of_getElem? (i := 298) (by decide +kernel))
theorem wi_11_18 : (Cond.code yX4_countTables cX4_countTables 3 (some .int)) ∈ lw_tbl := wt_ (List.mem_append_right _ (List.mem_append_left _ (List.mem_of_getElem? (i := 59) rfl : _ ∈ tables_1_2)))
theorem wi_11_19 : (Cond.static yX5_has) ∈ lw_tbl := wt_ (List.mem_of_getElem? (i := 301) (by decide +kernel))
theorem wi_11_20 : (Cond.code yX5_has cX5_has 2 (some .boolean)) ∈ lw_tbl := wt_ (List.mem_append_right _ (List.mem_append_left _ (List.mem_of_getElem? (i := 62) rfl : _ ∈ tables_1_2)))
theorem wi_11_21 : (Cond.methodLink RX4 116 yX4_throwOutDrifted) ∈ lw_tbl := wt_ (List.mem_of_getElem? (i := 303) (by decide +kernel))
theorem wi_11_22 : (Cond.instanceMethod yX4_throwOutDrifted) ∈ lw_tbl := wt_ (List.mem_of_getElem? (i := 304) (by decide +kernel))
theorem wi_11_23 : (Cond.selects RX4 yX4_throwOutDrifted yX4_throwOutDrifted) ∈ lw_tbl := wt_ (List.mem_of_getElem? (i := 305) (by decide +kernel))
theorem wc_11 : ∀ w ∈ wsL_law_r11, w ∈ lw_tbl := List.forall_mem_cons.mpr ⟨wi_11_0, List.forall_mem_cons.mpr ⟨wi_11_1, List.forall_mem_cons.mpr ⟨wi_11_2, List.forall_mem_cons.mpr ⟨wi_11_3, List.forall_mem_cons.mpr ⟨wi_11_4, List.forall_mem_cons.mpr ⟨wi_11_5, List.forall_mem_cons.mpr ⟨wi_11_6, List.forall_mem_cons.mpr ⟨wi_11_7, List.forall_mem_cons.mpr ⟨wi_11_8, List.forall_mem_cons.mpr ⟨wi_11_9, List.forall_mem_cons.mpr ⟨wi_11_10, List.forall_mem_cons.mpr ⟨wi_11_11, List.forall_mem_cons.mpr ⟨wi_11_12, List.forall_mem_cons.mpr ⟨wi_11_13, List.forall_mem_cons.mpr ⟨wi_11_14, List.forall_mem_cons.mpr ⟨wi_11_15, List.forall_mem_cons.mpr ⟨wi_11_16, List.forall_mem_cons.mpr ⟨wi_11_17, List.forall_mem_cons.mpr ⟨wi_11_18, List.forall_mem_cons.mpr ⟨wi_11_19, List.forall_mem_cons.mpr ⟨wi_11_20, List.forall_mem_cons.mpr ⟨wi_11_21, List.forall_mem_cons.mpr ⟨wi_11_22, List.forall_mem_cons.mpr ⟨wi_11_23, (fun _ h => absurd h List.not_mem_nil)⟩⟩⟩⟩⟩⟩⟩⟩⟩⟩⟩⟩⟩⟩⟩⟩⟩⟩⟩⟩⟩⟩⟩⟩
theorem wi_12_0 : (Cond.code yX4_throwOutDrifted cX4_throwOutDrifted 4 (some .int)) ∈ lw_tbl := wt_ (List.mem_append_right _ (List.mem_append_left _ (List.mem_of_getElem? (i := 66) rfl : _ ∈ tables_1_2)))
theorem wi_12_1 : (Cond.methodLink RX4 119 yX4_driftsOnceCounted) ∈ lw_tbl := wt_ (List.mem_of_getElem? (i := 307) (by decide +kernel))
theorem wi_12_2 : (Cond.instanceMethod yX4_driftsOnceCounted) ∈ lw_tbl := wt_ (List.mem_of_getElem? (i := 308) (by decide +kernel))
theorem wi_12_3 : (Cond.selects RX4 yX4_driftsOnceCounted yX4_driftsOnceCounted) ∈ lw_tbl := wt_ (List.mem_of_getElem? (i := 309) (by decide +kernel))
theorem wi_12_4 : (Cond.code yX4_driftsOnceCounted cX4_driftsOnceCounted 6 (some .boolean)) ∈ lw_tbl := wt_ (List.mem_append_right _ (List.mem_append_left _ (List.mem_of_getElem? (i := 70) rfl : _ ∈ tables_1_2)))
theorem wi_12_5 : (Cond.fieldLink RX4 90 "DriftPlans$Kept" "guesses" "[I") ∈ lw_tbl := wt_ (List.mem_of_getElem? (i := 346) (by decide +kernel))
theorem wi_12_6 : (Cond.methodLink RX4 123 Lib.Math.max.name) ∈ lw_tbl := wt_ (List.mem_of_getElem? (i := 311) (by decide +kernel))
theorem wi_12_7 : (Cond.methodLink RX4 129 Lib.Math.min.name) ∈ lw_tbl := wt_ (List.mem_of_getElem? (i := 312) (by decide +kernel))
theorem wi_12_8 : (Cond.methodLink RL 27 yX6_count) ∈ lw_tbl := wt_ (List.mem_of_getElem? (i := 752) (by decide +kernel))
theorem wi_12_9 : (Cond.instanceMethod yX6_count) ∈ lw_tbl := wt_ (List.mem_of_getElem? (i := 753) (by decide +kernel))
theorem wi_12_10 : (Cond.selects RX6 yX6_count yX6_count) ∈ lw_tbl := wt_ (List.mem_of_getElem? (i := 754) (by decide +kernel))
theorem wi_12_11 : (Cond.code yX6_count cX6_count 2 (some .int)) ∈ lw_tbl := wt_ (List.mem_append_right _ (List.mem_append_right _ (List.mem_append_right _ (List.mem_append_left _ (List.mem_of_getElem? (i := 35) rfl : _ ∈ tables_1_4)))))
theorem wi_12_12 : (Cond.methodLink RX6 119 yX6_counts) ∈ lw_tbl := wt_ (List.mem_of_getElem? (i := 756) (by decide +kernel))
theorem wi_12_13 : (Cond.instanceMethod yX6_counts) ∈ lw_tbl := wt_ (List.mem_of_getElem? (i := 758) (by decide +kernel))
theorem wi_12_14 : (Cond.selects RX6 yX6_counts yX6_counts) ∈ lw_tbl := wp_ (List.mem_of_getElem? (i := 17) (by decide +kernel))
theorem wi_12_15 : (Cond.code yX6_counts cX6_counts 2 (some .int)) ∈ lw_tbl := wt_ (List.mem_append_right _ (List.mem_append_right _ (List.mem_append_right _ (List.mem_append_left _ (List.mem_of_getElem? (i := 39) rfl : _ ∈ tables_1_4)))))
theorem wi_12_16 : (Cond.methodLink RX6 109 yX6_throwsOut) ∈ lw_tbl := wt_ (List.mem_of_getElem? (i := 760) (by decide +kernel))
theorem wi_12_17 : (Cond.instanceMethod yX6_throwsOut) ∈ lw_tbl := wt_ (List.mem_of_getElem? (i := 762) (by decide +kernel))
theorem wi_12_18 : (Cond.selects RX6 yX6_throwsOut yX6_throwsOut) ∈ lw_tbl := wp_ (List.mem_of_getElem? (i := 18) (by decide +kernel))
theorem wi_12_19 : (Cond.code yX6_throwsOut cX6_throwsOut 3 (some .int)) ∈ lw_tbl := wt_ (List.mem_append_right _ (List.mem_append_right _ (List.mem_append_right _ (List.mem_append_left _ (List.mem_of_getElem? (i := 43) rfl : _ ∈ tables_1_4)))))
theorem wi_12_20 : (Cond.methodLink RX6 101 yX6_hasDrifted) ∈ lw_tbl := wt_ (List.mem_of_getElem? (i := 764) (by decide +kernel))
theorem wi_12_21 : (Cond.instanceMethod yX6_hasDrifted) ∈ lw_tbl := wt_ (List.mem_of_getElem? (i := 766) (by decide +kernel))
theorem wi_12_22 : (Cond.selects RX6 yX6_hasDrifted yX6_hasDrifted) ∈ lw_tbl := wp_ (List.mem_of_getElem? (i := 19) (by decide +kernel))
theorem wi_12_23 : (Cond.code yX6_hasDrifted cX6_hasDrifted 9 (some .boolean)) ∈ lw_tbl := wt_ (List.mem_append_right _ (List.mem_append_right _ (List.mem_append_right _ (List.mem_append_left _ (List.mem_of_getElem? (i := 47) rfl : _ ∈ tables_1_4)))))
theorem wc_12 : ∀ w ∈ wsL_law_r12, w ∈ lw_tbl := List.forall_mem_cons.mpr ⟨wi_12_0, List.forall_mem_cons.mpr ⟨wi_12_1, List.forall_mem_cons.mpr ⟨wi_12_2, List.forall_mem_cons.mpr ⟨wi_12_3, List.forall_mem_cons.mpr ⟨wi_12_4, List.forall_mem_cons.mpr ⟨wi_12_5, List.forall_mem_cons.mpr ⟨wi_12_6, List.forall_mem_cons.mpr ⟨wi_12_7, List.forall_mem_cons.mpr ⟨wi_12_8, List.forall_mem_cons.mpr ⟨wi_12_9, List.forall_mem_cons.mpr ⟨wi_12_10, List.forall_mem_cons.mpr ⟨wi_12_11, List.forall_mem_cons.mpr ⟨wi_12_12, List.forall_mem_cons.mpr ⟨wi_12_13, List.forall_mem_cons.mpr ⟨wi_12_14, List.forall_mem_cons.mpr ⟨wi_12_15, List.forall_mem_cons.mpr ⟨wi_12_16, List.forall_mem_cons.mpr ⟨wi_12_17, List.forall_mem_cons.mpr ⟨wi_12_18, List.forall_mem_cons.mpr ⟨wi_12_19, List.forall_mem_cons.mpr ⟨wi_12_20, List.forall_mem_cons.mpr ⟨wi_12_21, List.forall_mem_cons.mpr ⟨wi_12_22, List.forall_mem_cons.mpr ⟨wi_12_23, (fun _ h => absurd h List.not_mem_nil)⟩⟩⟩⟩⟩⟩⟩⟩⟩⟩⟩⟩⟩⟩⟩⟩⟩⟩⟩⟩⟩⟩⟩⟩
theorem wi_13_0 : (Cond.methodLink RL 28 yX5_run) ∈ lw_tbl := wt_ (List.mem_of_getElem? (i := 313) (by decide +kernel))
theorem wi_13_1 : (Cond.instanceMethod yX5_run) ∈ lw_tbl := wt_ (List.mem_of_getElem? (i := 314) (by decide +kernel))
theorem wi_13_2 : (Cond.selects RX5 yX5_run yX5_run) ∈ lw_tbl := wt_ (List.mem_of_getElem? (i := 315) (by decide +kernel))
theorem wi_13_3 : (Cond.code yX5_run cX5_run 2 (some .int)) ∈ lw_tbl := wt_ (List.mem_append_right _ (List.mem_append_left _ (List.mem_of_getElem? (i := 76) rfl : _ ∈ tables_1_2)))
theorem wi_13_4 : (Cond.methodLink RX5 76 yX5_isSet) ∈ lw_tbl := wt_ (List.mem_of_getElem? (i := 317) (by decide +kernel))
theorem wi_13_5 : (Cond.static yX5_isSet) ∈ lw_tbl := wt_ (List.mem_of_getElem? (i := 318) (by decide +kernel))
theorem wi_13_6 : (Cond.code yX5_isSet cX5_isSet 1 (some .boolean)) ∈ lw_tbl := wt_ (List.mem_append_right _ (List.mem_append_left _ (List.mem_of_getElem? (i := 79) rfl : _ ∈ tables_1_2)))
theorem wi_13_7 : (Cond.methodLink RX5 79 yX5_runQuery) ∈ lw_tbl := wt_ (List.mem_of_getElem? (i := 320) (by decide +kernel))
theorem wi_13_8 : (Cond.instanceMethod yX5_runQuery) ∈ lw_tbl := wt_ (List.mem_of_getElem? (i := 322) (by decide +kernel))
theorem wi_13_9 : (Cond.selects RX5 yX5_runQuery yX5_runQuery) ∈ lw_tbl := wp_ (List.mem_of_getElem? (i := 5) (by decide +kernel))
theorem wi_13_10 : (Cond.code yX5_runQuery cX5_runQuery 8 (some .long)) ∈ lw_tbl := wt_ (List.mem_append_right _ (List.mem_append_left _ (List.mem_of_getElem? (i := 83) rfl : _ ∈ tables_1_2)))
theorem wi_13_11 : (Cond.fieldLink RX5 90 "DriftPlans$State" "kept" "Ljava/util/ArrayList;") ∈ lw_tbl := wt_ (List.mem_of_getElem? (i := 68) (by decide +kernel))
theorem wi_13_12 : (Cond.classLink RX5 97 "DriftPlans$Kept") ∈ lw_tbl := wt_ (List.mem_of_getElem? (i := 329) (by decide +kernel))
theorem wi_13_13 : (Cond.fieldLink RX5 188 "DriftPlans$Kept" "order" "I") ∈ lw_tbl := wt_ (List.mem_of_getElem? (i := 344) (by decide +kernel))
theorem wi_13_14 : (Cond.fieldLink RX5 214 "DriftPlans$State" "runCosts" "J") ∈ lw_tbl := wt_ (List.mem_of_getElem? (i := 76) (by decide +kernel))
theorem wi_13_15 : (Cond.methodLink RX5 87 yX4_placeOf) ∈ lw_tbl := wt_ (List.mem_of_getElem? (i := 324) (by decide +kernel))
theorem wi_13_16 : (Cond.instanceMethod yX4_placeOf) ∈ lw_tbl := wt_ (List.mem_of_getElem? (i := 325) (by decide +kernel))
theorem wi_13_17 : (Cond.selects RX4 yX4_placeOf yX4_placeOf) ∈ lw_tbl := wt_ (List.mem_of_getElem? (i := 326) (by decide +kernel))
theorem wi_13_18 : (Cond.code yX4_placeOf cX4_placeOf 3 (some .int)) ∈ lw_tbl := wt_ (List.mem_append_right _ (List.mem_append_left _ (List.mem_of_getElem? (i := 87) rfl : _ ∈ tables_1_2)))
theorem wi_13_19 : (Cond.methodLink RX5 93 yJx4a65c_get_915e3) ∈ lw_tbl := wt_ (List.mem_of_getElem? (i := 328) (by decide +kernel))
theorem wi_13_20 : (Cond.methodLink RX5 258 yX4_useAgain) ∈ lw_tbl := wt_ (List.mem_of_getElem? (i := 330) (by decide +kernel))
theorem wi_13_21 : (Cond.instanceMethod yX4_useAgain) ∈ lw_tbl := wt_ (List.mem_of_getElem? (i := 331) (by decide +kernel))
theorem wi_13_22 : (Cond.selects RX4 yX4_useAgain yX4_useAgain) ∈ lw_tbl := wt_ (List.mem_of_getElem? (i := 332) (by decide +kernel))
theorem wi_13_23 : (Cond.code yX4_useAgain cX4_useAgain 3 none) ∈ lw_tbl := wt_ (List.mem_append_right _ (List.mem_append_left _ (List.mem_of_getElem? (i := 93) rfl : _ ∈ tables_1_2)))
theorem wc_13 : ∀ w ∈ wsL_law_r13, w ∈ lw_tbl := List.forall_mem_cons.mpr ⟨wi_13_0, List.forall_mem_cons.mpr ⟨wi_13_1, List.forall_mem_cons.mpr ⟨wi_13_2, List.forall_mem_cons.mpr ⟨wi_13_3, List.forall_mem_cons.mpr ⟨wi_13_4, List.forall_mem_cons.mpr ⟨wi_13_5, List.forall_mem_cons.mpr ⟨wi_13_6, List.forall_mem_cons.mpr ⟨wi_13_7, List.forall_mem_cons.mpr ⟨wi_13_8, List.forall_mem_cons.mpr ⟨wi_13_9, List.forall_mem_cons.mpr ⟨wi_13_10, List.forall_mem_cons.mpr ⟨wi_13_11, List.forall_mem_cons.mpr ⟨wi_13_12, List.forall_mem_cons.mpr ⟨wi_13_13, List.forall_mem_cons.mpr ⟨wi_13_14, List.forall_mem_cons.mpr ⟨wi_13_15, List.forall_mem_cons.mpr ⟨wi_13_16, List.forall_mem_cons.mpr ⟨wi_13_17, List.forall_mem_cons.mpr ⟨wi_13_18, List.forall_mem_cons.mpr ⟨wi_13_19, List.forall_mem_cons.mpr ⟨wi_13_20, List.forall_mem_cons.mpr ⟨wi_13_21, List.forall_mem_cons.mpr ⟨wi_13_22, List.forall_mem_cons.mpr ⟨wi_13_23, (fun _ h => absurd h List.not_mem_nil)⟩⟩⟩⟩⟩⟩⟩⟩⟩⟩⟩⟩⟩⟩⟩⟩⟩⟩⟩⟩⟩⟩⟩⟩
theorem wi_14_0 : (Cond.classLink RX4 42 RX0) ∈ lw_tbl := wt_ (List.mem_of_getElem? (i := 207) (by decide +kernel))
theorem wi_14_1 : (Cond.instantiable RX0 5) ∈ lw_tbl := wt_ (List.mem_of_getElem? (i := 334) (by decide +kernel))
theorem wi_14_2 : (Cond.initialized RX0) ∈ lw_tbl := wt_ (List.mem_of_getElem? (i := 15) (by decide +kernel))
theorem wi_14_3 : (Cond.fieldLink RX4 87 "DriftPlans$Kept" "order" "I") ∈ lw_tbl := wt_ (List.mem_of_getElem? (i := 343) (by decide +kernel))
theorem wi_14_4 : (Cond.fieldLink RX4 91 "DriftPlans$Kept" "runs" "J") ∈ lw_tbl := wt_ (List.mem_of_getElem? (i := 348) (by decide +kernel))
theorem wi_14_5 : (Cond.methodLink RX4 94 yX0_init) ∈ lw_tbl := wt_ (List.mem_of_getElem? (i := 335) (by decide +kernel))
theorem wi_14_6 : (Cond.instanceMethod yX0_init) ∈ lw_tbl := wt_ (List.mem_of_getElem? (i := 336) (by decide +kernel))
theorem wi_14_7 : (Cond.code yX0_init cX0_init 7 none) ∈ lw_tbl := wt_ (List.mem_append_right _ (List.mem_append_left _ (List.mem_of_getElem? (i := 97) rfl : _ ∈ tables_1_2)))
theorem wi_14_8 : (Cond.methodLink RX0 1 objectInit) ∈ lw_tbl := wt_ (List.mem_of_getElem? (i := 338) (by decide +kernel))
theorem wi_14_9 : (Cond.fieldLink RX0 7 "DriftPlans$Kept" "shape" "I") ∈ lw_tbl := wt_ (List.mem_of_getElem? (i := 339) (by decide +kernel))
theorem wi_14_10 : (Cond.fieldLink RX0 13 "DriftPlans$Kept" "order" "I") ∈ lw_tbl := wt_ (List.mem_of_getElem? (i := 342) (by decide +kernel))
theorem wi_14_11 : (Cond.fieldLink RX0 16 "DriftPlans$Kept" "guesses" "[I") ∈ lw_tbl := wt_ (List.mem_of_getElem? (i := 345) (by decide +kernel))
theorem wi_14_12 : (Cond.fieldLink RX0 20 "DriftPlans$Kept" "runs" "J") ∈ lw_tbl := wt_ (List.mem_of_getElem? (i := 347) (by decide +kernel))
theorem wi_14_13 : (Cond.fieldLink RX0 24 "DriftPlans$Kept" "pinned" "Z") ∈ lw_tbl := wt_ (List.mem_of_getElem? (i := 350) (by decide +kernel))
theorem wi_14_14 : (Cond.methodLink RX5 163 yX5_reckoned) ∈ lw_tbl := wt_ (List.mem_of_getElem? (i := 364) (by decide +kernel))
theorem wi_14_15 : (Cond.instanceMethod yX5_reckoned) ∈ lw_tbl := wt_ (List.mem_of_getElem? (i := 366) (by decide +kernel))
theorem wi_14_16 : (Cond.selects RX5 yX5_reckoned yX5_reckoned) ∈ lw_tbl := wp_ (List.mem_of_getElem? (i := 6) (by decide +kernel))
theorem wi_14_17 : (Cond.code yX5_reckoned cX5_reckoned 2 (some (.object "DriftPlans$Reckoner"))) ∈ lw_tbl := wt_ (List.mem_append_right _ (List.mem_append_left _ (List.mem_of_getElem? (i := 127) rfl : _ ∈ tables_1_2)))
theorem wi_14_18 : (Cond.fieldLink RX5 153 "DriftPlans$State" "guesses" "[I") ∈ lw_tbl := wt_ (List.mem_of_getElem? (i := 64) (by decide +kernel))
theorem wi_14_19 : (Cond.methodLink RX5 254 yX3_reckon) ∈ lw_tbl := wt_ (List.mem_of_getElem? (i := 368) (by decide +kernel))
theorem wi_14_20 : (Cond.instanceMethod yX3_reckon) ∈ lw_tbl := wt_ (List.mem_of_getElem? (i := 369) (by decide +kernel))
theorem wi_14_21 : (Cond.selects RX3 yX3_reckon yX3_reckon) ∈ lw_tbl := wt_ (List.mem_of_getElem? (i := 370) (by decide +kernel))
theorem wi_14_22 : (Cond.code yX3_reckon cX3_reckon 8 none) ∈ lw_tbl := wt_ (List.mem_append_right _ (List.mem_append_left _ (List.mem_of_getElem? (i := 131) rfl : _ ∈ tables_1_2)))
theorem wi_14_23 : (Cond.constantLong RX3 30 (100)) ∈ lw_tbl := wt_ (List.mem_of_getElem? (i := 374) (by decide +kernel))
theorem wc_14 : ∀ w ∈ wsL_law_r14, w ∈ lw_tbl := List.forall_mem_cons.mpr ⟨wi_14_0, List.forall_mem_cons.mpr ⟨wi_14_1, List.forall_mem_cons.mpr ⟨wi_14_2, List.forall_mem_cons.mpr ⟨wi_14_3, List.forall_mem_cons.mpr ⟨wi_14_4, List.forall_mem_cons.mpr ⟨wi_14_5, List.forall_mem_cons.mpr ⟨wi_14_6, List.forall_mem_cons.mpr ⟨wi_14_7, List.forall_mem_cons.mpr ⟨wi_14_8, List.forall_mem_cons.mpr ⟨wi_14_9, List.forall_mem_cons.mpr ⟨wi_14_10, List.forall_mem_cons.mpr ⟨wi_14_11, List.forall_mem_cons.mpr ⟨wi_14_12, List.forall_mem_cons.mpr ⟨wi_14_13, List.forall_mem_cons.mpr ⟨wi_14_14, List.forall_mem_cons.mpr ⟨wi_14_15, List.forall_mem_cons.mpr ⟨wi_14_16, List.forall_mem_cons.mpr ⟨wi_14_17, List.forall_mem_cons.mpr ⟨wi_14_18, List.forall_mem_cons.mpr ⟨wi_14_19, List.forall_mem_cons.mpr ⟨wi_14_20, List.forall_mem_cons.mpr ⟨wi_14_21, List.forall_mem_cons.mpr ⟨wi_14_22, List.forall_mem_cons.mpr ⟨wi_14_23, (fun _ h => absurd h List.not_mem_nil)⟩⟩⟩⟩⟩⟩⟩⟩⟩⟩⟩⟩⟩⟩⟩⟩⟩⟩⟩⟩⟩⟩⟩⟩
theorem wi_15_0 : (Cond.methodLink RX3 32 yX3_planSet) ∈ lw_tbl := wt_ (List.mem_of_getElem? (i := 375) (by decide +kernel))
theorem wi_15_1 : (Cond.instanceMethod yX3_planSet) ∈ lw_tbl := wt_ (List.mem_of_getElem? (i := 377) (by decide +kernel))
theorem wi_15_2 : (Cond.selects RX3 yX3_planSet yX3_planSet) ∈ lw_tbl := wp_ (List.mem_of_getElem? (i := 7) (by decide +kernel))
theorem wi_15_3 : (Cond.code yX3_planSet cX3_planSet 10 none) ∈ lw_tbl := wt_ (List.mem_append_right _ (List.mem_append_left _ (List.mem_of_getElem? (i := 138) rfl : _ ∈ tables_1_2)))
theorem wi_15_4 : (Cond.constantLong RX3 38 (9223372036854775807)) ∈ lw_tbl := wt_ (List.mem_of_getElem? (i := 379) (by decide +kernel))
theorem wi_15_5 : (Cond.methodLink RX3 48 Lib.MathLoose.max_long.x) ∈ lw_tbl := wt_ (List.mem_of_getElem? (i := 384) (by decide +kernel))
theorem wi_15_6 : (Cond.static Lib.MathLoose.max_long.x) ∈ lw_tbl := wt_ (List.mem_of_getElem? (i := 385) (by decide +kernel))
theorem wi_15_7 : (Cond.code Lib.MathLoose.max_long.x Lib.MathLoose.max_long.code 4 (some .long)) ∈ lw_tbl := wt_ (List.mem_append_right _ (List.mem_append_left _ (List.mem_of_getElem? (i := 146) rfl : _ ∈ tables_1_2)))
theorem wi_15_8 : (Cond.static yX5_longerOrder) ∈ lw_tbl := wt_ (List.mem_of_getElem? (i := 381) (by decide +kernel))
theorem wi_15_9 : (Cond.code yX5_longerOrder cX5_longerOrder 2 (some .int)) ∈ lw_tbl := wt_ (List.mem_append_right _ (List.mem_append_left _ (List.mem_of_getElem? (i := 142) rfl : _ ∈ tables_1_2)))
theorem wi_15_10 : (Cond.methodLink RX5 181 yX3_bestOrder) ∈ lw_tbl := wt_ (List.mem_of_getElem? (i := 387) (by decide +kernel))
theorem wi_15_11 : (Cond.instanceMethod yX3_bestOrder) ∈ lw_tbl := wt_ (List.mem_of_getElem? (i := 388) (by decide +kernel))
theorem wi_15_12 : (Cond.selects RX3 yX3_bestOrder yX3_bestOrder) ∈ lw_tbl := wt_ (List.mem_of_getElem? (i := 389) (by decide +kernel))
theorem wi_15_13 : (Cond.code yX3_bestOrder cX3_bestOrder 2 (some .int)) ∈ lw_tbl := wt_ (List.mem_append_right _ (List.mem_append_left _ (List.mem_of_getElem? (i := 150) rfl : _ ∈ tables_1_2)))
theorem wi_15_14 : (Cond.methodLink RX5 235 yX5_makingCost) ∈ lw_tbl := wt_ (List.mem_of_getElem? (i := 391) (by decide +kernel))
theorem wi_15_15 : (Cond.static yX5_makingCost) ∈ lw_tbl := wt_ (List.mem_of_getElem? (i := 392) (by decide +kernel))
theorem wi_15_16 : (Cond.code yX5_makingCost cX5_makingCost 1 (some .long)) ∈ lw_tbl := wt_ (List.mem_append_right _ (List.mem_append_left _ (List.mem_of_getElem? (i := 153) rfl : _ ∈ tables_1_2)))
theorem wi_15_17 : (Cond.constantLong RX5 285 (10)) ∈ lw_tbl := wt_ (List.mem_of_getElem? (i := 394) (by decide +kernel))
theorem wi_15_18 : (Cond.methodLink RX5 176 yJ6_bitCount_0f7a4) ∈ lw_tbl := wt_ (List.mem_of_getElem? (i := 395) (by decide +kernel))
theorem wi_15_19 : (Cond.static yJ6_bitCount_0f7a4) ∈ lw_tbl := wt_ (List.mem_of_getElem? (i := 396) (by decide +kernel))
theorem wi_15_20 : (Cond.initialized RJ6) ∈ lw_tbl := wt_ (List.mem_of_getElem? (i := 16) (by decide +kernel))
theorem wi_15_21 : (Cond.code yJ6_bitCount_0f7a4 cJ6_bitCount_0f7a4 1 (some .int)) ∈ lw_tbl := wt_ (List.mem_append_right _ (List.mem_append_left _ (List.mem_of_getElem? (i := 157) rfl : _ ∈ tables_1_2)))
theorem wi_15_22 : (Cond.constant RJ6 265 (1431655765)) ∈ lw_tbl := wt_ (List.mem_of_getElem? (i := 398) (by decide +kernel))
theorem wi_15_23 : (Cond.constant RJ6 266 (858993459)) ∈ lw_tbl := wt_ (List.mem_of_getElem? (i := 399) (by decide +kernel))
theorem wc_15 : ∀ w ∈ wsL_law_r15, w ∈ lw_tbl := List.forall_mem_cons.mpr ⟨wi_15_0, List.forall_mem_cons.mpr ⟨wi_15_1, List.forall_mem_cons.mpr ⟨wi_15_2, List.forall_mem_cons.mpr ⟨wi_15_3, List.forall_mem_cons.mpr ⟨wi_15_4, List.forall_mem_cons.mpr ⟨wi_15_5, List.forall_mem_cons.mpr ⟨wi_15_6, List.forall_mem_cons.mpr ⟨wi_15_7, List.forall_mem_cons.mpr ⟨wi_15_8, List.forall_mem_cons.mpr ⟨wi_15_9, List.forall_mem_cons.mpr ⟨wi_15_10, List.forall_mem_cons.mpr ⟨wi_15_11, List.forall_mem_cons.mpr ⟨wi_15_12, List.forall_mem_cons.mpr ⟨wi_15_13, List.forall_mem_cons.mpr ⟨wi_15_14, List.forall_mem_cons.mpr ⟨wi_15_15, List.forall_mem_cons.mpr ⟨wi_15_16, List.forall_mem_cons.mpr ⟨wi_15_17, List.forall_mem_cons.mpr ⟨wi_15_18, List.forall_mem_cons.mpr ⟨wi_15_19, List.forall_mem_cons.mpr ⟨wi_15_20, List.forall_mem_cons.mpr ⟨wi_15_21, List.forall_mem_cons.mpr ⟨wi_15_22, List.forall_mem_cons.mpr ⟨wi_15_23, (fun _ h => absurd h List.not_mem_nil)⟩⟩⟩⟩⟩⟩⟩⟩⟩⟩⟩⟩⟩⟩⟩⟩⟩⟩⟩⟩⟩⟩⟩⟩
theorem wi_16_0 : (Cond.constant RJ6 267 (252645135)) ∈ lw_tbl := wt_ (List.mem_of_getElem? (i := 400) (by decide +kernel))
theorem wi_16_1 : (Cond.methodLink RX5 262 yX4_keepNew) ∈ lw_tbl := wt_ (List.mem_of_getElem? (i := 401) (by decide +kernel))
theorem wi_16_2 : (Cond.instanceMethod yX4_keepNew) ∈ lw_tbl := wt_ (List.mem_of_getElem? (i := 402) (by decide +kernel))
theorem wi_16_3 : (Cond.selects RX4 yX4_keepNew yX4_keepNew) ∈ lw_tbl := wt_ (List.mem_of_getElem? (i := 403) (by decide +kernel))
theorem wi_16_4 : (Cond.code yX4_keepNew cX4_keepNew 5 none) ∈ lw_tbl := wt_ (List.mem_append_right _ (List.mem_append_left _ (List.mem_of_getElem? (i := 164) rfl : _ ∈ tables_1_2)))
theorem wi_16_5 : (Cond.methodLink RX4 108 ⟨"[I", "clone", "()Ljava/lang/Object;"⟩) ∈ lw_tbl := wt_ (List.mem_of_getElem? (i := 409) (by decide +kernel))
theorem wi_16_6 : (Cond.sameMethod "[I" "java/lang/Object" "clone" "()Ljava/lang/Object;") ∈ lw_tbl := wt_ (List.mem_of_getElem? (i := 410) (by decide +kernel))
theorem wi_16_7 : (Cond.native ⟨"java/lang/Object", "clone", "()Ljava/lang/Object;"⟩) ∈ lw_tbl := wt_ (List.mem_of_getElem? (i := 411) (by decide +kernel))
theorem wi_16_8 : (Cond.instanceMethod ⟨"java/lang/Object", "clone", "()Ljava/lang/Object;"⟩) ∈ lw_tbl := wt_ (List.mem_of_getElem? (i := 412) (by decide +kernel))
theorem wi_16_9 : (Cond.selects "[I" ⟨"[I", "clone", "()Ljava/lang/Object;"⟩ ⟨"java/lang/Object", "clone", "()Ljava/lang/Object;"⟩) ∈ lw_tbl := wt_ (List.mem_of_getElem? (i := 413) (by decide +kernel))
theorem wi_16_10 : (Cond.classLink RX4 109 "[I") ∈ lw_tbl := wt_ (List.mem_of_getElem? (i := 415) (by decide +kernel))
theorem wi_16_11 : (Cond.methodLink RX4 104 yX4_pushOneOut) ∈ lw_tbl := wt_ (List.mem_of_getElem? (i := 405) (by decide +kernel))
theorem wi_16_12 : (Cond.instanceMethod yX4_pushOneOut) ∈ lw_tbl := wt_ (List.mem_of_getElem? (i := 407) (by decide +kernel))
theorem wi_16_13 : (Cond.selects RX4 yX4_pushOneOut yX4_pushOneOut) ∈ lw_tbl := wp_ (List.mem_of_getElem? (i := 8) (by decide +kernel))
theorem wi_16_14 : (Cond.code yX4_pushOneOut cX4_pushOneOut 2 (some .boolean)) ∈ lw_tbl := wt_ (List.mem_append_right _ (List.mem_append_left _ (List.mem_of_getElem? (i := 168) rfl : _ ∈ tables_1_2)))
theorem wi_16_15 : (Cond.methodLink RX5 191 yX3_costOf) ∈ lw_tbl := wt_ (List.mem_of_getElem? (i := 416) (by decide +kernel))
theorem wi_16_16 : (Cond.instanceMethod yX3_costOf) ∈ lw_tbl := wt_ (List.mem_of_getElem? (i := 417) (by decide +kernel))
theorem wi_16_17 : (Cond.selects RX3 yX3_costOf yX3_costOf) ∈ lw_tbl := wt_ (List.mem_of_getElem? (i := 418) (by decide +kernel))
theorem wi_16_18 : (Cond.code yX3_costOf cX3_costOf 8 (some .long)) ∈ lw_tbl := wt_ (List.mem_append_right _ (List.mem_append_left _ (List.mem_of_getElem? (i := 179) rfl : _ ∈ tables_1_2)))
theorem wi_16_19 : (Cond.methodLink RX3 65 yJ6_bitCount_0f7a4) ∈ lw_tbl := wt_ (List.mem_of_getElem? (i := 420) (by decide +kernel))
theorem wi_16_20 : (Cond.static yX5_tableAt) ∈ lw_tbl := wt_ (List.mem_of_getElem? (i := 422) (by decide +kernel))
theorem wi_16_21 : (Cond.code yX5_tableAt cX5_tableAt 3 (some .int)) ∈ lw_tbl := wt_ (List.mem_append_right _ (List.mem_append_left _ (List.mem_of_getElem? (i := 183) rfl : _ ∈ tables_1_2)))
theorem wi_16_22 : (Cond.methodLink RX3 58 yX3_sizeOf) ∈ lw_tbl := wt_ (List.mem_of_getElem? (i := 424) (by decide +kernel))
theorem wi_16_23 : (Cond.instanceMethod yX3_sizeOf) ∈ lw_tbl := wt_ (List.mem_of_getElem? (i := 425) (by decide +kernel))
theorem wc_16 : ∀ w ∈ wsL_law_r16, w ∈ lw_tbl := List.forall_mem_cons.mpr ⟨wi_16_0, List.forall_mem_cons.mpr ⟨wi_16_1, List.forall_mem_cons.mpr ⟨wi_16_2, List.forall_mem_cons.mpr ⟨wi_16_3, List.forall_mem_cons.mpr ⟨wi_16_4, List.forall_mem_cons.mpr ⟨wi_16_5, List.forall_mem_cons.mpr ⟨wi_16_6, List.forall_mem_cons.mpr ⟨wi_16_7, List.forall_mem_cons.mpr ⟨wi_16_8, List.forall_mem_cons.mpr ⟨wi_16_9, List.forall_mem_cons.mpr ⟨wi_16_10, List.forall_mem_cons.mpr ⟨wi_16_11, List.forall_mem_cons.mpr ⟨wi_16_12, List.forall_mem_cons.mpr ⟨wi_16_13, List.forall_mem_cons.mpr ⟨wi_16_14, List.forall_mem_cons.mpr ⟨wi_16_15, List.forall_mem_cons.mpr ⟨wi_16_16, List.forall_mem_cons.mpr ⟨wi_16_17, List.forall_mem_cons.mpr ⟨wi_16_18, List.forall_mem_cons.mpr ⟨wi_16_19, List.forall_mem_cons.mpr ⟨wi_16_20, List.forall_mem_cons.mpr ⟨wi_16_21, List.forall_mem_cons.mpr ⟨wi_16_22, List.forall_mem_cons.mpr ⟨wi_16_23, (fun _ h => absurd h List.not_mem_nil)⟩⟩⟩⟩⟩⟩⟩⟩⟩⟩⟩⟩⟩⟩⟩⟩⟩⟩⟩⟩⟩⟩⟩⟩
theorem wi_17_0 : (Cond.selects RX3 yX3_sizeOf yX3_sizeOf) ∈ lw_tbl := wt_ (List.mem_of_getElem? (i := 426) (by decide +kernel))
theorem wi_17_1 : (Cond.code yX3_sizeOf cX3_sizeOf 2 (some .long)) ∈ lw_tbl := wt_ (List.mem_append_right _ (List.mem_append_left _ (List.mem_of_getElem? (i := 187) rfl : _ ∈ tables_1_2)))
theorem wi_17_2 : (Cond.methodLink RX5 83 yX5_told) ∈ lw_tbl := wt_ (List.mem_of_getElem? (i := 428) (by decide +kernel))
theorem wi_17_3 : (Cond.static yX5_told) ∈ lw_tbl := wt_ (List.mem_of_getElem? (i := 429) (by decide +kernel))
theorem wi_17_4 : (Cond.code yX5_told cX5_told 2 (some .int)) ∈ lw_tbl := wt_ (List.mem_append_right _ (List.mem_append_left _ (List.mem_of_getElem? (i := 190) rfl : _ ∈ tables_1_2)))
theorem wi_17_5 : (Cond.constantLong RX5 279 (1000000000)) ∈ lw_tbl := wt_ (List.mem_of_getElem? (i := 431) (by decide +kernel))
theorem wi_17_6 : (Cond.methodLink RX5 281 Lib.MathLoose.min_long.x) ∈ lw_tbl := wt_ (List.mem_of_getElem? (i := 432) (by decide +kernel))
theorem wi_17_7 : (Cond.static Lib.MathLoose.min_long.x) ∈ lw_tbl := wt_ (List.mem_of_getElem? (i := 433) (by decide +kernel))
theorem wi_17_8 : (Cond.code Lib.MathLoose.min_long.x Lib.MathLoose.min_long.code 4 (some .long)) ∈ lw_tbl := wt_ (List.mem_append_right _ (List.mem_append_left _ (List.mem_of_getElem? (i := 194) rfl : _ ∈ tables_1_2)))
theorem wi_17_9 : (Cond.methodLink RL 31 yX6_run) ∈ lw_tbl := wt_ (List.mem_of_getElem? (i := 768) (by decide +kernel))
theorem wi_17_10 : (Cond.instanceMethod yX6_run) ∈ lw_tbl := wt_ (List.mem_of_getElem? (i := 769) (by decide +kernel))
theorem wi_17_11 : (Cond.selects RX6 yX6_run yX6_run) ∈ lw_tbl := wt_ (List.mem_of_getElem? (i := 770) (by decide +kernel))
theorem wi_17_12 : (Cond.code yX6_run cX6_run 2 (some .int)) ∈ lw_tbl := wt_ (List.mem_append_right _ (List.mem_append_right _ (List.mem_append_right _ (List.mem_append_left _ (List.mem_of_getElem? (i := 51) rfl : _ ∈ tables_1_4)))))
theorem wi_17_13 : (Cond.methodLink RX6 142 yX6_isSet) ∈ lw_tbl := wt_ (List.mem_of_getElem? (i := 772) (by decide +kernel))
theorem wi_17_14 : (Cond.static yX6_isSet) ∈ lw_tbl := wt_ (List.mem_of_getElem? (i := 773) (by decide +kernel))
theorem wi_17_15 : (Cond.code yX6_isSet cX6_isSet 1 (some .boolean)) ∈ lw_tbl := wt_ (List.mem_append_right _ (List.mem_append_right _ (List.mem_append_right _ (List.mem_append_left _ (List.mem_of_getElem? (i := 54) rfl : _ ∈ tables_1_4)))))
theorem wi_17_16 : (Cond.methodLink RX6 145 yX6_runsOf) ∈ lw_tbl := wt_ (List.mem_of_getElem? (i := 775) (by decide +kernel))
theorem wi_17_17 : (Cond.instanceMethod yX6_runsOf) ∈ lw_tbl := wt_ (List.mem_of_getElem? (i := 777) (by decide +kernel))
theorem wi_17_18 : (Cond.selects RX6 yX6_runsOf yX6_runsOf) ∈ lw_tbl := wp_ (List.mem_of_getElem? (i := 20) (by decide +kernel))
theorem wi_17_19 : (Cond.code yX6_runsOf cX6_runsOf 8 (some .long)) ∈ lw_tbl := wt_ (List.mem_append_right _ (List.mem_append_right _ (List.mem_append_right _ (List.mem_append_left _ (List.mem_of_getElem? (i := 58) rfl : _ ∈ tables_1_4)))))
theorem wi_17_20 : (Cond.constantLong RX6 134 (10)) ∈ lw_tbl := wt_ (List.mem_of_getElem? (i := 783) (by decide +kernel))
theorem wi_17_21 : (Cond.methodLink RX6 122 yX6_slotOf) ∈ lw_tbl := wt_ (List.mem_of_getElem? (i := 779) (by decide +kernel))
theorem wi_17_22 : (Cond.instanceMethod yX6_slotOf) ∈ lw_tbl := wt_ (List.mem_of_getElem? (i := 781) (by decide +kernel))
theorem wi_17_23 : (Cond.selects RX6 yX6_slotOf yX6_slotOf) ∈ lw_tbl := wp_ (List.mem_of_getElem? (i := 21) (by decide +kernel))
theorem wc_17 : ∀ w ∈ wsL_law_r17, w ∈ lw_tbl := List.forall_mem_cons.mpr ⟨wi_17_0, List.forall_mem_cons.mpr ⟨wi_17_1, List.forall_mem_cons.mpr ⟨wi_17_2, List.forall_mem_cons.mpr ⟨wi_17_3, List.forall_mem_cons.mpr ⟨wi_17_4, List.forall_mem_cons.mpr ⟨wi_17_5, List.forall_mem_cons.mpr ⟨wi_17_6, List.forall_mem_cons.mpr ⟨wi_17_7, List.forall_mem_cons.mpr ⟨wi_17_8, List.forall_mem_cons.mpr ⟨wi_17_9, List.forall_mem_cons.mpr ⟨wi_17_10, List.forall_mem_cons.mpr ⟨wi_17_11, List.forall_mem_cons.mpr ⟨wi_17_12, List.forall_mem_cons.mpr ⟨wi_17_13, List.forall_mem_cons.mpr ⟨wi_17_14, List.forall_mem_cons.mpr ⟨wi_17_15, List.forall_mem_cons.mpr ⟨wi_17_16, List.forall_mem_cons.mpr ⟨wi_17_17, List.forall_mem_cons.mpr ⟨wi_17_18, List.forall_mem_cons.mpr ⟨wi_17_19, List.forall_mem_cons.mpr ⟨wi_17_20, List.forall_mem_cons.mpr ⟨wi_17_21, List.forall_mem_cons.mpr ⟨wi_17_22, List.forall_mem_cons.mpr ⟨wi_17_23, (fun _ h => absurd h List.not_mem_nil)⟩⟩⟩⟩⟩⟩⟩⟩⟩⟩⟩⟩⟩⟩⟩⟩⟩⟩⟩⟩⟩⟩⟩⟩
theorem wi_18_0 : (Cond.code yX6_slotOf cX6_slotOf 3 (some .int)) ∈ lw_tbl := wt_ (List.mem_append_right _ (List.mem_append_right _ (List.mem_append_right _ (List.mem_append_left _ (List.mem_of_getElem? (i := 62) rfl : _ ∈ tables_1_4)))))
theorem wi_18_1 : (Cond.methodLink RX6 94 yX6_tablesIn) ∈ lw_tbl := wt_ (List.mem_of_getElem? (i := 784) (by decide +kernel))
theorem wi_18_2 : (Cond.static yX6_tablesIn) ∈ lw_tbl := wt_ (List.mem_of_getElem? (i := 785) (by decide +kernel))
theorem wi_18_3 : (Cond.code yX6_tablesIn cX6_tablesIn 3 (some .int)) ∈ lw_tbl := wt_ (List.mem_append_right _ (List.mem_append_right _ (List.mem_append_right _ (List.mem_append_left _ (List.mem_of_getElem? (i := 66) rfl : _ ∈ tables_1_4)))))
theorem wi_18_4 : (Cond.methodLink RX6 136 yX6_makes) ∈ lw_tbl := wt_ (List.mem_of_getElem? (i := 787) (by decide +kernel))
theorem wi_18_5 : (Cond.instanceMethod yX6_makes) ∈ lw_tbl := wt_ (List.mem_of_getElem? (i := 789) (by decide +kernel))
theorem wi_18_6 : (Cond.selects RX6 yX6_makes yX6_makes) ∈ lw_tbl := wp_ (List.mem_of_getElem? (i := 22) (by decide +kernel))
theorem wi_18_7 : (Cond.code yX6_makes cX6_makes 8 (some .long)) ∈ lw_tbl := wt_ (List.mem_append_right _ (List.mem_append_right _ (List.mem_append_right _ (List.mem_append_left _ (List.mem_of_getElem? (i := 70) rfl : _ ∈ tables_1_4)))))
theorem wi_18_8 : (Cond.fieldLink RX6 69 "DriftPlansModel" "many" "I") ∈ lw_tbl := wt_ (List.mem_of_getElem? (i := 673) (by decide +kernel))
theorem wi_18_9 : (Cond.methodLink RX6 125 yX6_finds) ∈ lw_tbl := wt_ (List.mem_of_getElem? (i := 791) (by decide +kernel))
theorem wi_18_10 : (Cond.instanceMethod yX6_finds) ∈ lw_tbl := wt_ (List.mem_of_getElem? (i := 793) (by decide +kernel))
theorem wi_18_11 : (Cond.selects RX6 yX6_finds yX6_finds) ∈ lw_tbl := wp_ (List.mem_of_getElem? (i := 23) (by decide +kernel))
theorem wi_18_12 : (Cond.code yX6_finds cX6_finds 9 (some .long)) ∈ lw_tbl := wt_ (List.mem_append_right _ (List.mem_append_right _ (List.mem_append_right _ (List.mem_append_left _ (List.mem_of_getElem? (i := 74) rfl : _ ∈ tables_1_4)))))
theorem wi_18_13 : (Cond.constantLong RX6 80 (-1)) ∈ lw_tbl := wt_ (List.mem_of_getElem? (i := 795) (by decide +kernel))
theorem wi_18_14 : (Cond.methodLink RX6 82 yX6_costOf) ∈ lw_tbl := wt_ (List.mem_of_getElem? (i := 796) (by decide +kernel))
theorem wi_18_15 : (Cond.instanceMethod yX6_costOf) ∈ lw_tbl := wt_ (List.mem_of_getElem? (i := 798) (by decide +kernel))
theorem wi_18_16 : (Cond.selects RX6 yX6_costOf yX6_costOf) ∈ lw_tbl := wp_ (List.mem_of_getElem? (i := 24) (by decide +kernel))
theorem wi_18_17 : (Cond.code yX6_costOf cX6_costOf 6 (some .long)) ∈ lw_tbl := wt_ (List.mem_append_right _ (List.mem_append_right _ (List.mem_append_right _ (List.mem_append_left _ (List.mem_of_getElem? (i := 79) rfl : _ ∈ tables_1_4)))))
theorem wi_18_18 : (Cond.methodLink RX6 72 yX6_sizeOf) ∈ lw_tbl := wt_ (List.mem_of_getElem? (i := 800) (by decide +kernel))
theorem wi_18_19 : (Cond.instanceMethod yX6_sizeOf) ∈ lw_tbl := wt_ (List.mem_of_getElem? (i := 802) (by decide +kernel))
theorem wi_18_20 : (Cond.selects RX6 yX6_sizeOf yX6_sizeOf) ∈ lw_tbl := wp_ (List.mem_of_getElem? (i := 25) (by decide +kernel))
theorem wi_18_21 : (Cond.code yX6_sizeOf cX6_sizeOf 7 (some .long)) ∈ lw_tbl := wt_ (List.mem_append_right _ (List.mem_append_right _ (List.mem_append_right _ (List.mem_append_left _ (List.mem_of_getElem? (i := 83) rfl : _ ∈ tables_1_4)))))
theorem wi_18_22 : (Cond.constantLong RX6 67 (100)) ∈ lw_tbl := wt_ (List.mem_of_getElem? (i := 804) (by decide +kernel))
theorem wi_18_23 : (Cond.methodLink RX6 86 yX6_hasNext) ∈ lw_tbl := wt_ (List.mem_of_getElem? (i := 805) (by decide +kernel))
theorem wc_18 : ∀ w ∈ wsL_law_r18, w ∈ lw_tbl := List.forall_mem_cons.mpr ⟨wi_18_0, List.forall_mem_cons.mpr ⟨wi_18_1, List.forall_mem_cons.mpr ⟨wi_18_2, List.forall_mem_cons.mpr ⟨wi_18_3, List.forall_mem_cons.mpr ⟨wi_18_4, List.forall_mem_cons.mpr ⟨wi_18_5, List.forall_mem_cons.mpr ⟨wi_18_6, List.forall_mem_cons.mpr ⟨wi_18_7, List.forall_mem_cons.mpr ⟨wi_18_8, List.forall_mem_cons.mpr ⟨wi_18_9, List.forall_mem_cons.mpr ⟨wi_18_10, List.forall_mem_cons.mpr ⟨wi_18_11, List.forall_mem_cons.mpr ⟨wi_18_12, List.forall_mem_cons.mpr ⟨wi_18_13, List.forall_mem_cons.mpr ⟨wi_18_14, List.forall_mem_cons.mpr ⟨wi_18_15, List.forall_mem_cons.mpr ⟨wi_18_16, List.forall_mem_cons.mpr ⟨wi_18_17, List.forall_mem_cons.mpr ⟨wi_18_18, List.forall_mem_cons.mpr ⟨wi_18_19, List.forall_mem_cons.mpr ⟨wi_18_20, List.forall_mem_cons.mpr ⟨wi_18_21, List.forall_mem_cons.mpr ⟨wi_18_22, List.forall_mem_cons.mpr ⟨wi_18_23, (fun _ h => absurd h List.not_mem_nil)⟩⟩⟩⟩⟩⟩⟩⟩⟩⟩⟩⟩⟩⟩⟩⟩⟩⟩⟩⟩⟩⟩⟩⟩
theorem wi_19_0 : (Cond.instanceMethod yX6_hasNext) ∈ lw_tbl := wt_ (List.mem_of_getElem? (i := 807) (by decide +kernel))
theorem wi_19_1 : (Cond.selects RX6 yX6_hasNext yX6_hasNext) ∈ lw_tbl := wp_ (List.mem_of_getElem? (i := 26) (by decide +kernel))
theorem wi_19_2 : (Cond.code yX6_hasNext cX6_hasNext 5 (some .boolean)) ∈ lw_tbl := wt_ (List.mem_append_right _ (List.mem_append_right _ (List.mem_append_right _ (List.mem_append_left _ (List.mem_of_getElem? (i := 88) rfl : _ ∈ tables_1_4)))))
theorem wi_19_3 : (Cond.methodLink RX6 76 yX6_swaps) ∈ lw_tbl := wt_ (List.mem_of_getElem? (i := 809) (by decide +kernel))
theorem wi_19_4 : (Cond.instanceMethod yX6_swaps) ∈ lw_tbl := wt_ (List.mem_of_getElem? (i := 811) (by decide +kernel))
theorem wi_19_5 : (Cond.selects RX6 yX6_swaps yX6_swaps) ∈ lw_tbl := wp_ (List.mem_of_getElem? (i := 27) (by decide +kernel))
theorem wi_19_6 : (Cond.code yX6_swaps cX6_swaps 4 none) ∈ lw_tbl := wt_ (List.mem_append_right _ (List.mem_append_right _ (List.mem_append_right _ (List.mem_append_left _ (List.mem_of_getElem? (i := 92) rfl : _ ∈ tables_1_4)))))
theorem wi_19_7 : (Cond.methodLink RX6 128 yX6_slotFor) ∈ lw_tbl := wt_ (List.mem_of_getElem? (i := 813) (by decide +kernel))
theorem wi_19_8 : (Cond.instanceMethod yX6_slotFor) ∈ lw_tbl := wt_ (List.mem_of_getElem? (i := 815) (by decide +kernel))
theorem wi_19_9 : (Cond.selects RX6 yX6_slotFor yX6_slotFor) ∈ lw_tbl := wp_ (List.mem_of_getElem? (i := 28) (by decide +kernel))
theorem wi_19_10 : (Cond.code yX6_slotFor cX6_slotFor 4 (some .int)) ∈ lw_tbl := wt_ (List.mem_append_right _ (List.mem_append_right _ (List.mem_append_right _ (List.mem_append_left _ (List.mem_of_getElem? (i := 96) rfl : _ ∈ tables_1_4)))))
theorem wi_19_11 : (Cond.methodLink RX6 139 yX6_uses) ∈ lw_tbl := wt_ (List.mem_of_getElem? (i := 817) (by decide +kernel))
theorem wi_19_12 : (Cond.instanceMethod yX6_uses) ∈ lw_tbl := wt_ (List.mem_of_getElem? (i := 819) (by decide +kernel))
theorem wi_19_13 : (Cond.selects RX6 yX6_uses yX6_uses) ∈ lw_tbl := wp_ (List.mem_of_getElem? (i := 29) (by decide +kernel))
theorem wi_19_14 : (Cond.code yX6_uses cX6_uses 2 (some .long)) ∈ lw_tbl := wt_ (List.mem_append_right _ (List.mem_append_right _ (List.mem_append_right _ (List.mem_append_left _ (List.mem_of_getElem? (i := 100) rfl : _ ∈ tables_1_4)))))
theorem wi_19_15 : (Cond.methodLink RX6 131 yX6_costAt) ∈ lw_tbl := wt_ (List.mem_of_getElem? (i := 821) (by decide +kernel))
theorem wi_19_16 : (Cond.instanceMethod yX6_costAt) ∈ lw_tbl := wt_ (List.mem_of_getElem? (i := 823) (by decide +kernel))
theorem wi_19_17 : (Cond.selects RX6 yX6_costAt yX6_costAt) ∈ lw_tbl := wp_ (List.mem_of_getElem? (i := 30) (by decide +kernel))
theorem wi_19_18 : (Cond.code yX6_costAt cX6_costAt 4 (some .long)) ∈ lw_tbl := wt_ (List.mem_append_right _ (List.mem_append_right _ (List.mem_append_right _ (List.mem_append_left _ (List.mem_of_getElem? (i := 104) rfl : _ ∈ tables_1_4)))))
theorem wi_19_19 : (Cond.methodLink RX6 148 yX6_cut) ∈ lw_tbl := wt_ (List.mem_of_getElem? (i := 825) (by decide +kernel))
theorem wi_19_20 : (Cond.static yX6_cut) ∈ lw_tbl := wt_ (List.mem_of_getElem? (i := 826) (by decide +kernel))
theorem wi_19_21 : (Cond.code yX6_cut cX6_cut 2 (some .int)) ∈ lw_tbl := wt_ (List.mem_append_right _ (List.mem_append_right _ (List.mem_append_right _ (List.mem_append_left _ (List.mem_of_getElem? (i := 107) rfl : _ ∈ tables_1_4)))))
theorem wi_19_22 : (Cond.constantLong RX6 53 (1000000000)) ∈ lw_tbl := wt_ (List.mem_of_getElem? (i := 828) (by decide +kernel))
theorem wi_19_23 : (Cond.methodLink RL 32 yX5_pin) ∈ lw_tbl := wt_ (List.mem_of_getElem? (i := 435) (by decide +kernel))
theorem wc_19 : ∀ w ∈ wsL_law_r19, w ∈ lw_tbl := List.forall_mem_cons.mpr ⟨wi_19_0, List.forall_mem_cons.mpr ⟨wi_19_1, List.forall_mem_cons.mpr ⟨wi_19_2, List.forall_mem_cons.mpr ⟨wi_19_3, List.forall_mem_cons.mpr ⟨wi_19_4, List.forall_mem_cons.mpr ⟨wi_19_5, List.forall_mem_cons.mpr ⟨wi_19_6, List.forall_mem_cons.mpr ⟨wi_19_7, List.forall_mem_cons.mpr ⟨wi_19_8, List.forall_mem_cons.mpr ⟨wi_19_9, List.forall_mem_cons.mpr ⟨wi_19_10, List.forall_mem_cons.mpr ⟨wi_19_11, List.forall_mem_cons.mpr ⟨wi_19_12, List.forall_mem_cons.mpr ⟨wi_19_13, List.forall_mem_cons.mpr ⟨wi_19_14, List.forall_mem_cons.mpr ⟨wi_19_15, List.forall_mem_cons.mpr ⟨wi_19_16, List.forall_mem_cons.mpr ⟨wi_19_17, List.forall_mem_cons.mpr ⟨wi_19_18, List.forall_mem_cons.mpr ⟨wi_19_19, List.forall_mem_cons.mpr ⟨wi_19_20, List.forall_mem_cons.mpr ⟨wi_19_21, List.forall_mem_cons.mpr ⟨wi_19_22, List.forall_mem_cons.mpr ⟨wi_19_23, (fun _ h => absurd h List.not_mem_nil)⟩⟩⟩⟩⟩⟩⟩⟩⟩⟩⟩⟩⟩⟩⟩⟩⟩⟩⟩⟩⟩⟩⟩⟩
theorem wi_20_0 : (Cond.instanceMethod yX5_pin) ∈ lw_tbl := wt_ (List.mem_of_getElem? (i := 436) (by decide +kernel))
theorem wi_20_1 : (Cond.selects RX5 yX5_pin yX5_pin) ∈ lw_tbl := wt_ (List.mem_of_getElem? (i := 437) (by decide +kernel))
theorem wi_20_2 : (Cond.code yX5_pin cX5_pin 4 (some .int)) ∈ lw_tbl := wt_ (List.mem_append_right _ (List.mem_append_left _ (List.mem_of_getElem? (i := 198) rfl : _ ∈ tables_1_2)))
theorem wi_20_3 : (Cond.fieldLink RX5 99 "DriftPlans$Kept" "pinned" "Z") ∈ lw_tbl := wt_ (List.mem_of_getElem? (i := 352) (by decide +kernel))
theorem wi_20_4 : (Cond.methodLink RX5 103 yX4_setPinned) ∈ lw_tbl := wt_ (List.mem_of_getElem? (i := 439) (by decide +kernel))
theorem wi_20_5 : (Cond.instanceMethod yX4_setPinned) ∈ lw_tbl := wt_ (List.mem_of_getElem? (i := 440) (by decide +kernel))
theorem wi_20_6 : (Cond.selects RX4 yX4_setPinned yX4_setPinned) ∈ lw_tbl := wt_ (List.mem_of_getElem? (i := 441) (by decide +kernel))
theorem wi_20_7 : (Cond.code yX4_setPinned cX4_setPinned 4 none) ∈ lw_tbl := wt_ (List.mem_append_right _ (List.mem_append_left _ (List.mem_of_getElem? (i := 202) rfl : _ ∈ tables_1_2)))
theorem wi_20_8 : (Cond.methodLink RX4 97 yJx4a65c_set_bcc79) ∈ lw_tbl := wt_ (List.mem_of_getElem? (i := 443) (by decide +kernel))
theorem wi_20_9 : (Cond.instanceMethod yJx4a65c_set_bcc79) ∈ lw_tbl := wt_ (List.mem_of_getElem? (i := 444) (by decide +kernel))
theorem wi_20_10 : (Cond.selects RJx4a65c yJx4a65c_set_bcc79 yJx4a65c_set_bcc79) ∈ lw_tbl := wt_ (List.mem_of_getElem? (i := 445) (by decide +kernel))
theorem wi_20_11 : (Cond.code yJx4a65c_set_bcc79 cJx4a65c_set_bcc79 4 (some (.object "java/lang/Object"))) ∈ lw_tbl := wt_ (List.mem_append_right _ (List.mem_append_left _ (List.mem_of_getElem? (i := 206) rfl : _ ∈ tables_1_2)))
theorem wi_20_12 : (Cond.methodLink RX5 107 yX4_throwOutDrifted) ∈ lw_tbl := wt_ (List.mem_of_getElem? (i := 447) (by decide +kernel))
theorem wi_20_13 : (Cond.methodLink RL 35 yX6_pin) ∈ lw_tbl := wt_ (List.mem_of_getElem? (i := 829) (by decide +kernel))
theorem wi_20_14 : (Cond.instanceMethod yX6_pin) ∈ lw_tbl := wt_ (List.mem_of_getElem? (i := 830) (by decide +kernel))
theorem wi_20_15 : (Cond.selects RX6 yX6_pin yX6_pin) ∈ lw_tbl := wt_ (List.mem_of_getElem? (i := 831) (by decide +kernel))
theorem wi_20_16 : (Cond.code yX6_pin cX6_pin 4 (some .int)) ∈ lw_tbl := wt_ (List.mem_append_right _ (List.mem_append_right _ (List.mem_append_right _ (List.mem_append_left _ (List.mem_of_getElem? (i := 112) rfl : _ ∈ tables_1_4)))))
theorem wi_20_17 : (Cond.methodLink RL 36 yX5_forget) ∈ lw_tbl := wt_ (List.mem_of_getElem? (i := 448) (by decide +kernel))
theorem wi_20_18 : (Cond.instanceMethod yX5_forget) ∈ lw_tbl := wt_ (List.mem_of_getElem? (i := 449) (by decide +kernel))
theorem wi_20_19 : (Cond.selects RX5 yX5_forget yX5_forget) ∈ lw_tbl := wt_ (List.mem_of_getElem? (i := 450) (by decide +kernel))
theorem wi_20_20 : (Cond.code yX5_forget cX5_forget 3 (some .int)) ∈ lw_tbl := wt_ (List.mem_append_right _ (List.mem_append_left _ (List.mem_of_getElem? (i := 211) rfl : _ ∈ tables_1_2)))
theorem wi_20_21 : (Cond.fieldLink RX5 111 "DriftPlans$State" "forgotten" "J") ∈ lw_tbl := wt_ (List.mem_of_getElem? (i := 86) (by decide +kernel))
theorem wi_20_22 : (Cond.fieldLink RX5 118 "DriftPlans$Kept" "runs" "J") ∈ lw_tbl := wt_ (List.mem_of_getElem? (i := 349) (by decide +kernel))
theorem wi_20_23 : (Cond.methodLink RL 39 yX6_forget) ∈ lw_tbl := wt_ (List.mem_of_getElem? (i := 833) (by decide +kernel))
theorem wc_20 : ∀ w ∈ wsL_law_r20, w ∈ lw_tbl := List.forall_mem_cons.mpr ⟨wi_20_0, List.forall_mem_cons.mpr ⟨wi_20_1, List.forall_mem_cons.mpr ⟨wi_20_2, List.forall_mem_cons.mpr ⟨wi_20_3, List.forall_mem_cons.mpr ⟨wi_20_4, List.forall_mem_cons.mpr ⟨wi_20_5, List.forall_mem_cons.mpr ⟨wi_20_6, List.forall_mem_cons.mpr ⟨wi_20_7, List.forall_mem_cons.mpr ⟨wi_20_8, List.forall_mem_cons.mpr ⟨wi_20_9, List.forall_mem_cons.mpr ⟨wi_20_10, List.forall_mem_cons.mpr ⟨wi_20_11, List.forall_mem_cons.mpr ⟨wi_20_12, List.forall_mem_cons.mpr ⟨wi_20_13, List.forall_mem_cons.mpr ⟨wi_20_14, List.forall_mem_cons.mpr ⟨wi_20_15, List.forall_mem_cons.mpr ⟨wi_20_16, List.forall_mem_cons.mpr ⟨wi_20_17, List.forall_mem_cons.mpr ⟨wi_20_18, List.forall_mem_cons.mpr ⟨wi_20_19, List.forall_mem_cons.mpr ⟨wi_20_20, List.forall_mem_cons.mpr ⟨wi_20_21, List.forall_mem_cons.mpr ⟨wi_20_22, List.forall_mem_cons.mpr ⟨wi_20_23, (fun _ h => absurd h List.not_mem_nil)⟩⟩⟩⟩⟩⟩⟩⟩⟩⟩⟩⟩⟩⟩⟩⟩⟩⟩⟩⟩⟩⟩⟩⟩
theorem wi_21_0 : (Cond.instanceMethod yX6_forget) ∈ lw_tbl := wt_ (List.mem_of_getElem? (i := 834) (by decide +kernel))
theorem wi_21_1 : (Cond.selects RX6 yX6_forget yX6_forget) ∈ lw_tbl := wt_ (List.mem_of_getElem? (i := 835) (by decide +kernel))
theorem wi_21_2 : (Cond.code yX6_forget cX6_forget 4 (some .int)) ∈ lw_tbl := wt_ (List.mem_append_right _ (List.mem_append_right _ (List.mem_append_right _ (List.mem_append_left _ (List.mem_of_getElem? (i := 116) rfl : _ ∈ tables_1_4)))))
theorem wi_21_3 : (Cond.methodLink RL 40 yX5_drift) ∈ lw_tbl := wt_ (List.mem_of_getElem? (i := 452) (by decide +kernel))
theorem wi_21_4 : (Cond.instanceMethod yX5_drift) ∈ lw_tbl := wt_ (List.mem_of_getElem? (i := 453) (by decide +kernel))
theorem wi_21_5 : (Cond.selects RX5 yX5_drift yX5_drift) ∈ lw_tbl := wt_ (List.mem_of_getElem? (i := 454) (by decide +kernel))
theorem wi_21_6 : (Cond.code yX5_drift cX5_drift 2 (some .int)) ∈ lw_tbl := wt_ (List.mem_append_right _ (List.mem_append_left _ (List.mem_of_getElem? (i := 215) rfl : _ ∈ tables_1_2)))
theorem wi_21_7 : (Cond.fieldLink RX5 121 "DriftPlans$State" "driftLimit" "I") ∈ lw_tbl := wt_ (List.mem_of_getElem? (i := 70) (by decide +kernel))
theorem wi_21_8 : (Cond.methodLink RL 43 yX6_drift) ∈ lw_tbl := wt_ (List.mem_of_getElem? (i := 837) (by decide +kernel))
theorem wi_21_9 : (Cond.instanceMethod yX6_drift) ∈ lw_tbl := wt_ (List.mem_of_getElem? (i := 838) (by decide +kernel))
theorem wi_21_10 : (Cond.selects RX6 yX6_drift yX6_drift) ∈ lw_tbl := wt_ (List.mem_of_getElem? (i := 839) (by decide +kernel))
theorem wi_21_11 : (Cond.code yX6_drift cX6_drift 2 (some .int)) ∈ lw_tbl := wt_ (List.mem_append_right _ (List.mem_append_right _ (List.mem_append_right _ (List.mem_append_left _ (List.mem_of_getElem? (i := 120) rfl : _ ∈ tables_1_4)))))
theorem wi_21_12 : (Cond.methodLink RL 44 yX5_append) ∈ lw_tbl := wt_ (List.mem_of_getElem? (i := 456) (by decide +kernel))
theorem wi_21_13 : (Cond.instanceMethod yX5_append) ∈ lw_tbl := wt_ (List.mem_of_getElem? (i := 457) (by decide +kernel))
theorem wi_21_14 : (Cond.selects RX5 yX5_append yX5_append) ∈ lw_tbl := wt_ (List.mem_of_getElem? (i := 458) (by decide +kernel))
theorem wi_21_15 : (Cond.code yX5_append cX5_append 2 (some .int)) ∈ lw_tbl := wt_ (List.mem_append_right _ (List.mem_append_left _ (List.mem_of_getElem? (i := 219) rfl : _ ∈ tables_1_2)))
theorem wi_21_16 : (Cond.fieldLink RX5 128 "DriftPlans$Pad" "length" "I") ∈ lw_tbl := wt_ (List.mem_of_getElem? (i := 146) (by decide +kernel))
theorem wi_21_17 : (Cond.methodLink RX5 124 yX1_put) ∈ lw_tbl := wt_ (List.mem_of_getElem? (i := 460) (by decide +kernel))
theorem wi_21_18 : (Cond.instanceMethod yX1_put) ∈ lw_tbl := wt_ (List.mem_of_getElem? (i := 461) (by decide +kernel))
theorem wi_21_19 : (Cond.selects RX1 yX1_put yX1_put) ∈ lw_tbl := wt_ (List.mem_of_getElem? (i := 462) (by decide +kernel))
theorem wi_21_20 : (Cond.code yX1_put cX1_put 2 (some .boolean)) ∈ lw_tbl := wt_ (List.mem_append_right _ (List.mem_append_left _ (List.mem_of_getElem? (i := 223) rfl : _ ∈ tables_1_2)))
theorem wi_21_21 : (Cond.methodLink RL 47 yX6_append) ∈ lw_tbl := wt_ (List.mem_of_getElem? (i := 841) (by decide +kernel))
theorem wi_21_22 : (Cond.instanceMethod yX6_append) ∈ lw_tbl := wt_ (List.mem_of_getElem? (i := 842) (by decide +kernel))
theorem wi_21_23 : (Cond.selects RX6 yX6_append yX6_append) ∈ lw_tbl := wt_ (List.mem_of_getElem? (i := 843) (by decide +kernel))
theorem wc_21 : ∀ w ∈ wsL_law_r21, w ∈ lw_tbl := List.forall_mem_cons.mpr ⟨wi_21_0, List.forall_mem_cons.mpr ⟨wi_21_1, List.forall_mem_cons.mpr ⟨wi_21_2, List.forall_mem_cons.mpr ⟨wi_21_3, List.forall_mem_cons.mpr ⟨wi_21_4, List.forall_mem_cons.mpr ⟨wi_21_5, List.forall_mem_cons.mpr ⟨wi_21_6, List.forall_mem_cons.mpr ⟨wi_21_7, List.forall_mem_cons.mpr ⟨wi_21_8, List.forall_mem_cons.mpr ⟨wi_21_9, List.forall_mem_cons.mpr ⟨wi_21_10, List.forall_mem_cons.mpr ⟨wi_21_11, List.forall_mem_cons.mpr ⟨wi_21_12, List.forall_mem_cons.mpr ⟨wi_21_13, List.forall_mem_cons.mpr ⟨wi_21_14, List.forall_mem_cons.mpr ⟨wi_21_15, List.forall_mem_cons.mpr ⟨wi_21_16, List.forall_mem_cons.mpr ⟨wi_21_17, List.forall_mem_cons.mpr ⟨wi_21_18, List.forall_mem_cons.mpr ⟨wi_21_19, List.forall_mem_cons.mpr ⟨wi_21_20, List.forall_mem_cons.mpr ⟨wi_21_21, List.forall_mem_cons.mpr ⟨wi_21_22, List.forall_mem_cons.mpr ⟨wi_21_23, (fun _ h => absurd h List.not_mem_nil)⟩⟩⟩⟩⟩⟩⟩⟩⟩⟩⟩⟩⟩⟩⟩⟩⟩⟩⟩⟩⟩⟩⟩⟩
theorem wi_22_0 : (Cond.code yX6_append cX6_append 2 (some .int)) ∈ lw_tbl := wt_ (List.mem_append_right _ (List.mem_append_right _ (List.mem_append_right _ (List.mem_append_left _ (List.mem_of_getElem? (i := 124) rfl : _ ∈ tables_1_4)))))
theorem wi_22_1 : (Cond.fieldLink RX6 152 "DriftPlansModel" "typed" "I") ∈ lw_tbl := wt_ (List.mem_of_getElem? (i := 668) (by decide +kernel))
theorem wi_22_2 : (Cond.methodLink RL 48 yX5_clear) ∈ lw_tbl := wt_ (List.mem_of_getElem? (i := 464) (by decide +kernel))
theorem wi_22_3 : (Cond.instanceMethod yX5_clear) ∈ lw_tbl := wt_ (List.mem_of_getElem? (i := 465) (by decide +kernel))
theorem wi_22_4 : (Cond.selects RX5 yX5_clear yX5_clear) ∈ lw_tbl := wt_ (List.mem_of_getElem? (i := 466) (by decide +kernel))
theorem wi_22_5 : (Cond.code yX5_clear cX5_clear 2 (some .int)) ∈ lw_tbl := wt_ (List.mem_append_right _ (List.mem_append_left _ (List.mem_of_getElem? (i := 227) rfl : _ ∈ tables_1_2)))
theorem wi_22_6 : (Cond.methodLink RL 52 yX6_clear) ∈ lw_tbl := wt_ (List.mem_of_getElem? (i := 845) (by decide +kernel))
theorem wi_22_7 : (Cond.instanceMethod yX6_clear) ∈ lw_tbl := wt_ (List.mem_of_getElem? (i := 846) (by decide +kernel))
theorem wi_22_8 : (Cond.selects RX6 yX6_clear yX6_clear) ∈ lw_tbl := wt_ (List.mem_of_getElem? (i := 847) (by decide +kernel))
theorem wi_22_9 : (Cond.code yX6_clear cX6_clear 2 (some .int)) ∈ lw_tbl := wt_ (List.mem_append_right _ (List.mem_append_right _ (List.mem_append_right _ (List.mem_append_left _ (List.mem_of_getElem? (i := 128) rfl : _ ∈ tables_1_4)))))
theorem wi_22_10 : (Cond.methodLink RL 53 yX5_fault) ∈ lw_tbl := wt_ (List.mem_of_getElem? (i := 468) (by decide +kernel))
theorem wi_22_11 : (Cond.instanceMethod yX5_fault) ∈ lw_tbl := wt_ (List.mem_of_getElem? (i := 469) (by decide +kernel))
theorem wi_22_12 : (Cond.selects RX5 yX5_fault yX5_fault) ∈ lw_tbl := wt_ (List.mem_of_getElem? (i := 470) (by decide +kernel))
theorem wi_22_13 : (Cond.code yX5_fault cX5_fault 2 (some .int)) ∈ lw_tbl := wt_ (List.mem_append_right _ (List.mem_append_left _ (List.mem_of_getElem? (i := 231) rfl : _ ∈ tables_1_2)))
theorem wi_22_14 : (Cond.classLink RX5 131 RX2) ∈ lw_tbl := wt_ (List.mem_of_getElem? (i := 472) (by decide +kernel))
theorem wi_22_15 : (Cond.instantiable RX2 7) ∈ lw_tbl := wt_ (List.mem_of_getElem? (i := 473) (by decide +kernel))
theorem wi_22_16 : (Cond.initialized RX2) ∈ lw_tbl := wt_ (List.mem_of_getElem? (i := 17) (by decide +kernel))
theorem wi_22_17 : (Cond.methodLink RX5 133 yX2_init) ∈ lw_tbl := wt_ (List.mem_of_getElem? (i := 474) (by decide +kernel))
theorem wi_22_18 : (Cond.instanceMethod yX2_init) ∈ lw_tbl := wt_ (List.mem_of_getElem? (i := 475) (by decide +kernel))
theorem wi_22_19 : (Cond.code yX2_init cX2_init 2 none) ∈ lw_tbl := wt_ (List.mem_append_right _ (List.mem_append_left _ (List.mem_of_getElem? (i := 236) rfl : _ ∈ tables_1_2)))
theorem wi_22_20 : (Cond.methodLink RX2 3 objectInit) ∈ lw_tbl := wt_ (List.mem_of_getElem? (i := 477) (by decide +kernel))
theorem wi_22_21 : (Cond.fieldLink RX2 9 "DriftPlans$Reader" "next" "I") ∈ lw_tbl := wt_ (List.mem_of_getElem? (i := 479) (by decide +kernel))
theorem wi_22_22 : (Cond.fieldLink RX2 15 "DriftPlans$Reader" "start" "I") ∈ lw_tbl := wt_ (List.mem_of_getElem? (i := 480) (by decide +kernel))
theorem wi_22_23 : (Cond.fieldLink RX2 18 "DriftPlans$Reader" "letter" "C") ∈ lw_tbl := wt_ (List.mem_of_getElem? (i := 482) (by decide +kernel))
theorem wc_22 : ∀ w ∈ wsL_law_r22, w ∈ lw_tbl := List.forall_mem_cons.mpr ⟨wi_22_0, List.forall_mem_cons.mpr ⟨wi_22_1, List.forall_mem_cons.mpr ⟨wi_22_2, List.forall_mem_cons.mpr ⟨wi_22_3, List.forall_mem_cons.mpr ⟨wi_22_4, List.forall_mem_cons.mpr ⟨wi_22_5, List.forall_mem_cons.mpr ⟨wi_22_6, List.forall_mem_cons.mpr ⟨wi_22_7, List.forall_mem_cons.mpr ⟨wi_22_8, List.forall_mem_cons.mpr ⟨wi_22_9, List.forall_mem_cons.mpr ⟨wi_22_10, List.forall_mem_cons.mpr ⟨wi_22_11, List.forall_mem_cons.mpr ⟨wi_22_12, List.forall_mem_cons.mpr ⟨wi_22_13, List.forall_mem_cons.mpr ⟨wi_22_14, List.forall_mem_cons.mpr ⟨wi_22_15, List.forall_mem_cons.mpr ⟨wi_22_16, List.forall_mem_cons.mpr ⟨wi_22_17, List.forall_mem_cons.mpr ⟨wi_22_18, List.forall_mem_cons.mpr ⟨wi_22_19, List.forall_mem_cons.mpr ⟨wi_22_20, List.forall_mem_cons.mpr ⟨wi_22_21, List.forall_mem_cons.mpr ⟨wi_22_22, List.forall_mem_cons.mpr ⟨wi_22_23, (fun _ h => absurd h List.not_mem_nil)⟩⟩⟩⟩⟩⟩⟩⟩⟩⟩⟩⟩⟩⟩⟩⟩⟩⟩⟩⟩⟩⟩⟩⟩
theorem wi_23_0 : (Cond.fieldLink RX2 22 "DriftPlans$Reader" "tables" "I") ∈ lw_tbl := wt_ (List.mem_of_getElem? (i := 484) (by decide +kernel))
theorem wi_23_1 : (Cond.fieldLink RX2 25 "DriftPlans$Reader" "table" "I") ∈ lw_tbl := wt_ (List.mem_of_getElem? (i := 486) (by decide +kernel))
theorem wi_23_2 : (Cond.fieldLink RX2 28 "DriftPlans$Reader" "number" "I") ∈ lw_tbl := wt_ (List.mem_of_getElem? (i := 488) (by decide +kernel))
theorem wi_23_3 : (Cond.fieldLink RX2 31 "DriftPlans$Reader" "pad" "LDriftPlans$Pad;") ∈ lw_tbl := wt_ (List.mem_of_getElem? (i := 478) (by decide +kernel))
theorem wi_23_4 : (Cond.methodLink RX5 136 yX2_findFault) ∈ lw_tbl := wt_ (List.mem_of_getElem? (i := 505) (by decide +kernel))
theorem wi_23_5 : (Cond.instanceMethod yX2_findFault) ∈ lw_tbl := wt_ (List.mem_of_getElem? (i := 506) (by decide +kernel))
theorem wi_23_6 : (Cond.selects RX2 yX2_findFault yX2_findFault) ∈ lw_tbl := wt_ (List.mem_of_getElem? (i := 507) (by decide +kernel))
theorem wi_23_7 : (Cond.code yX2_findFault cX2_findFault 2 (some .int)) ∈ lw_tbl := wt_ (List.mem_append_right _ (List.mem_append_right _ (List.mem_append_left _ (List.mem_of_getElem? (i := 28) rfl : _ ∈ tables_1_3))))
theorem wi_23_8 : (Cond.fieldLink RX2 39 "DriftPlans$Pad" "length" "I") ∈ lw_tbl := wt_ (List.mem_of_getElem? (i := 145) (by decide +kernel))
theorem wi_23_9 : (Cond.methodLink RX2 35 yX2_readDeed) ∈ lw_tbl := wt_ (List.mem_of_getElem? (i := 509) (by decide +kernel))
theorem wi_23_10 : (Cond.instanceMethod yX2_readDeed) ∈ lw_tbl := wt_ (List.mem_of_getElem? (i := 510) (by decide +kernel))
theorem wi_23_11 : (Cond.selects RX2 yX2_readDeed yX2_readDeed) ∈ lw_tbl := wt_ (List.mem_of_getElem? (i := 511) (by decide +kernel))
theorem wi_23_12 : (Cond.code yX2_readDeed cX2_readDeed 1 (some .boolean)) ∈ lw_tbl := wt_ (List.mem_append_right _ (List.mem_append_right _ (List.mem_append_left _ (List.mem_of_getElem? (i := 32) rfl : _ ∈ tables_1_3))))
theorem wi_23_13 : (Cond.methodLink RX2 48 yX1_signAt) ∈ lw_tbl := wt_ (List.mem_of_getElem? (i := 513) (by decide +kernel))
theorem wi_23_14 : (Cond.instanceMethod yX1_signAt) ∈ lw_tbl := wt_ (List.mem_of_getElem? (i := 514) (by decide +kernel))
theorem wi_23_15 : (Cond.selects RX1 yX1_signAt yX1_signAt) ∈ lw_tbl := wt_ (List.mem_of_getElem? (i := 515) (by decide +kernel))
theorem wi_23_16 : (Cond.code yX1_signAt cX1_signAt 2 (some .char)) ∈ lw_tbl := wt_ (List.mem_append_right _ (List.mem_append_right _ (List.mem_append_left _ (List.mem_of_getElem? (i := 36) rfl : _ ∈ tables_1_3))))
theorem wi_23_17 : (Cond.methodLink RX2 52 yX2_readTables) ∈ lw_tbl := wt_ (List.mem_of_getElem? (i := 517) (by decide +kernel))
theorem wi_23_18 : (Cond.instanceMethod yX2_readTables) ∈ lw_tbl := wt_ (List.mem_of_getElem? (i := 519) (by decide +kernel))
theorem wi_23_19 : (Cond.selects RX2 yX2_readTables yX2_readTables) ∈ lw_tbl := wp_ (List.mem_of_getElem? (i := 9) (by decide +kernel))
theorem wi_23_20 : (Cond.code yX2_readTables cX2_readTables 3 (some .boolean)) ∈ lw_tbl := wt_ (List.mem_append_right _ (List.mem_append_right _ (List.mem_append_left _ (List.mem_of_getElem? (i := 40) rfl : _ ∈ tables_1_3))))
theorem wi_23_21 : (Cond.methodLink RX2 61 yX2_digit) ∈ lw_tbl := wt_ (List.mem_of_getElem? (i := 521) (by decide +kernel))
theorem wi_23_22 : (Cond.instanceMethod yX2_digit) ∈ lw_tbl := wt_ (List.mem_of_getElem? (i := 523) (by decide +kernel))
theorem wi_23_23 : (Cond.selects RX2 yX2_digit yX2_digit) ∈ lw_tbl := wp_ (List.mem_of_getElem? (i := 10) (by decide +kernel))
theorem wc_23 : ∀ w ∈ wsL_law_r23, w ∈ lw_tbl := List.forall_mem_cons.mpr ⟨wi_23_0, List.forall_mem_cons.mpr ⟨wi_23_1, List.forall_mem_cons.mpr ⟨wi_23_2, List.forall_mem_cons.mpr ⟨wi_23_3, List.forall_mem_cons.mpr ⟨wi_23_4, List.forall_mem_cons.mpr ⟨wi_23_5, List.forall_mem_cons.mpr ⟨wi_23_6, List.forall_mem_cons.mpr ⟨wi_23_7, List.forall_mem_cons.mpr ⟨wi_23_8, List.forall_mem_cons.mpr ⟨wi_23_9, List.forall_mem_cons.mpr ⟨wi_23_10, List.forall_mem_cons.mpr ⟨wi_23_11, List.forall_mem_cons.mpr ⟨wi_23_12, List.forall_mem_cons.mpr ⟨wi_23_13, List.forall_mem_cons.mpr ⟨wi_23_14, List.forall_mem_cons.mpr ⟨wi_23_15, List.forall_mem_cons.mpr ⟨wi_23_16, List.forall_mem_cons.mpr ⟨wi_23_17, List.forall_mem_cons.mpr ⟨wi_23_18, List.forall_mem_cons.mpr ⟨wi_23_19, List.forall_mem_cons.mpr ⟨wi_23_20, List.forall_mem_cons.mpr ⟨wi_23_21, List.forall_mem_cons.mpr ⟨wi_23_22, List.forall_mem_cons.mpr ⟨wi_23_23, (fun _ h => absurd h List.not_mem_nil)⟩⟩⟩⟩⟩⟩⟩⟩⟩⟩⟩⟩⟩⟩⟩⟩⟩⟩⟩⟩⟩⟩⟩⟩
theorem wi_24_0 : (Cond.code yX2_digit cX2_digit 1 (some .int)) ∈ lw_tbl := wt_ (List.mem_append_right _ (List.mem_append_right _ (List.mem_append_left _ (List.mem_of_getElem? (i := 44) rfl : _ ∈ tables_1_3))))
theorem wi_24_1 : (Cond.methodLink RX2 55 yX2_readTable) ∈ lw_tbl := wt_ (List.mem_of_getElem? (i := 525) (by decide +kernel))
theorem wi_24_2 : (Cond.instanceMethod yX2_readTable) ∈ lw_tbl := wt_ (List.mem_of_getElem? (i := 527) (by decide +kernel))
theorem wi_24_3 : (Cond.selects RX2 yX2_readTable yX2_readTable) ∈ lw_tbl := wp_ (List.mem_of_getElem? (i := 11) (by decide +kernel))
theorem wi_24_4 : (Cond.code yX2_readTable cX2_readTable 1 (some .boolean)) ∈ lw_tbl := wt_ (List.mem_append_right _ (List.mem_append_right _ (List.mem_append_left _ (List.mem_of_getElem? (i := 48) rfl : _ ∈ tables_1_3))))
theorem wi_24_5 : (Cond.methodLink RX2 44 yX2_readSign) ∈ lw_tbl := wt_ (List.mem_of_getElem? (i := 531) (by decide +kernel))
theorem wi_24_6 : (Cond.instanceMethod yX2_readSign) ∈ lw_tbl := wt_ (List.mem_of_getElem? (i := 532) (by decide +kernel))
theorem wi_24_7 : (Cond.selects RX2 yX2_readSign yX2_readSign) ∈ lw_tbl := wt_ (List.mem_of_getElem? (i := 533) (by decide +kernel))
theorem wi_24_8 : (Cond.code yX2_readSign cX2_readSign 2 (some .boolean)) ∈ lw_tbl := wt_ (List.mem_append_right _ (List.mem_append_right _ (List.mem_append_left _ (List.mem_of_getElem? (i := 54) rfl : _ ∈ tables_1_3))))
theorem wi_24_9 : (Cond.methodLink RX2 58 yX2_readNumber) ∈ lw_tbl := wt_ (List.mem_of_getElem? (i := 535) (by decide +kernel))
theorem wi_24_10 : (Cond.instanceMethod yX2_readNumber) ∈ lw_tbl := wt_ (List.mem_of_getElem? (i := 537) (by decide +kernel))
theorem wi_24_11 : (Cond.selects RX2 yX2_readNumber yX2_readNumber) ∈ lw_tbl := wp_ (List.mem_of_getElem? (i := 12) (by decide +kernel))
theorem wi_24_12 : (Cond.code yX2_readNumber cX2_readNumber 3 (some .boolean)) ∈ lw_tbl := wt_ (List.mem_append_right _ (List.mem_append_right _ (List.mem_append_left _ (List.mem_of_getElem? (i := 58) rfl : _ ∈ tables_1_3))))
theorem wi_24_13 : (Cond.methodLink RL 56 yX6_fault) ∈ lw_tbl := wt_ (List.mem_of_getElem? (i := 849) (by decide +kernel))
theorem wi_24_14 : (Cond.instanceMethod yX6_fault) ∈ lw_tbl := wt_ (List.mem_of_getElem? (i := 850) (by decide +kernel))
theorem wi_24_15 : (Cond.selects RX6 yX6_fault yX6_fault) ∈ lw_tbl := wt_ (List.mem_of_getElem? (i := 851) (by decide +kernel))
theorem wi_24_16 : (Cond.code yX6_fault cX6_fault 2 (some .int)) ∈ lw_tbl := wt_ (List.mem_append_right _ (List.mem_append_right _ (List.mem_append_right _ (List.mem_append_left _ (List.mem_of_getElem? (i := 132) rfl : _ ∈ tables_1_4)))))
theorem wi_24_17 : (Cond.fieldLink RX6 155 "DriftPlansModel" "spot" "I") ∈ lw_tbl := wt_ (List.mem_of_getElem? (i := 675) (by decide +kernel))
theorem wi_24_18 : (Cond.fieldLink RX6 161 "DriftPlansModel" "deeds" "I") ∈ lw_tbl := wt_ (List.mem_of_getElem? (i := 676) (by decide +kernel))
theorem wi_24_19 : (Cond.methodLink RX6 176 yX6_reads) ∈ lw_tbl := wt_ (List.mem_of_getElem? (i := 853) (by decide +kernel))
theorem wi_24_20 : (Cond.instanceMethod yX6_reads) ∈ lw_tbl := wt_ (List.mem_of_getElem? (i := 855) (by decide +kernel))
theorem wi_24_21 : (Cond.selects RX6 yX6_reads yX6_reads) ∈ lw_tbl := wp_ (List.mem_of_getElem? (i := 31) (by decide +kernel))
theorem wi_24_22 : (Cond.code yX6_reads cX6_reads 2 (some .boolean)) ∈ lw_tbl := wt_ (List.mem_append_right _ (List.mem_append_right _ (List.mem_append_right _ (List.mem_append_left _ (List.mem_of_getElem? (i := 136) rfl : _ ∈ tables_1_4)))))
theorem wi_24_23 : (Cond.methodLink RX6 164 yX6_digits) ∈ lw_tbl := wt_ (List.mem_of_getElem? (i := 857) (by decide +kernel))
theorem wc_24 : ∀ w ∈ wsL_law_r24, w ∈ lw_tbl := List.forall_mem_cons.mpr ⟨wi_24_0, List.forall_mem_cons.mpr ⟨wi_24_1, List.forall_mem_cons.mpr ⟨wi_24_2, List.forall_mem_cons.mpr ⟨wi_24_3, List.forall_mem_cons.mpr ⟨wi_24_4, List.forall_mem_cons.mpr ⟨wi_24_5, List.forall_mem_cons.mpr ⟨wi_24_6, List.forall_mem_cons.mpr ⟨wi_24_7, List.forall_mem_cons.mpr ⟨wi_24_8, List.forall_mem_cons.mpr ⟨wi_24_9, List.forall_mem_cons.mpr ⟨wi_24_10, List.forall_mem_cons.mpr ⟨wi_24_11, List.forall_mem_cons.mpr ⟨wi_24_12, List.forall_mem_cons.mpr ⟨wi_24_13, List.forall_mem_cons.mpr ⟨wi_24_14, List.forall_mem_cons.mpr ⟨wi_24_15, List.forall_mem_cons.mpr ⟨wi_24_16, List.forall_mem_cons.mpr ⟨wi_24_17, List.forall_mem_cons.mpr ⟨wi_24_18, List.forall_mem_cons.mpr ⟨wi_24_19, List.forall_mem_cons.mpr ⟨wi_24_20, List.forall_mem_cons.mpr ⟨wi_24_21, List.forall_mem_cons.mpr ⟨wi_24_22, List.forall_mem_cons.mpr ⟨wi_24_23, (fun _ h => absurd h List.not_mem_nil)⟩⟩⟩⟩⟩⟩⟩⟩⟩⟩⟩⟩⟩⟩⟩⟩⟩⟩⟩⟩⟩⟩⟩⟩
theorem wi_25_0 : (Cond.instanceMethod yX6_digits) ∈ lw_tbl := wt_ (List.mem_of_getElem? (i := 859) (by decide +kernel))
theorem wi_25_1 : (Cond.selects RX6 yX6_digits yX6_digits) ∈ lw_tbl := wp_ (List.mem_of_getElem? (i := 32) (by decide +kernel))
theorem wi_25_2 : (Cond.code yX6_digits cX6_digits 3 (some .boolean)) ∈ lw_tbl := wt_ (List.mem_append_right _ (List.mem_append_right _ (List.mem_append_right _ (List.mem_append_left _ (List.mem_of_getElem? (i := 140) rfl : _ ∈ tables_1_4)))))
theorem wi_25_3 : (Cond.methodLink RX6 158 yX6_isAt) ∈ lw_tbl := wt_ (List.mem_of_getElem? (i := 861) (by decide +kernel))
theorem wi_25_4 : (Cond.instanceMethod yX6_isAt) ∈ lw_tbl := wt_ (List.mem_of_getElem? (i := 863) (by decide +kernel))
theorem wi_25_5 : (Cond.selects RX6 yX6_isAt yX6_isAt) ∈ lw_tbl := wp_ (List.mem_of_getElem? (i := 33) (by decide +kernel))
theorem wi_25_6 : (Cond.code yX6_isAt cX6_isAt 3 (some .boolean)) ∈ lw_tbl := wt_ (List.mem_append_right _ (List.mem_append_right _ (List.mem_append_right _ (List.mem_append_left _ (List.mem_of_getElem? (i := 144) rfl : _ ∈ tables_1_4)))))
theorem wi_25_7 : (Cond.methodLink RX6 167 yX6_oneTable) ∈ lw_tbl := wt_ (List.mem_of_getElem? (i := 865) (by decide +kernel))
theorem wi_25_8 : (Cond.instanceMethod yX6_oneTable) ∈ lw_tbl := wt_ (List.mem_of_getElem? (i := 867) (by decide +kernel))
theorem wi_25_9 : (Cond.selects RX6 yX6_oneTable yX6_oneTable) ∈ lw_tbl := wp_ (List.mem_of_getElem? (i := 34) (by decide +kernel))
theorem wi_25_10 : (Cond.code yX6_oneTable cX6_oneTable 2 (some .boolean)) ∈ lw_tbl := wt_ (List.mem_append_right _ (List.mem_append_right _ (List.mem_append_right _ (List.mem_append_left _ (List.mem_of_getElem? (i := 148) rfl : _ ∈ tables_1_4)))))
theorem wi_25_11 : (Cond.methodLink RX6 170 yX6_sign) ∈ lw_tbl := wt_ (List.mem_of_getElem? (i := 869) (by decide +kernel))
theorem wi_25_12 : (Cond.instanceMethod yX6_sign) ∈ lw_tbl := wt_ (List.mem_of_getElem? (i := 871) (by decide +kernel))
theorem wi_25_13 : (Cond.selects RX6 yX6_sign yX6_sign) ∈ lw_tbl := wp_ (List.mem_of_getElem? (i := 35) (by decide +kernel))
theorem wi_25_14 : (Cond.code yX6_sign cX6_sign 3 (some .boolean)) ∈ lw_tbl := wt_ (List.mem_append_right _ (List.mem_append_right _ (List.mem_append_right _ (List.mem_append_left _ (List.mem_of_getElem? (i := 152) rfl : _ ∈ tables_1_4)))))
theorem wi_25_15 : (Cond.methodLink RX6 173 yX6_number) ∈ lw_tbl := wt_ (List.mem_of_getElem? (i := 873) (by decide +kernel))
theorem wi_25_16 : (Cond.instanceMethod yX6_number) ∈ lw_tbl := wt_ (List.mem_of_getElem? (i := 875) (by decide +kernel))
theorem wi_25_17 : (Cond.selects RX6 yX6_number yX6_number) ∈ lw_tbl := wp_ (List.mem_of_getElem? (i := 36) (by decide +kernel))
theorem wi_25_18 : (Cond.code yX6_number cX6_number 2 (some .boolean)) ∈ lw_tbl := wt_ (List.mem_append_right _ (List.mem_append_right _ (List.mem_append_right _ (List.mem_append_left _ (List.mem_of_getElem? (i := 156) rfl : _ ∈ tables_1_4)))))
theorem wi_25_19 : (Cond.methodLink RL 57 yX5_carryOut) ∈ lw_tbl := wt_ (List.mem_of_getElem? (i := 539) (by decide +kernel))
theorem wi_25_20 : (Cond.instanceMethod yX5_carryOut) ∈ lw_tbl := wt_ (List.mem_of_getElem? (i := 540) (by decide +kernel))
theorem wi_25_21 : (Cond.selects RX5 yX5_carryOut yX5_carryOut) ∈ lw_tbl := wt_ (List.mem_of_getElem? (i := 541) (by decide +kernel))
theorem wi_25_22 : (Cond.code yX5_carryOut cX5_carryOut 3 (some .int)) ∈ lw_tbl := wt_ (List.mem_append_right _ (List.mem_append_right _ (List.mem_append_left _ (List.mem_of_getElem? (i := 62) rfl : _ ∈ tables_1_3))))
theorem wi_25_23 : (Cond.fieldLink RX5 150 "DriftPlans$Reader" "start" "I") ∈ lw_tbl := wt_ (List.mem_of_getElem? (i := 481) (by decide +kernel))
theorem wc_25 : ∀ w ∈ wsL_law_r25, w ∈ lw_tbl := List.forall_mem_cons.mpr ⟨wi_25_0, List.forall_mem_cons.mpr ⟨wi_25_1, List.forall_mem_cons.mpr ⟨wi_25_2, List.forall_mem_cons.mpr ⟨wi_25_3, List.forall_mem_cons.mpr ⟨wi_25_4, List.forall_mem_cons.mpr ⟨wi_25_5, List.forall_mem_cons.mpr ⟨wi_25_6, List.forall_mem_cons.mpr ⟨wi_25_7, List.forall_mem_cons.mpr ⟨wi_25_8, List.forall_mem_cons.mpr ⟨wi_25_9, List.forall_mem_cons.mpr ⟨wi_25_10, List.forall_mem_cons.mpr ⟨wi_25_11, List.forall_mem_cons.mpr ⟨wi_25_12, List.forall_mem_cons.mpr ⟨wi_25_13, List.forall_mem_cons.mpr ⟨wi_25_14, List.forall_mem_cons.mpr ⟨wi_25_15, List.forall_mem_cons.mpr ⟨wi_25_16, List.forall_mem_cons.mpr ⟨wi_25_17, List.forall_mem_cons.mpr ⟨wi_25_18, List.forall_mem_cons.mpr ⟨wi_25_19, List.forall_mem_cons.mpr ⟨wi_25_20, List.forall_mem_cons.mpr ⟨wi_25_21, List.forall_mem_cons.mpr ⟨wi_25_22, List.forall_mem_cons.mpr ⟨wi_25_23, (fun _ h => absurd h List.not_mem_nil)⟩⟩⟩⟩⟩⟩⟩⟩⟩⟩⟩⟩⟩⟩⟩⟩⟩⟩⟩⟩⟩⟩⟩⟩
theorem wi_26_0 : (Cond.methodLink RX5 139 yX2_readDeed) ∈ lw_tbl := wt_ (List.mem_of_getElem? (i := 543) (by decide +kernel))
theorem wi_26_1 : (Cond.methodLink RX5 143 yX5_carryOutDeed) ∈ lw_tbl := wt_ (List.mem_of_getElem? (i := 544) (by decide +kernel))
theorem wi_26_2 : (Cond.instanceMethod yX5_carryOutDeed) ∈ lw_tbl := wt_ (List.mem_of_getElem? (i := 546) (by decide +kernel))
theorem wi_26_3 : (Cond.selects RX5 yX5_carryOutDeed yX5_carryOutDeed) ∈ lw_tbl := wp_ (List.mem_of_getElem? (i := 13) (by decide +kernel))
theorem wi_26_4 : (Cond.code yX5_carryOutDeed cX5_carryOutDeed 3 (some .boolean)) ∈ lw_tbl := wt_ (List.mem_append_right _ (List.mem_append_right _ (List.mem_append_left _ (List.mem_of_getElem? (i := 67) rfl : _ ∈ tables_1_3))))
theorem wi_26_5 : (Cond.fieldLink RX5 266 "DriftPlans$Reader" "letter" "C") ∈ lw_tbl := wt_ (List.mem_of_getElem? (i := 483) (by decide +kernel))
theorem wi_26_6 : (Cond.fieldLink RX5 270 "DriftPlans$Reader" "tables" "I") ∈ lw_tbl := wt_ (List.mem_of_getElem? (i := 485) (by decide +kernel))
theorem wi_26_7 : (Cond.fieldLink RX5 273 "DriftPlans$Reader" "table" "I") ∈ lw_tbl := wt_ (List.mem_of_getElem? (i := 487) (by decide +kernel))
theorem wi_26_8 : (Cond.fieldLink RX5 276 "DriftPlans$Reader" "number" "I") ∈ lw_tbl := wt_ (List.mem_of_getElem? (i := 489) (by decide +kernel))
theorem wi_26_9 : (Cond.methodLink RX5 147 yX2_readSign) ∈ lw_tbl := wt_ (List.mem_of_getElem? (i := 548) (by decide +kernel))
theorem wi_26_10 : (Cond.methodLink RL 60 yX6_carryOut) ∈ lw_tbl := wt_ (List.mem_of_getElem? (i := 877) (by decide +kernel))
theorem wi_26_11 : (Cond.instanceMethod yX6_carryOut) ∈ lw_tbl := wt_ (List.mem_of_getElem? (i := 878) (by decide +kernel))
theorem wi_26_12 : (Cond.selects RX6 yX6_carryOut yX6_carryOut) ∈ lw_tbl := wt_ (List.mem_of_getElem? (i := 879) (by decide +kernel))
theorem wi_26_13 : (Cond.code yX6_carryOut cX6_carryOut 2 (some .int)) ∈ lw_tbl := wt_ (List.mem_append_right _ (List.mem_append_right _ (List.mem_append_right _ (List.mem_append_left _ (List.mem_of_getElem? (i := 160) rfl : _ ∈ tables_1_4)))))
theorem wi_26_14 : (Cond.fieldLink RX6 195 "DriftPlansModel" "isStopped" "Z") ∈ lw_tbl := wt_ (List.mem_of_getElem? (i := 669) (by decide +kernel))
theorem wi_26_15 : (Cond.methodLink RX6 192 yX6_fault) ∈ lw_tbl := wt_ (List.mem_of_getElem? (i := 881) (by decide +kernel))
theorem wi_26_16 : (Cond.methodLink RX6 198 yX6_does) ∈ lw_tbl := wt_ (List.mem_of_getElem? (i := 882) (by decide +kernel))
theorem wi_26_17 : (Cond.instanceMethod yX6_does) ∈ lw_tbl := wt_ (List.mem_of_getElem? (i := 884) (by decide +kernel))
theorem wi_26_18 : (Cond.selects RX6 yX6_does yX6_does) ∈ lw_tbl := wp_ (List.mem_of_getElem? (i := 37) (by decide +kernel))
theorem wi_26_19 : (Cond.code yX6_does cX6_does 3 (some .int)) ∈ lw_tbl := wt_ (List.mem_append_right _ (List.mem_append_right _ (List.mem_append_right _ (List.mem_append_left _ (List.mem_of_getElem? (i := 165) rfl : _ ∈ tables_1_4)))))
theorem wi_26_20 : (Cond.methodLink RX6 179 yX6_run) ∈ lw_tbl := wt_ (List.mem_of_getElem? (i := 886) (by decide +kernel))
theorem wi_26_21 : (Cond.methodLink RX6 182 yX6_pins) ∈ lw_tbl := wt_ (List.mem_of_getElem? (i := 887) (by decide +kernel))
theorem wi_26_22 : (Cond.instanceMethod yX6_pins) ∈ lw_tbl := wt_ (List.mem_of_getElem? (i := 889) (by decide +kernel))
theorem wi_26_23 : (Cond.selects RX6 yX6_pins yX6_pins) ∈ lw_tbl := wp_ (List.mem_of_getElem? (i := 38) (by decide +kernel))
theorem wc_26 : ∀ w ∈ wsL_law_r26, w ∈ lw_tbl := List.forall_mem_cons.mpr ⟨wi_26_0, List.forall_mem_cons.mpr ⟨wi_26_1, List.forall_mem_cons.mpr ⟨wi_26_2, List.forall_mem_cons.mpr ⟨wi_26_3, List.forall_mem_cons.mpr ⟨wi_26_4, List.forall_mem_cons.mpr ⟨wi_26_5, List.forall_mem_cons.mpr ⟨wi_26_6, List.forall_mem_cons.mpr ⟨wi_26_7, List.forall_mem_cons.mpr ⟨wi_26_8, List.forall_mem_cons.mpr ⟨wi_26_9, List.forall_mem_cons.mpr ⟨wi_26_10, List.forall_mem_cons.mpr ⟨wi_26_11, List.forall_mem_cons.mpr ⟨wi_26_12, List.forall_mem_cons.mpr ⟨wi_26_13, List.forall_mem_cons.mpr ⟨wi_26_14, List.forall_mem_cons.mpr ⟨wi_26_15, List.forall_mem_cons.mpr ⟨wi_26_16, List.forall_mem_cons.mpr ⟨wi_26_17, List.forall_mem_cons.mpr ⟨wi_26_18, List.forall_mem_cons.mpr ⟨wi_26_19, List.forall_mem_cons.mpr ⟨wi_26_20, List.forall_mem_cons.mpr ⟨wi_26_21, List.forall_mem_cons.mpr ⟨wi_26_22, List.forall_mem_cons.mpr ⟨wi_26_23, (fun _ h => absurd h List.not_mem_nil)⟩⟩⟩⟩⟩⟩⟩⟩⟩⟩⟩⟩⟩⟩⟩⟩⟩⟩⟩⟩⟩⟩⟩⟩
theorem wi_27_0 : (Cond.code yX6_pins cX6_pins 3 (some .int)) ∈ lw_tbl := wt_ (List.mem_append_right _ (List.mem_append_right _ (List.mem_append_right _ (List.mem_append_left _ (List.mem_of_getElem? (i := 170) rfl : _ ∈ tables_1_4)))))
theorem wi_27_1 : (Cond.methodLink RX6 185 yX6_count) ∈ lw_tbl := wt_ (List.mem_of_getElem? (i := 891) (by decide +kernel))
theorem wi_27_2 : (Cond.methodLink RX6 188 yX6_rows) ∈ lw_tbl := wt_ (List.mem_of_getElem? (i := 892) (by decide +kernel))
theorem wi_27_3 : (Cond.methodLink RL 61 yX5_why) ∈ lw_tbl := wt_ (List.mem_of_getElem? (i := 549) (by decide +kernel))
theorem wi_27_4 : (Cond.instanceMethod yX5_why) ∈ lw_tbl := wt_ (List.mem_of_getElem? (i := 550) (by decide +kernel))
theorem wi_27_5 : (Cond.selects RX5 yX5_why yX5_why) ∈ lw_tbl := wt_ (List.mem_of_getElem? (i := 551) (by decide +kernel))
theorem wi_27_6 : (Cond.code yX5_why cX5_why 2 (some .int)) ∈ lw_tbl := wt_ (List.mem_append_right _ (List.mem_append_right _ (List.mem_append_left _ (List.mem_of_getElem? (i := 72) rfl : _ ∈ tables_1_3))))
theorem wi_27_7 : (Cond.methodLink RL 64 yX6_why) ∈ lw_tbl := wt_ (List.mem_of_getElem? (i := 893) (by decide +kernel))
theorem wi_27_8 : (Cond.instanceMethod yX6_why) ∈ lw_tbl := wt_ (List.mem_of_getElem? (i := 894) (by decide +kernel))
theorem wi_27_9 : (Cond.selects RX6 yX6_why yX6_why) ∈ lw_tbl := wt_ (List.mem_of_getElem? (i := 895) (by decide +kernel))
theorem wi_27_10 : (Cond.code yX6_why cX6_why 2 (some .int)) ∈ lw_tbl := wt_ (List.mem_append_right _ (List.mem_append_right _ (List.mem_append_right _ (List.mem_append_left _ (List.mem_of_getElem? (i := 176) rfl : _ ∈ tables_1_4)))))
theorem wi_27_11 : (Cond.methodLink RL 65 yX5_table) ∈ lw_tbl := wt_ (List.mem_of_getElem? (i := 553) (by decide +kernel))
theorem wi_27_12 : (Cond.instanceMethod yX5_table) ∈ lw_tbl := wt_ (List.mem_of_getElem? (i := 554) (by decide +kernel))
theorem wi_27_13 : (Cond.selects RX5 yX5_table yX5_table) ∈ lw_tbl := wt_ (List.mem_of_getElem? (i := 555) (by decide +kernel))
theorem wi_27_14 : (Cond.code yX5_table cX5_table 3 (some .int)) ∈ lw_tbl := wt_ (List.mem_append_right _ (List.mem_append_right _ (List.mem_append_left _ (List.mem_of_getElem? (i := 76) rfl : _ ∈ tables_1_3))))
theorem wi_27_15 : (Cond.methodLink RX5 156 yX5_driftDown) ∈ lw_tbl := wt_ (List.mem_of_getElem? (i := 557) (by decide +kernel))
theorem wi_27_16 : (Cond.static yX5_driftDown) ∈ lw_tbl := wt_ (List.mem_of_getElem? (i := 558) (by decide +kernel))
theorem wi_27_17 : (Cond.code yX5_driftDown cX5_driftDown 3 (some .int)) ∈ lw_tbl := wt_ (List.mem_append_right _ (List.mem_append_right _ (List.mem_append_left _ (List.mem_of_getElem? (i := 79) rfl : _ ∈ tables_1_3))))
theorem wi_27_18 : (Cond.methodLink RX5 287 Lib.Math.min.name) ∈ lw_tbl := wt_ (List.mem_of_getElem? (i := 560) (by decide +kernel))
theorem wi_27_19 : (Cond.methodLink RX5 242 Lib.Math.max.name) ∈ lw_tbl := wt_ (List.mem_of_getElem? (i := 561) (by decide +kernel))
theorem wi_27_20 : (Cond.methodLink RX5 160 yX4_keptWith) ∈ lw_tbl := wt_ (List.mem_of_getElem? (i := 562) (by decide +kernel))
theorem wi_27_21 : (Cond.instanceMethod yX4_keptWith) ∈ lw_tbl := wt_ (List.mem_of_getElem? (i := 563) (by decide +kernel))
theorem wi_27_22 : (Cond.selects RX4 yX4_keptWith yX4_keptWith) ∈ lw_tbl := wt_ (List.mem_of_getElem? (i := 564) (by decide +kernel))
theorem wi_27_23 : (Cond.code yX4_keptWith cX4_keptWith 4 (some .int)) ∈ lw_tbl := wt_ (List.mem_append_right _ (List.mem_append_right _ (List.mem_append_left _ (List.mem_of_getElem? (i := 85) rfl : _ ∈ tables_1_3))))
theorem wc_27 : ∀ w ∈ wsL_law_r27, w ∈ lw_tbl := List.forall_mem_cons.mpr ⟨wi_27_0, List.forall_mem_cons.mpr ⟨wi_27_1, List.forall_mem_cons.mpr ⟨wi_27_2, List.forall_mem_cons.mpr ⟨wi_27_3, List.forall_mem_cons.mpr ⟨wi_27_4, List.forall_mem_cons.mpr ⟨wi_27_5, List.forall_mem_cons.mpr ⟨wi_27_6, List.forall_mem_cons.mpr ⟨wi_27_7, List.forall_mem_cons.mpr ⟨wi_27_8, List.forall_mem_cons.mpr ⟨wi_27_9, List.forall_mem_cons.mpr ⟨wi_27_10, List.forall_mem_cons.mpr ⟨wi_27_11, List.forall_mem_cons.mpr ⟨wi_27_12, List.forall_mem_cons.mpr ⟨wi_27_13, List.forall_mem_cons.mpr ⟨wi_27_14, List.forall_mem_cons.mpr ⟨wi_27_15, List.forall_mem_cons.mpr ⟨wi_27_16, List.forall_mem_cons.mpr ⟨wi_27_17, List.forall_mem_cons.mpr ⟨wi_27_18, List.forall_mem_cons.mpr ⟨wi_27_19, List.forall_mem_cons.mpr ⟨wi_27_20, List.forall_mem_cons.mpr ⟨wi_27_21, List.forall_mem_cons.mpr ⟨wi_27_22, List.forall_mem_cons.mpr ⟨wi_27_23, (fun _ h => absurd h List.not_mem_nil)⟩⟩⟩⟩⟩⟩⟩⟩⟩⟩⟩⟩⟩⟩⟩⟩⟩⟩⟩⟩⟩⟩⟩⟩
theorem wi_28_0 : (Cond.methodLink RL 68 yX6_table) ∈ lw_tbl := wt_ (List.mem_of_getElem? (i := 897) (by decide +kernel))
theorem wi_28_1 : (Cond.instanceMethod yX6_table) ∈ lw_tbl := wt_ (List.mem_of_getElem? (i := 898) (by decide +kernel))
theorem wi_28_2 : (Cond.selects RX6 yX6_table yX6_table) ∈ lw_tbl := wt_ (List.mem_of_getElem? (i := 899) (by decide +kernel))
theorem wi_28_3 : (Cond.code yX6_table cX6_table 5 (some .int)) ∈ lw_tbl := wt_ (List.mem_append_right _ (List.mem_append_right _ (List.mem_append_right _ (List.mem_append_left _ (List.mem_of_getElem? (i := 180) rfl : _ ∈ tables_1_4)))))
theorem wi_28_4 : (Cond.methodLink RX6 201 yX6_plansWith) ∈ lw_tbl := wt_ (List.mem_of_getElem? (i := 901) (by decide +kernel))
theorem wi_28_5 : (Cond.instanceMethod yX6_plansWith) ∈ lw_tbl := wt_ (List.mem_of_getElem? (i := 903) (by decide +kernel))
theorem wi_28_6 : (Cond.selects RX6 yX6_plansWith yX6_plansWith) ∈ lw_tbl := wp_ (List.mem_of_getElem? (i := 39) (by decide +kernel))
theorem wi_28_7 : (Cond.code yX6_plansWith cX6_plansWith 4 (some .int)) ∈ lw_tbl := wt_ (List.mem_append_right _ (List.mem_append_right _ (List.mem_append_right _ (List.mem_append_left _ (List.mem_of_getElem? (i := 184) rfl : _ ∈ tables_1_4)))))
theorem wi_28_8 : (Cond.methodLink RL 69 yX5_partOf) ∈ lw_tbl := wt_ (List.mem_of_getElem? (i := 566) (by decide +kernel))
theorem wi_28_9 : (Cond.instanceMethod yX5_partOf) ∈ lw_tbl := wt_ (List.mem_of_getElem? (i := 567) (by decide +kernel))
theorem wi_28_10 : (Cond.selects RX5 yX5_partOf yX5_partOf) ∈ lw_tbl := wt_ (List.mem_of_getElem? (i := 568) (by decide +kernel))
theorem wi_28_11 : (Cond.code yX5_partOf cX5_partOf 3 (some .int)) ∈ lw_tbl := wt_ (List.mem_append_right _ (List.mem_append_right _ (List.mem_append_left _ (List.mem_of_getElem? (i := 89) rfl : _ ∈ tables_1_3))))
theorem wi_28_12 : (Cond.methodLink RL 72 yX6_partOf) ∈ lw_tbl := wt_ (List.mem_of_getElem? (i := 905) (by decide +kernel))
theorem wi_28_13 : (Cond.instanceMethod yX6_partOf) ∈ lw_tbl := wt_ (List.mem_of_getElem? (i := 906) (by decide +kernel))
theorem wi_28_14 : (Cond.selects RX6 yX6_partOf yX6_partOf) ∈ lw_tbl := wt_ (List.mem_of_getElem? (i := 907) (by decide +kernel))
theorem wi_28_15 : (Cond.code yX6_partOf cX6_partOf 3 (some .int)) ∈ lw_tbl := wt_ (List.mem_append_right _ (List.mem_append_right _ (List.mem_append_right _ (List.mem_append_left _ (List.mem_of_getElem? (i := 188) rfl : _ ∈ tables_1_4)))))
theorem wi_28_16 : (Cond.methodLink RL 73 yX5_size) ∈ lw_tbl := wt_ (List.mem_of_getElem? (i := 570) (by decide +kernel))
theorem wi_28_17 : (Cond.instanceMethod yX5_size) ∈ lw_tbl := wt_ (List.mem_of_getElem? (i := 571) (by decide +kernel))
theorem wi_28_18 : (Cond.selects RX5 yX5_size yX5_size) ∈ lw_tbl := wt_ (List.mem_of_getElem? (i := 572) (by decide +kernel))
theorem wi_28_19 : (Cond.code yX5_size cX5_size 3 (some .int)) ∈ lw_tbl := wt_ (List.mem_append_right _ (List.mem_append_right _ (List.mem_append_left _ (List.mem_of_getElem? (i := 93) rfl : _ ∈ tables_1_3))))
theorem wi_28_20 : (Cond.methodLink RX5 167 yX3_sizeOf) ∈ lw_tbl := wt_ (List.mem_of_getElem? (i := 574) (by decide +kernel))
theorem wi_28_21 : (Cond.methodLink RL 77 yX6_size) ∈ lw_tbl := wt_ (List.mem_of_getElem? (i := 909) (by decide +kernel))
theorem wi_28_22 : (Cond.instanceMethod yX6_size) ∈ lw_tbl := wt_ (List.mem_of_getElem? (i := 910) (by decide +kernel))
theorem wi_28_23 : (Cond.selects RX6 yX6_size yX6_size) ∈ lw_tbl := wt_ (List.mem_of_getElem? (i := 911) (by decide +kernel))
theorem wc_28 : ∀ w ∈ wsL_law_r28, w ∈ lw_tbl := List.forall_mem_cons.mpr ⟨wi_28_0, List.forall_mem_cons.mpr ⟨wi_28_1, List.forall_mem_cons.mpr ⟨wi_28_2, List.forall_mem_cons.mpr ⟨wi_28_3, List.forall_mem_cons.mpr ⟨wi_28_4, List.forall_mem_cons.mpr ⟨wi_28_5, List.forall_mem_cons.mpr ⟨wi_28_6, List.forall_mem_cons.mpr ⟨wi_28_7, List.forall_mem_cons.mpr ⟨wi_28_8, List.forall_mem_cons.mpr ⟨wi_28_9, List.forall_mem_cons.mpr ⟨wi_28_10, List.forall_mem_cons.mpr ⟨wi_28_11, List.forall_mem_cons.mpr ⟨wi_28_12, List.forall_mem_cons.mpr ⟨wi_28_13, List.forall_mem_cons.mpr ⟨wi_28_14, List.forall_mem_cons.mpr ⟨wi_28_15, List.forall_mem_cons.mpr ⟨wi_28_16, List.forall_mem_cons.mpr ⟨wi_28_17, List.forall_mem_cons.mpr ⟨wi_28_18, List.forall_mem_cons.mpr ⟨wi_28_19, List.forall_mem_cons.mpr ⟨wi_28_20, List.forall_mem_cons.mpr ⟨wi_28_21, List.forall_mem_cons.mpr ⟨wi_28_22, List.forall_mem_cons.mpr ⟨wi_28_23, (fun _ h => absurd h List.not_mem_nil)⟩⟩⟩⟩⟩⟩⟩⟩⟩⟩⟩⟩⟩⟩⟩⟩⟩⟩⟩⟩⟩⟩⟩⟩
theorem wi_29_0 : (Cond.code yX6_size cX6_size 3 (some .int)) ∈ lw_tbl := wt_ (List.mem_append_right _ (List.mem_append_right _ (List.mem_append_right _ (List.mem_append_left _ (List.mem_of_getElem? (i := 192) rfl : _ ∈ tables_1_4)))))
theorem wi_29_1 : (Cond.methodLink RX6 204 yX6_base) ∈ lw_tbl := wt_ (List.mem_of_getElem? (i := 913) (by decide +kernel))
theorem wi_29_2 : (Cond.static yX6_base) ∈ lw_tbl := wt_ (List.mem_of_getElem? (i := 914) (by decide +kernel))
theorem wi_29_3 : (Cond.code yX6_base cX6_base 1 (some .int)) ∈ lw_tbl := wt_ (List.mem_append_right _ (List.mem_append_right _ (List.mem_append_right _ (List.mem_append_left _ (List.mem_of_getElem? (i := 195) rfl : _ ∈ tables_1_4)))))
theorem wi_29_4 : (Cond.methodLink RL 78 yX5_least) ∈ lw_tbl := wt_ (List.mem_of_getElem? (i := 575) (by decide +kernel))
theorem wi_29_5 : (Cond.instanceMethod yX5_least) ∈ lw_tbl := wt_ (List.mem_of_getElem? (i := 576) (by decide +kernel))
theorem wi_29_6 : (Cond.selects RX5 yX5_least yX5_least) ∈ lw_tbl := wt_ (List.mem_of_getElem? (i := 577) (by decide +kernel))
theorem wi_29_7 : (Cond.code yX5_least cX5_least 5 (some .int)) ∈ lw_tbl := wt_ (List.mem_append_right _ (List.mem_append_right _ (List.mem_append_left _ (List.mem_of_getElem? (i := 98) rfl : _ ∈ tables_1_3))))
theorem wi_29_8 : (Cond.methodLink RX5 170 yX3_leastByOrders) ∈ lw_tbl := wt_ (List.mem_of_getElem? (i := 579) (by decide +kernel))
theorem wi_29_9 : (Cond.instanceMethod yX3_leastByOrders) ∈ lw_tbl := wt_ (List.mem_of_getElem? (i := 580) (by decide +kernel))
theorem wi_29_10 : (Cond.selects RX3 yX3_leastByOrders yX3_leastByOrders) ∈ lw_tbl := wt_ (List.mem_of_getElem? (i := 581) (by decide +kernel))
theorem wi_29_11 : (Cond.code yX3_leastByOrders cX3_leastByOrders 2 (some .long)) ∈ lw_tbl := wt_ (List.mem_append_right _ (List.mem_append_right _ (List.mem_append_left _ (List.mem_of_getElem? (i := 102) rfl : _ ∈ tables_1_3))))
theorem wi_29_12 : (Cond.methodLink RX3 54 yX3_leastOnward) ∈ lw_tbl := wt_ (List.mem_of_getElem? (i := 583) (by decide +kernel))
theorem wi_29_13 : (Cond.static yX3_leastOnward) ∈ lw_tbl := wt_ (List.mem_of_getElem? (i := 584) (by decide +kernel))
theorem wi_29_14 : (Cond.code yX3_leastOnward cX3_leastOnward 10 (some .long)) ∈ lw_tbl := wt_ (List.mem_append_right _ (List.mem_append_right _ (List.mem_append_left _ (List.mem_of_getElem? (i := 105) rfl : _ ∈ tables_1_3))))
theorem wi_29_15 : (Cond.methodLink RX3 62 Lib.MathLoose.min_long.x) ∈ lw_tbl := wt_ (List.mem_of_getElem? (i := 586) (by decide +kernel))
theorem wi_29_16 : (Cond.methodLink RX5 173 yX3_leastBySets) ∈ lw_tbl := wt_ (List.mem_of_getElem? (i := 587) (by decide +kernel))
theorem wi_29_17 : (Cond.instanceMethod yX3_leastBySets) ∈ lw_tbl := wt_ (List.mem_of_getElem? (i := 588) (by decide +kernel))
theorem wi_29_18 : (Cond.selects RX3 yX3_leastBySets yX3_leastBySets) ∈ lw_tbl := wt_ (List.mem_of_getElem? (i := 589) (by decide +kernel))
theorem wi_29_19 : (Cond.code yX3_leastBySets cX3_leastBySets 2 (some .long)) ∈ lw_tbl := wt_ (List.mem_append_right _ (List.mem_append_right _ (List.mem_append_left _ (List.mem_of_getElem? (i := 110) rfl : _ ∈ tables_1_3))))
theorem wi_29_20 : (Cond.methodLink RL 82 yX6_least) ∈ lw_tbl := wt_ (List.mem_of_getElem? (i := 916) (by decide +kernel))
theorem wi_29_21 : (Cond.instanceMethod yX6_least) ∈ lw_tbl := wt_ (List.mem_of_getElem? (i := 917) (by decide +kernel))
theorem wi_29_22 : (Cond.selects RX6 yX6_least yX6_least) ∈ lw_tbl := wt_ (List.mem_of_getElem? (i := 918) (by decide +kernel))
theorem wi_29_23 : (Cond.code yX6_least cX6_least 4 (some .int)) ∈ lw_tbl := wt_ (List.mem_append_right _ (List.mem_append_right _ (List.mem_append_right _ (List.mem_append_left _ (List.mem_of_getElem? (i := 199) rfl : _ ∈ tables_1_4)))))
theorem wc_29 : ∀ w ∈ wsL_law_r29, w ∈ lw_tbl := List.forall_mem_cons.mpr ⟨wi_29_0, List.forall_mem_cons.mpr ⟨wi_29_1, List.forall_mem_cons.mpr ⟨wi_29_2, List.forall_mem_cons.mpr ⟨wi_29_3, List.forall_mem_cons.mpr ⟨wi_29_4, List.forall_mem_cons.mpr ⟨wi_29_5, List.forall_mem_cons.mpr ⟨wi_29_6, List.forall_mem_cons.mpr ⟨wi_29_7, List.forall_mem_cons.mpr ⟨wi_29_8, List.forall_mem_cons.mpr ⟨wi_29_9, List.forall_mem_cons.mpr ⟨wi_29_10, List.forall_mem_cons.mpr ⟨wi_29_11, List.forall_mem_cons.mpr ⟨wi_29_12, List.forall_mem_cons.mpr ⟨wi_29_13, List.forall_mem_cons.mpr ⟨wi_29_14, List.forall_mem_cons.mpr ⟨wi_29_15, List.forall_mem_cons.mpr ⟨wi_29_16, List.forall_mem_cons.mpr ⟨wi_29_17, List.forall_mem_cons.mpr ⟨wi_29_18, List.forall_mem_cons.mpr ⟨wi_29_19, List.forall_mem_cons.mpr ⟨wi_29_20, List.forall_mem_cons.mpr ⟨wi_29_21, List.forall_mem_cons.mpr ⟨wi_29_22, List.forall_mem_cons.mpr ⟨wi_29_23, (fun _ h => absurd h List.not_mem_nil)⟩⟩⟩⟩⟩⟩⟩⟩⟩⟩⟩⟩⟩⟩⟩⟩⟩⟩⟩⟩⟩⟩⟩⟩
theorem wi_30_0 : (Cond.methodLink RX6 208 yX6_findsBySets) ∈ lw_tbl := wt_ (List.mem_of_getElem? (i := 920) (by decide +kernel))
theorem wi_30_1 : (Cond.instanceMethod yX6_findsBySets) ∈ lw_tbl := wt_ (List.mem_of_getElem? (i := 922) (by decide +kernel))
theorem wi_30_2 : (Cond.selects RX6 yX6_findsBySets yX6_findsBySets) ∈ lw_tbl := wp_ (List.mem_of_getElem? (i := 40) (by decide +kernel))
theorem wi_30_3 : (Cond.code yX6_findsBySets cX6_findsBySets 9 (some .long)) ∈ lw_tbl := wt_ (List.mem_append_right _ (List.mem_append_right _ (List.mem_append_right _ (List.mem_append_left _ (List.mem_of_getElem? (i := 203) rfl : _ ∈ tables_1_4)))))
theorem wi_30_4 : (Cond.methodLink RL 83 yX5_best) ∈ lw_tbl := wt_ (List.mem_of_getElem? (i := 591) (by decide +kernel))
theorem wi_30_5 : (Cond.instanceMethod yX5_best) ∈ lw_tbl := wt_ (List.mem_of_getElem? (i := 592) (by decide +kernel))
theorem wi_30_6 : (Cond.selects RX5 yX5_best yX5_best) ∈ lw_tbl := wt_ (List.mem_of_getElem? (i := 593) (by decide +kernel))
theorem wi_30_7 : (Cond.code yX5_best cX5_best 5 (some .int)) ∈ lw_tbl := wt_ (List.mem_append_right _ (List.mem_append_right _ (List.mem_append_left _ (List.mem_of_getElem? (i := 114) rfl : _ ∈ tables_1_3))))
theorem wi_30_8 : (Cond.methodLink RX5 184 yX5_tableAt) ∈ lw_tbl := wt_ (List.mem_of_getElem? (i := 595) (by decide +kernel))
theorem wi_30_9 : (Cond.methodLink RL 86 yX6_best) ∈ lw_tbl := wt_ (List.mem_of_getElem? (i := 924) (by decide +kernel))
theorem wi_30_10 : (Cond.instanceMethod yX6_best) ∈ lw_tbl := wt_ (List.mem_of_getElem? (i := 925) (by decide +kernel))
theorem wi_30_11 : (Cond.selects RX6 yX6_best yX6_best) ∈ lw_tbl := wt_ (List.mem_of_getElem? (i := 926) (by decide +kernel))
theorem wi_30_12 : (Cond.code yX6_best cX6_best 4 (some .int)) ∈ lw_tbl := wt_ (List.mem_append_right _ (List.mem_append_right _ (List.mem_append_right _ (List.mem_append_left _ (List.mem_of_getElem? (i := 207) rfl : _ ∈ tables_1_4)))))
theorem wi_30_13 : (Cond.methodLink RL 87 yX5_plan) ∈ lw_tbl := wt_ (List.mem_of_getElem? (i := 596) (by decide +kernel))
theorem wi_30_14 : (Cond.instanceMethod yX5_plan) ∈ lw_tbl := wt_ (List.mem_of_getElem? (i := 597) (by decide +kernel))
theorem wi_30_15 : (Cond.selects RX5 yX5_plan yX5_plan) ∈ lw_tbl := wt_ (List.mem_of_getElem? (i := 598) (by decide +kernel))
theorem wi_30_16 : (Cond.code yX5_plan cX5_plan 6 (some .int)) ∈ lw_tbl := wt_ (List.mem_append_right _ (List.mem_append_right _ (List.mem_append_left _ (List.mem_of_getElem? (i := 119) rfl : _ ∈ tables_1_3))))
theorem wi_30_17 : (Cond.methodLink RX5 195 yX3_excessOf) ∈ lw_tbl := wt_ (List.mem_of_getElem? (i := 600) (by decide +kernel))
theorem wi_30_18 : (Cond.instanceMethod yX3_excessOf) ∈ lw_tbl := wt_ (List.mem_of_getElem? (i := 601) (by decide +kernel))
theorem wi_30_19 : (Cond.selects RX3 yX3_excessOf yX3_excessOf) ∈ lw_tbl := wt_ (List.mem_of_getElem? (i := 602) (by decide +kernel))
theorem wi_30_20 : (Cond.code yX3_excessOf cX3_excessOf 3 (some .long)) ∈ lw_tbl := wt_ (List.mem_append_right _ (List.mem_append_right _ (List.mem_append_left _ (List.mem_of_getElem? (i := 123) rfl : _ ∈ tables_1_3))))
theorem wi_30_21 : (Cond.methodLink RX3 74 yX3_costOf) ∈ lw_tbl := wt_ (List.mem_of_getElem? (i := 604) (by decide +kernel))
theorem wi_30_22 : (Cond.methodLink RX3 78 yX3_leastBySets) ∈ lw_tbl := wt_ (List.mem_of_getElem? (i := 605) (by decide +kernel))
theorem wi_30_23 : (Cond.methodLink RX5 198 yX4_driftsOnceCounted) ∈ lw_tbl := wt_ (List.mem_of_getElem? (i := 606) (by decide +kernel))
theorem wc_30 : ∀ w ∈ wsL_law_r30, w ∈ lw_tbl := List.forall_mem_cons.mpr ⟨wi_30_0, List.forall_mem_cons.mpr ⟨wi_30_1, List.forall_mem_cons.mpr ⟨wi_30_2, List.forall_mem_cons.mpr ⟨wi_30_3, List.forall_mem_cons.mpr ⟨wi_30_4, List.forall_mem_cons.mpr ⟨wi_30_5, List.forall_mem_cons.mpr ⟨wi_30_6, List.forall_mem_cons.mpr ⟨wi_30_7, List.forall_mem_cons.mpr ⟨wi_30_8, List.forall_mem_cons.mpr ⟨wi_30_9, List.forall_mem_cons.mpr ⟨wi_30_10, List.forall_mem_cons.mpr ⟨wi_30_11, List.forall_mem_cons.mpr ⟨wi_30_12, List.forall_mem_cons.mpr ⟨wi_30_13, List.forall_mem_cons.mpr ⟨wi_30_14, List.forall_mem_cons.mpr ⟨wi_30_15, List.forall_mem_cons.mpr ⟨wi_30_16, List.forall_mem_cons.mpr ⟨wi_30_17, List.forall_mem_cons.mpr ⟨wi_30_18, List.forall_mem_cons.mpr ⟨wi_30_19, List.forall_mem_cons.mpr ⟨wi_30_20, List.forall_mem_cons.mpr ⟨wi_30_21, List.forall_mem_cons.mpr ⟨wi_30_22, List.forall_mem_cons.mpr ⟨wi_30_23, (fun _ h => absurd h List.not_mem_nil)⟩⟩⟩⟩⟩⟩⟩⟩⟩⟩⟩⟩⟩⟩⟩⟩⟩⟩⟩⟩⟩⟩⟩⟩
theorem wi_31_0 : (Cond.methodLink RL 90 yX6_plan) ∈ lw_tbl := wt_ (List.mem_of_getElem? (i := 928) (by decide +kernel))
theorem wi_31_1 : (Cond.instanceMethod yX6_plan) ∈ lw_tbl := wt_ (List.mem_of_getElem? (i := 929) (by decide +kernel))
theorem wi_31_2 : (Cond.selects RX6 yX6_plan yX6_plan) ∈ lw_tbl := wt_ (List.mem_of_getElem? (i := 930) (by decide +kernel))
theorem wi_31_3 : (Cond.code yX6_plan cX6_plan 4 (some .int)) ∈ lw_tbl := wt_ (List.mem_append_right _ (List.mem_append_right _ (List.mem_append_right _ (List.mem_append_left _ (List.mem_of_getElem? (i := 211) rfl : _ ∈ tables_1_4)))))
theorem wi_31_4 : (Cond.methodLink RX6 211 yX6_over) ∈ lw_tbl := wt_ (List.mem_of_getElem? (i := 932) (by decide +kernel))
theorem wi_31_5 : (Cond.instanceMethod yX6_over) ∈ lw_tbl := wt_ (List.mem_of_getElem? (i := 934) (by decide +kernel))
theorem wi_31_6 : (Cond.selects RX6 yX6_over yX6_over) ∈ lw_tbl := wp_ (List.mem_of_getElem? (i := 41) (by decide +kernel))
theorem wi_31_7 : (Cond.code yX6_over cX6_over 4 (some .long)) ∈ lw_tbl := wt_ (List.mem_append_right _ (List.mem_append_right _ (List.mem_append_right _ (List.mem_append_left _ (List.mem_of_getElem? (i := 215) rfl : _ ∈ tables_1_4)))))
theorem wi_31_8 : (Cond.methodLink RX6 214 yX6_orderOf) ∈ lw_tbl := wt_ (List.mem_of_getElem? (i := 936) (by decide +kernel))
theorem wi_31_9 : (Cond.instanceMethod yX6_orderOf) ∈ lw_tbl := wt_ (List.mem_of_getElem? (i := 938) (by decide +kernel))
theorem wi_31_10 : (Cond.selects RX6 yX6_orderOf yX6_orderOf) ∈ lw_tbl := wp_ (List.mem_of_getElem? (i := 42) (by decide +kernel))
theorem wi_31_11 : (Cond.code yX6_orderOf cX6_orderOf 4 (some .int)) ∈ lw_tbl := wt_ (List.mem_append_right _ (List.mem_append_right _ (List.mem_append_right _ (List.mem_append_left _ (List.mem_of_getElem? (i := 219) rfl : _ ∈ tables_1_4)))))
theorem wi_31_12 : (Cond.methodLink RL 91 yX5_counted) ∈ lw_tbl := wt_ (List.mem_of_getElem? (i := 607) (by decide +kernel))
theorem wi_31_13 : (Cond.instanceMethod yX5_counted) ∈ lw_tbl := wt_ (List.mem_of_getElem? (i := 608) (by decide +kernel))
theorem wi_31_14 : (Cond.selects RX5 yX5_counted yX5_counted) ∈ lw_tbl := wt_ (List.mem_of_getElem? (i := 609) (by decide +kernel))
theorem wi_31_15 : (Cond.code yX5_counted cX5_counted 2 (some .int)) ∈ lw_tbl := wt_ (List.mem_append_right _ (List.mem_append_right _ (List.mem_append_left _ (List.mem_of_getElem? (i := 130) rfl : _ ∈ tables_1_3))))
theorem wi_31_16 : (Cond.fieldLink RX5 208 "DriftPlans$State" "hits" "J") ∈ lw_tbl := wt_ (List.mem_of_getElem? (i := 72) (by decide +kernel))
theorem wi_31_17 : (Cond.fieldLink RX5 211 "DriftPlans$State" "misses" "J") ∈ lw_tbl := wt_ (List.mem_of_getElem? (i := 74) (by decide +kernel))
theorem wi_31_18 : (Cond.fieldLink RX5 217 "DriftPlans$State" "makingCosts" "J") ∈ lw_tbl := wt_ (List.mem_of_getElem? (i := 78) (by decide +kernel))
theorem wi_31_19 : (Cond.fieldLink RX5 220 "DriftPlans$State" "driftedOut" "J") ∈ lw_tbl := wt_ (List.mem_of_getElem? (i := 80) (by decide +kernel))
theorem wi_31_20 : (Cond.fieldLink RX5 223 "DriftPlans$State" "pushedOut" "J") ∈ lw_tbl := wt_ (List.mem_of_getElem? (i := 82) (by decide +kernel))
theorem wi_31_21 : (Cond.fieldLink RX5 226 "DriftPlans$State" "joinedOut" "J") ∈ lw_tbl := wt_ (List.mem_of_getElem? (i := 84) (by decide +kernel))
theorem wi_31_22 : (Cond.fieldLink RX5 229 "DriftPlans$State" "usedOnly" "J") ∈ lw_tbl := wt_ (List.mem_of_getElem? (i := 88) (by decide +kernel))
theorem wi_31_23 : (Cond.methodLink RX5 205 yX4_countPinned) ∈ lw_tbl := wt_ (List.mem_of_getElem? (i := 611) (by decide +kernel))
theorem wc_31 : ∀ w ∈ wsL_law_r31, w ∈ lw_tbl := List.forall_mem_cons.mpr ⟨wi_31_0, List.forall_mem_cons.mpr ⟨wi_31_1, List.forall_mem_cons.mpr ⟨wi_31_2, List.forall_mem_cons.mpr ⟨wi_31_3, List.forall_mem_cons.mpr ⟨wi_31_4, List.forall_mem_cons.mpr ⟨wi_31_5, List.forall_mem_cons.mpr ⟨wi_31_6, List.forall_mem_cons.mpr ⟨wi_31_7, List.forall_mem_cons.mpr ⟨wi_31_8, List.forall_mem_cons.mpr ⟨wi_31_9, List.forall_mem_cons.mpr ⟨wi_31_10, List.forall_mem_cons.mpr ⟨wi_31_11, List.forall_mem_cons.mpr ⟨wi_31_12, List.forall_mem_cons.mpr ⟨wi_31_13, List.forall_mem_cons.mpr ⟨wi_31_14, List.forall_mem_cons.mpr ⟨wi_31_15, List.forall_mem_cons.mpr ⟨wi_31_16, List.forall_mem_cons.mpr ⟨wi_31_17, List.forall_mem_cons.mpr ⟨wi_31_18, List.forall_mem_cons.mpr ⟨wi_31_19, List.forall_mem_cons.mpr ⟨wi_31_20, List.forall_mem_cons.mpr ⟨wi_31_21, List.forall_mem_cons.mpr ⟨wi_31_22, List.forall_mem_cons.mpr ⟨wi_31_23, (fun _ h => absurd h List.not_mem_nil)⟩⟩⟩⟩⟩⟩⟩⟩⟩⟩⟩⟩⟩⟩⟩⟩⟩⟩⟩⟩⟩⟩⟩⟩
theorem wi_32_0 : (Cond.instanceMethod yX4_countPinned) ∈ lw_tbl := wt_ (List.mem_of_getElem? (i := 612) (by decide +kernel))
theorem wi_32_1 : (Cond.selects RX4 yX4_countPinned yX4_countPinned) ∈ lw_tbl := wt_ (List.mem_of_getElem? (i := 613) (by decide +kernel))
theorem wi_32_2 : (Cond.code yX4_countPinned cX4_countPinned 3 (some .int)) ∈ lw_tbl := wt_ (List.mem_append_right _ (List.mem_append_right _ (List.mem_append_left _ (List.mem_of_getElem? (i := 134) rfl : _ ∈ tables_1_3))))
theorem wi_32_3 : (Cond.methodLink RL 94 yX6_counted) ∈ lw_tbl := wt_ (List.mem_of_getElem? (i := 940) (by decide +kernel))
theorem wi_32_4 : (Cond.instanceMethod yX6_counted) ∈ lw_tbl := wt_ (List.mem_of_getElem? (i := 941) (by decide +kernel))
theorem wi_32_5 : (Cond.selects RX6 yX6_counted yX6_counted) ∈ lw_tbl := wt_ (List.mem_of_getElem? (i := 942) (by decide +kernel))
theorem wi_32_6 : (Cond.code yX6_counted cX6_counted 2 (some .int)) ∈ lw_tbl := wt_ (List.mem_append_right _ (List.mem_append_right _ (List.mem_append_right _ (List.mem_append_left _ (List.mem_of_getElem? (i := 223) rfl : _ ∈ tables_1_4)))))
theorem wi_32_7 : (Cond.methodLink RX6 217 yX6_plans) ∈ lw_tbl := wt_ (List.mem_of_getElem? (i := 944) (by decide +kernel))
theorem wi_32_8 : (Cond.instanceMethod yX6_plans) ∈ lw_tbl := wt_ (List.mem_of_getElem? (i := 946) (by decide +kernel))
theorem wi_32_9 : (Cond.selects RX6 yX6_plans yX6_plans) ∈ lw_tbl := wp_ (List.mem_of_getElem? (i := 43) (by decide +kernel))
theorem wi_32_10 : (Cond.code yX6_plans cX6_plans 3 (some .int)) ∈ lw_tbl := wt_ (List.mem_append_right _ (List.mem_append_right _ (List.mem_append_right _ (List.mem_append_left _ (List.mem_of_getElem? (i := 227) rfl : _ ∈ tables_1_4)))))
theorem wi_32_11 : (Cond.methodLink RX6 220 yX6_pinned) ∈ lw_tbl := wt_ (List.mem_of_getElem? (i := 948) (by decide +kernel))
theorem wi_32_12 : (Cond.instanceMethod yX6_pinned) ∈ lw_tbl := wt_ (List.mem_of_getElem? (i := 950) (by decide +kernel))
theorem wi_32_13 : (Cond.selects RX6 yX6_pinned yX6_pinned) ∈ lw_tbl := wp_ (List.mem_of_getElem? (i := 44) (by decide +kernel))
theorem wi_32_14 : (Cond.code yX6_pinned cX6_pinned 3 (some .int)) ∈ lw_tbl := wt_ (List.mem_append_right _ (List.mem_append_right _ (List.mem_append_right _ (List.mem_append_left _ (List.mem_of_getElem? (i := 231) rfl : _ ∈ tables_1_4)))))
theorem wi_32_15 : (Cond.methodLink RL 95 yX5_fitness) ∈ lw_tbl := wt_ (List.mem_of_getElem? (i := 615) (by decide +kernel))
theorem wi_32_16 : (Cond.instanceMethod yX5_fitness) ∈ lw_tbl := wt_ (List.mem_of_getElem? (i := 616) (by decide +kernel))
theorem wi_32_17 : (Cond.selects RX5 yX5_fitness yX5_fitness) ∈ lw_tbl := wt_ (List.mem_of_getElem? (i := 617) (by decide +kernel))
theorem wi_32_18 : (Cond.code yX5_fitness cX5_fitness 8 (some .double)) ∈ lw_tbl := wt_ (List.mem_append_right _ (List.mem_append_right _ (List.mem_append_left _ (List.mem_of_getElem? (i := 138) rfl : _ ∈ tables_1_3))))
theorem wi_32_19 : (Cond.fieldLink RX5 232 "DriftPlans$Kept" "shape" "I") ∈ lw_tbl := wt_ (List.mem_of_getElem? (i := 341) (by decide +kernel))
theorem wi_32_20 : (Cond.methodLink RL 99 yX6_fitness) ∈ lw_tbl := wt_ (List.mem_of_getElem? (i := 952) (by decide +kernel))
theorem wi_32_21 : (Cond.instanceMethod yX6_fitness) ∈ lw_tbl := wt_ (List.mem_of_getElem? (i := 953) (by decide +kernel))
theorem wi_32_22 : (Cond.selects RX6 yX6_fitness yX6_fitness) ∈ lw_tbl := wt_ (List.mem_of_getElem? (i := 954) (by decide +kernel))
theorem wi_32_23 : (Cond.code yX6_fitness cX6_fitness 9 (some .double)) ∈ lw_tbl := wt_ (List.mem_append_right _ (List.mem_append_right _ (List.mem_append_right _ (List.mem_append_left _ (List.mem_of_getElem? (i := 235) rfl : _ ∈ tables_1_4)))))
theorem wc_32 : ∀ w ∈ wsL_law_r32, w ∈ lw_tbl := List.forall_mem_cons.mpr ⟨wi_32_0, List.forall_mem_cons.mpr ⟨wi_32_1, List.forall_mem_cons.mpr ⟨wi_32_2, List.forall_mem_cons.mpr ⟨wi_32_3, List.forall_mem_cons.mpr ⟨wi_32_4, List.forall_mem_cons.mpr ⟨wi_32_5, List.forall_mem_cons.mpr ⟨wi_32_6, List.forall_mem_cons.mpr ⟨wi_32_7, List.forall_mem_cons.mpr ⟨wi_32_8, List.forall_mem_cons.mpr ⟨wi_32_9, List.forall_mem_cons.mpr ⟨wi_32_10, List.forall_mem_cons.mpr ⟨wi_32_11, List.forall_mem_cons.mpr ⟨wi_32_12, List.forall_mem_cons.mpr ⟨wi_32_13, List.forall_mem_cons.mpr ⟨wi_32_14, List.forall_mem_cons.mpr ⟨wi_32_15, List.forall_mem_cons.mpr ⟨wi_32_16, List.forall_mem_cons.mpr ⟨wi_32_17, List.forall_mem_cons.mpr ⟨wi_32_18, List.forall_mem_cons.mpr ⟨wi_32_19, List.forall_mem_cons.mpr ⟨wi_32_20, List.forall_mem_cons.mpr ⟨wi_32_21, List.forall_mem_cons.mpr ⟨wi_32_22, List.forall_mem_cons.mpr ⟨wi_32_23, (fun _ h => absurd h List.not_mem_nil)⟩⟩⟩⟩⟩⟩⟩⟩⟩⟩⟩⟩⟩⟩⟩⟩⟩⟩⟩⟩⟩⟩⟩⟩
theorem wi_33_0 : (Cond.methodLink RL 100 yX5_ifCounted) ∈ lw_tbl := wt_ (List.mem_of_getElem? (i := 619) (by decide +kernel))
theorem wi_33_1 : (Cond.instanceMethod yX5_ifCounted) ∈ lw_tbl := wt_ (List.mem_of_getElem? (i := 620) (by decide +kernel))
theorem wi_33_2 : (Cond.selects RX5 yX5_ifCounted yX5_ifCounted) ∈ lw_tbl := wt_ (List.mem_of_getElem? (i := 621) (by decide +kernel))
theorem wi_33_3 : (Cond.code yX5_ifCounted cX5_ifCounted 8 (some .int)) ∈ lw_tbl := wt_ (List.mem_append_right _ (List.mem_append_right _ (List.mem_append_left _ (List.mem_of_getElem? (i := 142) rfl : _ ∈ tables_1_3))))
theorem wi_33_4 : (Cond.methodLink RL 103 yX6_ifCounted) ∈ lw_tbl := wt_ (List.mem_of_getElem? (i := 956) (by decide +kernel))
theorem wi_33_5 : (Cond.instanceMethod yX6_ifCounted) ∈ lw_tbl := wt_ (List.mem_of_getElem? (i := 957) (by decide +kernel))
theorem wi_33_6 : (Cond.selects RX6 yX6_ifCounted yX6_ifCounted) ∈ lw_tbl := wt_ (List.mem_of_getElem? (i := 958) (by decide +kernel))
theorem wi_33_7 : (Cond.code yX6_ifCounted cX6_ifCounted 5 (some .int)) ∈ lw_tbl := wt_ (List.mem_append_right _ (List.mem_append_right _ (List.mem_append_right _ (List.mem_append_left _ (List.mem_of_getElem? (i := 239) rfl : _ ∈ tables_1_4)))))
theorem wi_33_8 : (Cond.methodLink RX6 223 yX6_putsAside) ∈ lw_tbl := wt_ (List.mem_of_getElem? (i := 960) (by decide +kernel))
theorem wi_33_9 : (Cond.instanceMethod yX6_putsAside) ∈ lw_tbl := wt_ (List.mem_of_getElem? (i := 962) (by decide +kernel))
theorem wi_33_10 : (Cond.selects RX6 yX6_putsAside yX6_putsAside) ∈ lw_tbl := wp_ (List.mem_of_getElem? (i := 45) (by decide +kernel))
theorem wi_33_11 : (Cond.code yX6_putsAside cX6_putsAside 2 none) ∈ lw_tbl := wt_ (List.mem_append_right _ (List.mem_append_right _ (List.mem_append_right _ (List.mem_append_right _ (List.mem_of_getElem? (i := 3) rfl : _ ∈ tables_1_5)))))
theorem wi_33_12 : (Cond.methodLink RX6 226 yX6_dearer) ∈ lw_tbl := wt_ (List.mem_of_getElem? (i := 964) (by decide +kernel))
theorem wi_33_13 : (Cond.instanceMethod yX6_dearer) ∈ lw_tbl := wt_ (List.mem_of_getElem? (i := 966) (by decide +kernel))
theorem wi_33_14 : (Cond.selects RX6 yX6_dearer yX6_dearer) ∈ lw_tbl := wp_ (List.mem_of_getElem? (i := 46) (by decide +kernel))
theorem wi_33_15 : (Cond.code yX6_dearer cX6_dearer 3 (some .int)) ∈ lw_tbl := wt_ (List.mem_append_right _ (List.mem_append_right _ (List.mem_append_right _ (List.mem_append_right _ (List.mem_of_getElem? (i := 7) rfl : _ ∈ tables_1_5)))))
theorem wi_33_16 : (Cond.methodLink RX6 229 yX6_putsBack) ∈ lw_tbl := wt_ (List.mem_of_getElem? (i := 968) (by decide +kernel))
theorem wi_33_17 : (Cond.instanceMethod yX6_putsBack) ∈ lw_tbl := wt_ (List.mem_of_getElem? (i := 970) (by decide +kernel))
theorem wi_33_18 : (Cond.selects RX6 yX6_putsBack yX6_putsBack) ∈ lw_tbl := wp_ (List.mem_of_getElem? (i := 47) (by decide +kernel))
theorem wi_33_19 : (Cond.code yX6_putsBack cX6_putsBack 2 none) ∈ lw_tbl := wt_ (List.mem_append_right _ (List.mem_append_right _ (List.mem_append_right _ (List.mem_append_right _ (List.mem_of_getElem? (i := 11) rfl : _ ∈ tables_1_5)))))
theorem wi_33_20 : (Cond.methodLink RL 104 yX5_ifRun) ∈ lw_tbl := wt_ (List.mem_of_getElem? (i := 623) (by decide +kernel))
theorem wi_33_21 : (Cond.instanceMethod yX5_ifRun) ∈ lw_tbl := wt_ (List.mem_of_getElem? (i := 624) (by decide +kernel))
theorem wi_33_22 : (Cond.selects RX5 yX5_ifRun yX5_ifRun) ∈ lw_tbl := wt_ (List.mem_of_getElem? (i := 625) (by decide +kernel))
theorem wi_33_23 : (Cond.code yX5_ifRun cX5_ifRun 4 (some .int)) ∈ lw_tbl := wt_ (List.mem_append_right _ (List.mem_append_right _ (List.mem_append_left _ (List.mem_of_getElem? (i := 146) rfl : _ ∈ tables_1_3))))
theorem wc_33 : ∀ w ∈ wsL_law_r33, w ∈ lw_tbl := List.forall_mem_cons.mpr ⟨wi_33_0, List.forall_mem_cons.mpr ⟨wi_33_1, List.forall_mem_cons.mpr ⟨wi_33_2, List.forall_mem_cons.mpr ⟨wi_33_3, List.forall_mem_cons.mpr ⟨wi_33_4, List.forall_mem_cons.mpr ⟨wi_33_5, List.forall_mem_cons.mpr ⟨wi_33_6, List.forall_mem_cons.mpr ⟨wi_33_7, List.forall_mem_cons.mpr ⟨wi_33_8, List.forall_mem_cons.mpr ⟨wi_33_9, List.forall_mem_cons.mpr ⟨wi_33_10, List.forall_mem_cons.mpr ⟨wi_33_11, List.forall_mem_cons.mpr ⟨wi_33_12, List.forall_mem_cons.mpr ⟨wi_33_13, List.forall_mem_cons.mpr ⟨wi_33_14, List.forall_mem_cons.mpr ⟨wi_33_15, List.forall_mem_cons.mpr ⟨wi_33_16, List.forall_mem_cons.mpr ⟨wi_33_17, List.forall_mem_cons.mpr ⟨wi_33_18, List.forall_mem_cons.mpr ⟨wi_33_19, List.forall_mem_cons.mpr ⟨wi_33_20, List.forall_mem_cons.mpr ⟨wi_33_21, List.forall_mem_cons.mpr ⟨wi_33_22, List.forall_mem_cons.mpr ⟨wi_33_23, (fun _ h => absurd h List.not_mem_nil)⟩⟩⟩⟩⟩⟩⟩⟩⟩⟩⟩⟩⟩⟩⟩⟩⟩⟩⟩⟩⟩⟩⟩⟩
theorem wi_34_0 : (Cond.methodLink RL 107 yX6_ifRun) ∈ lw_tbl := wt_ (List.mem_of_getElem? (i := 972) (by decide +kernel))
theorem wi_34_1 : (Cond.instanceMethod yX6_ifRun) ∈ lw_tbl := wt_ (List.mem_of_getElem? (i := 973) (by decide +kernel))
theorem wi_34_2 : (Cond.selects RX6 yX6_ifRun yX6_ifRun) ∈ lw_tbl := wt_ (List.mem_of_getElem? (i := 974) (by decide +kernel))
theorem wi_34_3 : (Cond.code yX6_ifRun cX6_ifRun 3 (some .int)) ∈ lw_tbl := wt_ (List.mem_append_right _ (List.mem_append_right _ (List.mem_append_right _ (List.mem_append_right _ (List.mem_of_getElem? (i := 15) rfl : _ ∈ tables_1_5)))))
theorem wi_34_4 : (Cond.methodLink RL 108 yX5_leastDrift) ∈ lw_tbl := wt_ (List.mem_of_getElem? (i := 627) (by decide +kernel))
theorem wi_34_5 : (Cond.instanceMethod yX5_leastDrift) ∈ lw_tbl := wt_ (List.mem_of_getElem? (i := 628) (by decide +kernel))
theorem wi_34_6 : (Cond.selects RX5 yX5_leastDrift yX5_leastDrift) ∈ lw_tbl := wt_ (List.mem_of_getElem? (i := 629) (by decide +kernel))
theorem wi_34_7 : (Cond.code yX5_leastDrift cX5_leastDrift 4 (some .int)) ∈ lw_tbl := wt_ (List.mem_append_right _ (List.mem_append_right _ (List.mem_append_left _ (List.mem_of_getElem? (i := 150) rfl : _ ∈ tables_1_3))))
theorem wi_34_8 : (Cond.methodLink RX5 238 yX4_driftToBear) ∈ lw_tbl := wt_ (List.mem_of_getElem? (i := 631) (by decide +kernel))
theorem wi_34_9 : (Cond.instanceMethod yX4_driftToBear) ∈ lw_tbl := wt_ (List.mem_of_getElem? (i := 632) (by decide +kernel))
theorem wi_34_10 : (Cond.selects RX4 yX4_driftToBear yX4_driftToBear) ∈ lw_tbl := wt_ (List.mem_of_getElem? (i := 633) (by decide +kernel))
theorem wi_34_11 : (Cond.code yX4_driftToBear cX4_driftToBear 4 (some .int)) ∈ lw_tbl := wt_ (List.mem_append_right _ (List.mem_append_right _ (List.mem_append_left _ (List.mem_of_getElem? (i := 154) rfl : _ ∈ tables_1_3))))
theorem wi_34_12 : (Cond.static yX5_driftUp) ∈ lw_tbl := wt_ (List.mem_of_getElem? (i := 636) (by decide +kernel))
theorem wi_34_13 : (Cond.code yX5_driftUp cX5_driftUp 3 (some .int)) ∈ lw_tbl := wt_ (List.mem_append_right _ (List.mem_append_right _ (List.mem_append_left _ (List.mem_of_getElem? (i := 157) rfl : _ ∈ tables_1_3))))
theorem wi_34_14 : (Cond.methodLink RL 111 yX6_leastDrift) ∈ lw_tbl := wt_ (List.mem_of_getElem? (i := 976) (by decide +kernel))
theorem wi_34_15 : (Cond.instanceMethod yX6_leastDrift) ∈ lw_tbl := wt_ (List.mem_of_getElem? (i := 977) (by decide +kernel))
theorem wi_34_16 : (Cond.selects RX6 yX6_leastDrift yX6_leastDrift) ∈ lw_tbl := wt_ (List.mem_of_getElem? (i := 978) (by decide +kernel))
theorem wi_34_17 : (Cond.code yX6_leastDrift cX6_leastDrift 4 (some .int)) ∈ lw_tbl := wt_ (List.mem_append_right _ (List.mem_append_right _ (List.mem_append_right _ (List.mem_append_right _ (List.mem_of_getElem? (i := 19) rfl : _ ∈ tables_1_5)))))
theorem wi_34_18 : (Cond.methodLink RL 112 yX5_undo) ∈ lw_tbl := wt_ (List.mem_of_getElem? (i := 638) (by decide +kernel))
theorem wi_34_19 : (Cond.instanceMethod yX5_undo) ∈ lw_tbl := wt_ (List.mem_of_getElem? (i := 639) (by decide +kernel))
theorem wi_34_20 : (Cond.selects RX5 yX5_undo yX5_undo) ∈ lw_tbl := wt_ (List.mem_of_getElem? (i := 640) (by decide +kernel))
theorem wi_34_21 : (Cond.code yX5_undo cX5_undo 2 (some .int)) ∈ lw_tbl := wt_ (List.mem_append_right _ (List.mem_append_right _ (List.mem_append_left _ (List.mem_of_getElem? (i := 161) rfl : _ ∈ tables_1_3))))
theorem wi_34_22 : (Cond.classLink RX5 7 "DriftPlans$State") ∈ lw_tbl := wt_ (List.mem_of_getElem? (i := 26) (by decide +kernel))
theorem wi_34_23 : (Cond.methodLink RL 115 yX6_undo) ∈ lw_tbl := wt_ (List.mem_of_getElem? (i := 980) (by decide +kernel))
theorem wc_34 : ∀ w ∈ wsL_law_r34, w ∈ lw_tbl := List.forall_mem_cons.mpr ⟨wi_34_0, List.forall_mem_cons.mpr ⟨wi_34_1, List.forall_mem_cons.mpr ⟨wi_34_2, List.forall_mem_cons.mpr ⟨wi_34_3, List.forall_mem_cons.mpr ⟨wi_34_4, List.forall_mem_cons.mpr ⟨wi_34_5, List.forall_mem_cons.mpr ⟨wi_34_6, List.forall_mem_cons.mpr ⟨wi_34_7, List.forall_mem_cons.mpr ⟨wi_34_8, List.forall_mem_cons.mpr ⟨wi_34_9, List.forall_mem_cons.mpr ⟨wi_34_10, List.forall_mem_cons.mpr ⟨wi_34_11, List.forall_mem_cons.mpr ⟨wi_34_12, List.forall_mem_cons.mpr ⟨wi_34_13, List.forall_mem_cons.mpr ⟨wi_34_14, List.forall_mem_cons.mpr ⟨wi_34_15, List.forall_mem_cons.mpr ⟨wi_34_16, List.forall_mem_cons.mpr ⟨wi_34_17, List.forall_mem_cons.mpr ⟨wi_34_18, List.forall_mem_cons.mpr ⟨wi_34_19, List.forall_mem_cons.mpr ⟨wi_34_20, List.forall_mem_cons.mpr ⟨wi_34_21, List.forall_mem_cons.mpr ⟨wi_34_22, List.forall_mem_cons.mpr ⟨wi_34_23, (fun _ h => absurd h List.not_mem_nil)⟩⟩⟩⟩⟩⟩⟩⟩⟩⟩⟩⟩⟩⟩⟩⟩⟩⟩⟩⟩⟩⟩⟩⟩
theorem wi_35_0 : (Cond.instanceMethod yX6_undo) ∈ lw_tbl := wt_ (List.mem_of_getElem? (i := 981) (by decide +kernel))
theorem wi_35_1 : (Cond.selects RX6 yX6_undo yX6_undo) ∈ lw_tbl := wt_ (List.mem_of_getElem? (i := 982) (by decide +kernel))
theorem wi_35_2 : (Cond.code yX6_undo cX6_undo 2 (some .int)) ∈ lw_tbl := wt_ (List.mem_append_right _ (List.mem_append_right _ (List.mem_append_right _ (List.mem_append_right _ (List.mem_of_getElem? (i := 23) rfl : _ ∈ tables_1_5)))))
theorem wi_35_3 : (Cond.methodLink RL 116 yX5_save) ∈ lw_tbl := wt_ (List.mem_of_getElem? (i := 642) (by decide +kernel))
theorem wi_35_4 : (Cond.instanceMethod yX5_save) ∈ lw_tbl := wt_ (List.mem_of_getElem? (i := 643) (by decide +kernel))
theorem wi_35_5 : (Cond.selects RX5 yX5_save yX5_save) ∈ lw_tbl := wt_ (List.mem_of_getElem? (i := 644) (by decide +kernel))
theorem wi_35_6 : (Cond.code yX5_save cX5_save 1 (some .int)) ∈ lw_tbl := wt_ (List.mem_append_right _ (List.mem_append_right _ (List.mem_append_left _ (List.mem_of_getElem? (i := 165) rfl : _ ∈ tables_1_3))))
theorem wi_35_7 : (Cond.methodLink RL 119 yX6_save) ∈ lw_tbl := wt_ (List.mem_of_getElem? (i := 984) (by decide +kernel))
theorem wi_35_8 : (Cond.instanceMethod yX6_save) ∈ lw_tbl := wt_ (List.mem_of_getElem? (i := 985) (by decide +kernel))
theorem wi_35_9 : (Cond.selects RX6 yX6_save yX6_save) ∈ lw_tbl := wt_ (List.mem_of_getElem? (i := 986) (by decide +kernel))
theorem wi_35_10 : (Cond.code yX6_save cX6_save 2 (some .int)) ∈ lw_tbl := wt_ (List.mem_append_right _ (List.mem_append_right _ (List.mem_append_right _ (List.mem_append_right _ (List.mem_of_getElem? (i := 27) rfl : _ ∈ tables_1_5)))))
theorem wi_35_11 : (Cond.fieldLink RX6 232 "DriftPlansModel" "isKept" "Z") ∈ lw_tbl := wt_ (List.mem_of_getElem? (i := 664) (by decide +kernel))
theorem wi_35_12 : (Cond.methodLink RL 120 yX5_restore) ∈ lw_tbl := wt_ (List.mem_of_getElem? (i := 646) (by decide +kernel))
theorem wi_35_13 : (Cond.instanceMethod yX5_restore) ∈ lw_tbl := wt_ (List.mem_of_getElem? (i := 647) (by decide +kernel))
theorem wi_35_14 : (Cond.selects RX5 yX5_restore yX5_restore) ∈ lw_tbl := wt_ (List.mem_of_getElem? (i := 648) (by decide +kernel))
theorem wi_35_15 : (Cond.code yX5_restore cX5_restore 1 (some .int)) ∈ lw_tbl := wt_ (List.mem_append_right _ (List.mem_append_right _ (List.mem_append_left _ (List.mem_of_getElem? (i := 169) rfl : _ ∈ tables_1_3))))
theorem wi_35_16 : (Cond.methodLink RL 123 yX6_restore) ∈ lw_tbl := wt_ (List.mem_of_getElem? (i := 988) (by decide +kernel))
theorem wi_35_17 : (Cond.instanceMethod yX6_restore) ∈ lw_tbl := wt_ (List.mem_of_getElem? (i := 989) (by decide +kernel))
theorem wi_35_18 : (Cond.selects RX6 yX6_restore yX6_restore) ∈ lw_tbl := wt_ (List.mem_of_getElem? (i := 990) (by decide +kernel))
theorem wi_35_19 : (Cond.code yX6_restore cX6_restore 2 (some .int)) ∈ lw_tbl := wt_ (List.mem_append_right _ (List.mem_append_right _ (List.mem_append_right _ (List.mem_append_right _ (List.mem_of_getElem? (i := 31) rfl : _ ∈ tables_1_5)))))
theorem wc_35 : ∀ w ∈ wsL_law_r35, w ∈ lw_tbl := List.forall_mem_cons.mpr ⟨wi_35_0, List.forall_mem_cons.mpr ⟨wi_35_1, List.forall_mem_cons.mpr ⟨wi_35_2, List.forall_mem_cons.mpr ⟨wi_35_3, List.forall_mem_cons.mpr ⟨wi_35_4, List.forall_mem_cons.mpr ⟨wi_35_5, List.forall_mem_cons.mpr ⟨wi_35_6, List.forall_mem_cons.mpr ⟨wi_35_7, List.forall_mem_cons.mpr ⟨wi_35_8, List.forall_mem_cons.mpr ⟨wi_35_9, List.forall_mem_cons.mpr ⟨wi_35_10, List.forall_mem_cons.mpr ⟨wi_35_11, List.forall_mem_cons.mpr ⟨wi_35_12, List.forall_mem_cons.mpr ⟨wi_35_13, List.forall_mem_cons.mpr ⟨wi_35_14, List.forall_mem_cons.mpr ⟨wi_35_15, List.forall_mem_cons.mpr ⟨wi_35_16, List.forall_mem_cons.mpr ⟨wi_35_17, List.forall_mem_cons.mpr ⟨wi_35_18, List.forall_mem_cons.mpr ⟨wi_35_19, (fun _ h => absurd h List.not_mem_nil)⟩⟩⟩⟩⟩⟩⟩⟩⟩⟩⟩⟩⟩⟩⟩⟩⟩⟩⟩⟩
theorem wl_X5_0 : (Cond.lays RX5 "DriftPlans" "now" "LDriftPlans$State;") ∈ lw_tbl := wt_ (List.mem_of_getElem? (i := 160) (by decide +kernel))
theorem wl_X5_1 : (Cond.lays RX5 "DriftPlans" "snapshot" "LDriftPlans$State;") ∈ lw_tbl := wt_ (List.mem_of_getElem? (i := 162) (by decide +kernel))
theorem wl_X5_2 : (Cond.laysFinal RX5 "DriftPlans" "history" "Ljava/util/ArrayList;") ∈ lw_tbl := wt_ (List.mem_of_getElem? (i := 164) (by decide +kernel))
theorem wl_X5_3 : (Cond.laysFinal RX5 "DriftPlans" "reckoner" "LDriftPlans$Reckoner;") ∈ lw_tbl := wt_ (List.mem_of_getElem? (i := 166) (by decide +kernel))
theorem wl_X5_4 : (Cond.laysFinal RX5 "DriftPlans" "pad" "LDriftPlans$Pad;") ∈ lw_tbl := wt_ (List.mem_of_getElem? (i := 168) (by decide +kernel))
theorem wl_X5_5 : (Cond.lays RX5 "DriftPlans" "stopDeed" "I") ∈ lw_tbl := wt_ (List.mem_of_getElem? (i := 170) (by decide +kernel))
theorem wl_X5_6 : (Cond.lays RX5 "DriftPlans" "stopPlace" "I") ∈ lw_tbl := wt_ (List.mem_of_getElem? (i := 172) (by decide +kernel))
theorem wcl_X5 : ∀ w ∈ wsX50, w ∈ lw_tbl := by
  show ∀ w ∈ [Cond.lays RX5 "DriftPlans" "now" "LDriftPlans$State;", Cond.lays RX5 "DriftPlans" "snapshot" "LDriftPlans$State;", Cond.laysFinal RX5 "DriftPlans" "history" "Ljava/util/ArrayList;", Cond.laysFinal RX5 "DriftPlans" "reckoner" "LDriftPlans$Reckoner;", Cond.laysFinal RX5 "DriftPlans" "pad" "LDriftPlans$Pad;", Cond.lays RX5 "DriftPlans" "stopDeed" "I", Cond.lays RX5 "DriftPlans" "stopPlace" "I"], w ∈ lw_tbl
  exact List.forall_mem_cons.mpr ⟨wl_X5_0, List.forall_mem_cons.mpr ⟨wl_X5_1, List.forall_mem_cons.mpr ⟨wl_X5_2, List.forall_mem_cons.mpr ⟨wl_X5_3, List.forall_mem_cons.mpr ⟨wl_X5_4, List.forall_mem_cons.mpr ⟨wl_X5_5, List.forall_mem_cons.mpr ⟨wl_X5_6, (fun _ h => absurd h List.not_mem_nil)⟩⟩⟩⟩⟩⟩⟩
theorem wl_X6_0 : (Cond.laysFinal RX6 "DriftPlansModel" "s" "[I") ∈ lw_tbl := wt_ (List.mem_of_getElem? (i := 678) (by decide +kernel))
theorem wl_X6_1 : (Cond.laysFinal RX6 "DriftPlansModel" "past" "[I") ∈ lw_tbl := wt_ (List.mem_of_getElem? (i := 680) (by decide +kernel))
theorem wl_X6_2 : (Cond.laysFinal RX6 "DriftPlansModel" "kept" "[I") ∈ lw_tbl := wt_ (List.mem_of_getElem? (i := 682) (by decide +kernel))
theorem wl_X6_3 : (Cond.laysFinal RX6 "DriftPlansModel" "spare" "[I") ∈ lw_tbl := wt_ (List.mem_of_getElem? (i := 684) (by decide +kernel))
theorem wl_X6_4 : (Cond.laysFinal RX6 "DriftPlansModel" "paid" "[J") ∈ lw_tbl := wt_ (List.mem_of_getElem? (i := 686) (by decide +kernel))
theorem wl_X6_5 : (Cond.laysFinal RX6 "DriftPlansModel" "pastPaid" "[J") ∈ lw_tbl := wt_ (List.mem_of_getElem? (i := 688) (by decide +kernel))
theorem wl_X6_6 : (Cond.laysFinal RX6 "DriftPlansModel" "keptPaid" "[J") ∈ lw_tbl := wt_ (List.mem_of_getElem? (i := 690) (by decide +kernel))
theorem wl_X6_7 : (Cond.laysFinal RX6 "DriftPlansModel" "sparePaid" "[J") ∈ lw_tbl := wt_ (List.mem_of_getElem? (i := 692) (by decide +kernel))
theorem wl_X6_8 : (Cond.lays RX6 "DriftPlansModel" "isKept" "Z") ∈ lw_tbl := wt_ (List.mem_of_getElem? (i := 694) (by decide +kernel))
theorem wl_X6_9 : (Cond.lays RX6 "DriftPlansModel" "pasts" "I") ∈ lw_tbl := wt_ (List.mem_of_getElem? (i := 696) (by decide +kernel))
theorem wl_X6_10 : (Cond.lays RX6 "DriftPlansModel" "runs" "Z") ∈ lw_tbl := wt_ (List.mem_of_getElem? (i := 698) (by decide +kernel))
theorem wl_X6_11 : (Cond.laysFinal RX6 "DriftPlansModel" "pad" "[I") ∈ lw_tbl := wt_ (List.mem_of_getElem? (i := 700) (by decide +kernel))
theorem wl_X6_12 : (Cond.lays RX6 "DriftPlansModel" "typed" "I") ∈ lw_tbl := wt_ (List.mem_of_getElem? (i := 702) (by decide +kernel))
theorem wl_X6_13 : (Cond.lays RX6 "DriftPlansModel" "isStopped" "Z") ∈ lw_tbl := wt_ (List.mem_of_getElem? (i := 704) (by decide +kernel))
theorem wl_X6_14 : (Cond.laysFinal RX6 "DriftPlansModel" "stop" "[I") ∈ lw_tbl := wt_ (List.mem_of_getElem? (i := 706) (by decide +kernel))
theorem wl_X6_15 : (Cond.laysFinal RX6 "DriftPlansModel" "order" "[I") ∈ lw_tbl := wt_ (List.mem_of_getElem? (i := 708) (by decide +kernel))
theorem wl_X6_16 : (Cond.laysFinal RX6 "DriftPlansModel" "best" "[I") ∈ lw_tbl := wt_ (List.mem_of_getElem? (i := 710) (by decide +kernel))
theorem wl_X6_17 : (Cond.lays RX6 "DriftPlansModel" "many" "I") ∈ lw_tbl := wt_ (List.mem_of_getElem? (i := 712) (by decide +kernel))
theorem wl_X6_18 : (Cond.laysFinal RX6 "DriftPlansModel" "bySets" "[J") ∈ lw_tbl := wt_ (List.mem_of_getElem? (i := 714) (by decide +kernel))
theorem wl_X6_19 : (Cond.lays RX6 "DriftPlansModel" "spot" "I") ∈ lw_tbl := wt_ (List.mem_of_getElem? (i := 716) (by decide +kernel))
theorem wl_X6_20 : (Cond.lays RX6 "DriftPlansModel" "deeds" "I") ∈ lw_tbl := wt_ (List.mem_of_getElem? (i := 718) (by decide +kernel))
theorem wl_X6_21 : (Cond.laysFinal RX6 "DriftPlansModel" "deed" "[I") ∈ lw_tbl := wt_ (List.mem_of_getElem? (i := 720) (by decide +kernel))
theorem wcl_X6 : ∀ w ∈ wsX60, w ∈ lw_tbl := by
  show ∀ w ∈ [Cond.laysFinal RX6 "DriftPlansModel" "s" "[I", Cond.laysFinal RX6 "DriftPlansModel" "past" "[I", Cond.laysFinal RX6 "DriftPlansModel" "kept" "[I", Cond.laysFinal RX6 "DriftPlansModel" "spare" "[I", Cond.laysFinal RX6 "DriftPlansModel" "paid" "[J", Cond.laysFinal RX6 "DriftPlansModel" "pastPaid" "[J", Cond.laysFinal RX6 "DriftPlansModel" "keptPaid" "[J", Cond.laysFinal RX6 "DriftPlansModel" "sparePaid" "[J", Cond.lays RX6 "DriftPlansModel" "isKept" "Z", Cond.lays RX6 "DriftPlansModel" "pasts" "I", Cond.lays RX6 "DriftPlansModel" "runs" "Z", Cond.laysFinal RX6 "DriftPlansModel" "pad" "[I", Cond.lays RX6 "DriftPlansModel" "typed" "I", Cond.lays RX6 "DriftPlansModel" "isStopped" "Z", Cond.laysFinal RX6 "DriftPlansModel" "stop" "[I", Cond.laysFinal RX6 "DriftPlansModel" "order" "[I", Cond.laysFinal RX6 "DriftPlansModel" "best" "[I", Cond.lays RX6 "DriftPlansModel" "many" "I", Cond.laysFinal RX6 "DriftPlansModel" "bySets" "[J", Cond.lays RX6 "DriftPlansModel" "spot" "I", Cond.lays RX6 "DriftPlansModel" "deeds" "I", Cond.laysFinal RX6 "DriftPlansModel" "deed" "[I"], w ∈ lw_tbl
  exact List.forall_mem_cons.mpr ⟨wl_X6_0, List.forall_mem_cons.mpr ⟨wl_X6_1, List.forall_mem_cons.mpr ⟨wl_X6_2, List.forall_mem_cons.mpr ⟨wl_X6_3, List.forall_mem_cons.mpr ⟨wl_X6_4, List.forall_mem_cons.mpr ⟨wl_X6_5, List.forall_mem_cons.mpr ⟨wl_X6_6, List.forall_mem_cons.mpr ⟨wl_X6_7, List.forall_mem_cons.mpr ⟨wl_X6_8, List.forall_mem_cons.mpr ⟨wl_X6_9, List.forall_mem_cons.mpr ⟨wl_X6_10, List.forall_mem_cons.mpr ⟨wl_X6_11, List.forall_mem_cons.mpr ⟨wl_X6_12, List.forall_mem_cons.mpr ⟨wl_X6_13, List.forall_mem_cons.mpr ⟨wl_X6_14, List.forall_mem_cons.mpr ⟨wl_X6_15, List.forall_mem_cons.mpr ⟨wl_X6_16, List.forall_mem_cons.mpr ⟨wl_X6_17, List.forall_mem_cons.mpr ⟨wl_X6_18, List.forall_mem_cons.mpr ⟨wl_X6_19, List.forall_mem_cons.mpr ⟨wl_X6_20, List.forall_mem_cons.mpr ⟨wl_X6_21, (fun _ h => absurd h List.not_mem_nil)⟩⟩⟩⟩⟩⟩⟩⟩⟩⟩⟩⟩⟩⟩⟩⟩⟩⟩⟩⟩⟩⟩
theorem wl_X4_0 : (Cond.laysFinal RX4 "DriftPlans$State" "rows" "[I") ∈ lw_tbl := wt_ (List.mem_of_getElem? (i := 89) (by decide +kernel))
theorem wl_X4_1 : (Cond.laysFinal RX4 "DriftPlans$State" "guesses" "[I") ∈ lw_tbl := wt_ (List.mem_of_getElem? (i := 91) (by decide +kernel))
theorem wl_X4_2 : (Cond.laysFinal RX4 "DriftPlans$State" "parts" "[[I") ∈ lw_tbl := wt_ (List.mem_of_getElem? (i := 93) (by decide +kernel))
theorem wl_X4_3 : (Cond.laysFinal RX4 "DriftPlans$State" "kept" "Ljava/util/ArrayList;") ∈ lw_tbl := wt_ (List.mem_of_getElem? (i := 95) (by decide +kernel))
theorem wl_X4_4 : (Cond.lays RX4 "DriftPlans$State" "driftLimit" "I") ∈ lw_tbl := wt_ (List.mem_of_getElem? (i := 97) (by decide +kernel))
theorem wl_X4_5 : (Cond.lays RX4 "DriftPlans$State" "hits" "J") ∈ lw_tbl := wt_ (List.mem_of_getElem? (i := 99) (by decide +kernel))
theorem wl_X4_6 : (Cond.lays RX4 "DriftPlans$State" "misses" "J") ∈ lw_tbl := wt_ (List.mem_of_getElem? (i := 101) (by decide +kernel))
theorem wl_X4_7 : (Cond.lays RX4 "DriftPlans$State" "runCosts" "J") ∈ lw_tbl := wt_ (List.mem_of_getElem? (i := 103) (by decide +kernel))
theorem wl_X4_8 : (Cond.lays RX4 "DriftPlans$State" "makingCosts" "J") ∈ lw_tbl := wt_ (List.mem_of_getElem? (i := 105) (by decide +kernel))
theorem wl_X4_9 : (Cond.lays RX4 "DriftPlans$State" "driftedOut" "J") ∈ lw_tbl := wt_ (List.mem_of_getElem? (i := 107) (by decide +kernel))
theorem wl_X4_10 : (Cond.lays RX4 "DriftPlans$State" "pushedOut" "J") ∈ lw_tbl := wt_ (List.mem_of_getElem? (i := 109) (by decide +kernel))
theorem wl_X4_11 : (Cond.lays RX4 "DriftPlans$State" "joinedOut" "J") ∈ lw_tbl := wt_ (List.mem_of_getElem? (i := 111) (by decide +kernel))
theorem wl_X4_12 : (Cond.lays RX4 "DriftPlans$State" "forgotten" "J") ∈ lw_tbl := wt_ (List.mem_of_getElem? (i := 113) (by decide +kernel))
theorem wl_X4_13 : (Cond.lays RX4 "DriftPlans$State" "usedOnly" "J") ∈ lw_tbl := wt_ (List.mem_of_getElem? (i := 115) (by decide +kernel))
theorem wcl_X4 : ∀ w ∈ wsX40, w ∈ lw_tbl := by
  show ∀ w ∈ [Cond.laysFinal RX4 "DriftPlans$State" "rows" "[I", Cond.laysFinal RX4 "DriftPlans$State" "guesses" "[I", Cond.laysFinal RX4 "DriftPlans$State" "parts" "[[I", Cond.laysFinal RX4 "DriftPlans$State" "kept" "Ljava/util/ArrayList;", Cond.lays RX4 "DriftPlans$State" "driftLimit" "I", Cond.lays RX4 "DriftPlans$State" "hits" "J", Cond.lays RX4 "DriftPlans$State" "misses" "J", Cond.lays RX4 "DriftPlans$State" "runCosts" "J", Cond.lays RX4 "DriftPlans$State" "makingCosts" "J", Cond.lays RX4 "DriftPlans$State" "driftedOut" "J", Cond.lays RX4 "DriftPlans$State" "pushedOut" "J", Cond.lays RX4 "DriftPlans$State" "joinedOut" "J", Cond.lays RX4 "DriftPlans$State" "forgotten" "J", Cond.lays RX4 "DriftPlans$State" "usedOnly" "J"], w ∈ lw_tbl
  exact List.forall_mem_cons.mpr ⟨wl_X4_0, List.forall_mem_cons.mpr ⟨wl_X4_1, List.forall_mem_cons.mpr ⟨wl_X4_2, List.forall_mem_cons.mpr ⟨wl_X4_3, List.forall_mem_cons.mpr ⟨wl_X4_4, List.forall_mem_cons.mpr ⟨wl_X4_5, List.forall_mem_cons.mpr ⟨wl_X4_6, List.forall_mem_cons.mpr ⟨wl_X4_7, List.forall_mem_cons.mpr ⟨wl_X4_8, List.forall_mem_cons.mpr ⟨wl_X4_9, List.forall_mem_cons.mpr ⟨wl_X4_10, List.forall_mem_cons.mpr ⟨wl_X4_11, List.forall_mem_cons.mpr ⟨wl_X4_12, List.forall_mem_cons.mpr ⟨wl_X4_13, (fun _ h => absurd h List.not_mem_nil)⟩⟩⟩⟩⟩⟩⟩⟩⟩⟩⟩⟩⟩⟩
theorem wl_Jx4a65c_0 : (Cond.lays RJx4a65c "java/util/AbstractList" "modCount" "I") ∈ lw_tbl := wt_ (List.mem_of_getElem? (i := 57) (by decide +kernel))
theorem wl_Jx4a65c_1 : (Cond.lays RJx4a65c "java/util/ArrayList" "elementData" "[Ljava/lang/Object;") ∈ lw_tbl := wt_ (List.mem_of_getElem? (i := 53) (by decide +kernel))
theorem wl_Jx4a65c_2 : (Cond.lays RJx4a65c "java/util/ArrayList" "size" "I") ∈ lw_tbl := wt_ (List.mem_of_getElem? (i := 55) (by decide +kernel))
theorem wcl_Jx4a65c : ∀ w ∈ wsJx4a65c0, w ∈ lw_tbl := by
  show ∀ w ∈ [Cond.lays RJx4a65c "java/util/AbstractList" "modCount" "I", Cond.lays RJx4a65c "java/util/ArrayList" "elementData" "[Ljava/lang/Object;", Cond.lays RJx4a65c "java/util/ArrayList" "size" "I"], w ∈ lw_tbl
  exact List.forall_mem_cons.mpr ⟨wl_Jx4a65c_0, List.forall_mem_cons.mpr ⟨wl_Jx4a65c_1, List.forall_mem_cons.mpr ⟨wl_Jx4a65c_2, (fun _ h => absurd h List.not_mem_nil)⟩⟩⟩
theorem wl_X3_0 : (Cond.laysFinal RX3 "DriftPlans$Reckoner" "products" "[J") ∈ lw_tbl := wt_ (List.mem_of_getElem? (i := 129) (by decide +kernel))
theorem wl_X3_1 : (Cond.laysFinal RX3 "DriftPlans$Reckoner" "leastCosts" "[J") ∈ lw_tbl := wt_ (List.mem_of_getElem? (i := 131) (by decide +kernel))
theorem wl_X3_2 : (Cond.laysFinal RX3 "DriftPlans$Reckoner" "bestOrders" "[I") ∈ lw_tbl := wt_ (List.mem_of_getElem? (i := 133) (by decide +kernel))
theorem wcl_X3 : ∀ w ∈ wsX30, w ∈ lw_tbl := by
  show ∀ w ∈ [Cond.laysFinal RX3 "DriftPlans$Reckoner" "products" "[J", Cond.laysFinal RX3 "DriftPlans$Reckoner" "leastCosts" "[J", Cond.laysFinal RX3 "DriftPlans$Reckoner" "bestOrders" "[I"], w ∈ lw_tbl
  exact List.forall_mem_cons.mpr ⟨wl_X3_0, List.forall_mem_cons.mpr ⟨wl_X3_1, List.forall_mem_cons.mpr ⟨wl_X3_2, (fun _ h => absurd h List.not_mem_nil)⟩⟩⟩
theorem wl_X1_0 : (Cond.laysFinal RX1 "DriftPlans$Pad" "signs" "[C") ∈ lw_tbl := wt_ (List.mem_of_getElem? (i := 147) (by decide +kernel))
theorem wl_X1_1 : (Cond.lays RX1 "DriftPlans$Pad" "length" "I") ∈ lw_tbl := wt_ (List.mem_of_getElem? (i := 149) (by decide +kernel))
theorem wcl_X1 : ∀ w ∈ wsX10, w ∈ lw_tbl := by
  show ∀ w ∈ [Cond.laysFinal RX1 "DriftPlans$Pad" "signs" "[C", Cond.lays RX1 "DriftPlans$Pad" "length" "I"], w ∈ lw_tbl
  exact List.forall_mem_cons.mpr ⟨wl_X1_0, List.forall_mem_cons.mpr ⟨wl_X1_1, (fun _ h => absurd h List.not_mem_nil)⟩⟩
theorem wl_X0_0 : (Cond.laysFinal RX0 "DriftPlans$Kept" "shape" "I") ∈ lw_tbl := wt_ (List.mem_of_getElem? (i := 353) (by decide +kernel))
theorem wl_X0_1 : (Cond.laysFinal RX0 "DriftPlans$Kept" "order" "I") ∈ lw_tbl := wt_ (List.mem_of_getElem? (i := 355) (by decide +kernel))
theorem wl_X0_2 : (Cond.laysFinal RX0 "DriftPlans$Kept" "guesses" "[I") ∈ lw_tbl := wt_ (List.mem_of_getElem? (i := 357) (by decide +kernel))
theorem wl_X0_3 : (Cond.laysFinal RX0 "DriftPlans$Kept" "runs" "J") ∈ lw_tbl := wt_ (List.mem_of_getElem? (i := 359) (by decide +kernel))
theorem wl_X0_4 : (Cond.laysFinal RX0 "DriftPlans$Kept" "pinned" "Z") ∈ lw_tbl := wt_ (List.mem_of_getElem? (i := 361) (by decide +kernel))
theorem wcl_X0 : ∀ w ∈ wsX00, w ∈ lw_tbl := by
  show ∀ w ∈ [Cond.laysFinal RX0 "DriftPlans$Kept" "shape" "I", Cond.laysFinal RX0 "DriftPlans$Kept" "order" "I", Cond.laysFinal RX0 "DriftPlans$Kept" "guesses" "[I", Cond.laysFinal RX0 "DriftPlans$Kept" "runs" "J", Cond.laysFinal RX0 "DriftPlans$Kept" "pinned" "Z"], w ∈ lw_tbl
  exact List.forall_mem_cons.mpr ⟨wl_X0_0, List.forall_mem_cons.mpr ⟨wl_X0_1, List.forall_mem_cons.mpr ⟨wl_X0_2, List.forall_mem_cons.mpr ⟨wl_X0_3, List.forall_mem_cons.mpr ⟨wl_X0_4, (fun _ h => absurd h List.not_mem_nil)⟩⟩⟩⟩⟩
theorem wl_X2_0 : (Cond.laysFinal RX2 "DriftPlans$Reader" "pad" "LDriftPlans$Pad;") ∈ lw_tbl := wt_ (List.mem_of_getElem? (i := 490) (by decide +kernel))
theorem wl_X2_1 : (Cond.lays RX2 "DriftPlans$Reader" "next" "I") ∈ lw_tbl := wt_ (List.mem_of_getElem? (i := 492) (by decide +kernel))
theorem wl_X2_2 : (Cond.lays RX2 "DriftPlans$Reader" "start" "I") ∈ lw_tbl := wt_ (List.mem_of_getElem? (i := 494) (by decide +kernel))
theorem wl_X2_3 : (Cond.lays RX2 "DriftPlans$Reader" "letter" "C") ∈ lw_tbl := wt_ (List.mem_of_getElem? (i := 496) (by decide +kernel))
theorem wl_X2_4 : (Cond.lays RX2 "DriftPlans$Reader" "tables" "I") ∈ lw_tbl := wt_ (List.mem_of_getElem? (i := 498) (by decide +kernel))
theorem wl_X2_5 : (Cond.lays RX2 "DriftPlans$Reader" "table" "I") ∈ lw_tbl := wt_ (List.mem_of_getElem? (i := 500) (by decide +kernel))
theorem wl_X2_6 : (Cond.lays RX2 "DriftPlans$Reader" "number" "I") ∈ lw_tbl := wt_ (List.mem_of_getElem? (i := 502) (by decide +kernel))
theorem wcl_X2 : ∀ w ∈ wsX20, w ∈ lw_tbl := by
  show ∀ w ∈ [Cond.laysFinal RX2 "DriftPlans$Reader" "pad" "LDriftPlans$Pad;", Cond.lays RX2 "DriftPlans$Reader" "next" "I", Cond.lays RX2 "DriftPlans$Reader" "start" "I", Cond.lays RX2 "DriftPlans$Reader" "letter" "C", Cond.lays RX2 "DriftPlans$Reader" "tables" "I", Cond.lays RX2 "DriftPlans$Reader" "table" "I", Cond.lays RX2 "DriftPlans$Reader" "number" "I"], w ∈ lw_tbl
  exact List.forall_mem_cons.mpr ⟨wl_X2_0, List.forall_mem_cons.mpr ⟨wl_X2_1, List.forall_mem_cons.mpr ⟨wl_X2_2, List.forall_mem_cons.mpr ⟨wl_X2_3, List.forall_mem_cons.mpr ⟨wl_X2_4, List.forall_mem_cons.mpr ⟨wl_X2_5, List.forall_mem_cons.mpr ⟨wl_X2_6, (fun _ h => absurd h List.not_mem_nil)⟩⟩⟩⟩⟩⟩⟩
theorem wa_ {P : Cond → Prop} {a b : List Cond} (ha : ∀ w ∈ a, P w) (hb : ∀ w ∈ b, P w) : ∀ w ∈ a ++ b, P w := fun w h => (List.mem_append.mp h).elim (ha w) (hb w)
theorem wsL_law_in : ∀ w ∈ wsL_law, w ∈ lw_tbl := wa_ (wa_ (wa_ (wa_ (wa_ (wa_ (wa_ (wa_ (wa_ (wa_ wc_1 (wa_ wc_2 (wa_ wc_3 (wa_ wc_4 (wa_ wc_5 (wa_ wc_6 (wa_ wc_7 (wa_ wc_8 (wa_ wc_9 (wa_ wc_10 (wa_ wc_11 (wa_ wc_12 (wa_ wc_13 (wa_ wc_14 (wa_ wc_15 (wa_ wc_16 (wa_ wc_17 (wa_ wc_18 (wa_ wc_19 (wa_ wc_20 (wa_ wc_21 (wa_ wc_22 (wa_ wc_23 (wa_ wc_24 (wa_ wc_25 (wa_ wc_26 (wa_ wc_27 (wa_ wc_28 (wa_ wc_29 (wa_ wc_30 (wa_ wc_31 (wa_ wc_32 (wa_ wc_33 (wa_ wc_34 (wc_35))))))))))))))))))))))))))))))))))) wcl_X5) wcl_X6) wcl_X4) wcl_Jx4a65c) wcl_X3) wcl_X1) wcl_X0) wcl_X2) (fun _ h => absurd h List.not_mem_nil)
theorem inlX0 : ∀ w ∈ wsX00, w ∈ wsL_law := fun _ h => List.mem_append_left _ (List.mem_append_left _ (List.mem_append_right _ h))
theorem inX0 : ∀ w ∈ wsX00, w ∈ lw_tbl := fun w h => wsL_law_in w (inlX0 w h)
theorem inlX1 : ∀ w ∈ wsX10, w ∈ wsL_law := fun _ h => List.mem_append_left _ (List.mem_append_left _ (List.mem_append_left _ (List.mem_append_right _ h)))
theorem inX1 : ∀ w ∈ wsX10, w ∈ lw_tbl := fun w h => wsL_law_in w (inlX1 w h)
theorem inlX2 : ∀ w ∈ wsX20, w ∈ wsL_law := fun _ h => List.mem_append_left _ (List.mem_append_right _ h)
theorem inX2 : ∀ w ∈ wsX20, w ∈ lw_tbl := fun w h => wsL_law_in w (inlX2 w h)
theorem inlX3 : ∀ w ∈ wsX30, w ∈ wsL_law := fun _ h => List.mem_append_left _ (List.mem_append_left _ (List.mem_append_left _ (List.mem_append_left _ (List.mem_append_right _ h))))
theorem inX3 : ∀ w ∈ wsX30, w ∈ lw_tbl := fun w h => wsL_law_in w (inlX3 w h)
theorem inlX4 : ∀ w ∈ wsX40, w ∈ wsL_law := fun _ h => List.mem_append_left _ (List.mem_append_left _ (List.mem_append_left _ (List.mem_append_left _ (List.mem_append_left _ (List.mem_append_left _ (List.mem_append_right _ h))))))
theorem inX4 : ∀ w ∈ wsX40, w ∈ lw_tbl := fun w h => wsL_law_in w (inlX4 w h)
theorem inlX5 : ∀ w ∈ wsX50, w ∈ wsL_law := fun _ h => List.mem_append_left _ (List.mem_append_left _ (List.mem_append_left _ (List.mem_append_left _ (List.mem_append_left _ (List.mem_append_left _ (List.mem_append_left _ (List.mem_append_left _ (List.mem_append_right _ h))))))))
theorem inX5 : ∀ w ∈ wsX50, w ∈ lw_tbl := fun w h => wsL_law_in w (inlX5 w h)
theorem inlX6 : ∀ w ∈ wsX60, w ∈ wsL_law := fun _ h => List.mem_append_left _ (List.mem_append_left _ (List.mem_append_left _ (List.mem_append_left _ (List.mem_append_left _ (List.mem_append_left _ (List.mem_append_left _ (List.mem_append_right _ h)))))))
theorem inX6 : ∀ w ∈ wsX60, w ∈ lw_tbl := fun w h => wsL_law_in w (inlX6 w h)
theorem inJx145de : ∀ w ∈ wsJx145de0, w ∈ lw_tbl := by decide +kernel
theorem inJx8e188 : ∀ w ∈ wsJx8e1880, w ∈ lw_tbl := by decide +kernel
theorem inJ6 : ∀ w ∈ wsJ60, w ∈ lw_tbl := by decide +kernel
theorem inJxab1ab : ∀ w ∈ wsJxab1ab0, w ∈ lw_tbl := by decide +kernel
theorem inJ9 : ∀ w ∈ wsJ90, w ∈ lw_tbl := by decide +kernel
theorem inJ10 : ∀ w ∈ wsJ100, w ∈ lw_tbl := by decide +kernel
theorem inJxa1e45 : ∀ w ∈ wsJxa1e450, w ∈ lw_tbl := by decide +kernel
theorem inJxc12de : ∀ w ∈ wsJxc12de0, w ∈ lw_tbl := by decide +kernel
theorem inlJx4a65c : ∀ w ∈ wsJx4a65c0, w ∈ wsL_law := fun _ h => List.mem_append_left _ (List.mem_append_left _ (List.mem_append_left _ (List.mem_append_left _ (List.mem_append_left _ (List.mem_append_right _ h)))))
theorem inJx4a65c : ∀ w ∈ wsJx4a65c0, w ∈ lw_tbl := fun w h => wsL_law_in w (inlJx4a65c w h)
theorem inJ7 : ∀ w ∈ wsJ70, w ∈ lw_tbl := by decide +kernel
theorem inJx5ef63 : ∀ w ∈ wsJx5ef630, w ∈ lw_tbl := by decide +kernel
theorem inJxbd725 : ∀ w ∈ wsJxbd7250, w ∈ lw_tbl := by decide +kernel
theorem inJ15 : ∀ w ∈ wsJ150, w ∈ lw_tbl := by decide +kernel
theorem inJxf0a74 : ∀ w ∈ wsJxf0a740, w ∈ lw_tbl := by decide +kernel
theorem inJxa66e6 : ∀ w ∈ wsJxa66e60, w ∈ lw_tbl := by decide +kernel
theorem inJ8 : ∀ w ∈ wsJ80, w ∈ lw_tbl := by decide +kernel
theorem inJ3 : ∀ w ∈ wsJ30, w ∈ lw_tbl := by decide +kernel
theorem wr_1 : ∀ w ∈ wsL_law_r1, w ∈ wsL_law := fun _ h => List.mem_append_left _ (List.mem_append_left _ (List.mem_append_left _ (List.mem_append_left _ (List.mem_append_left _ (List.mem_append_left _ (List.mem_append_left _ (List.mem_append_left _ (List.mem_append_left _ (List.mem_append_left _ h)))))))))
theorem wr_2 : ∀ w ∈ wsL_law_r2, w ∈ wsL_law := fun _ h => List.mem_append_left _ (List.mem_append_left _ (List.mem_append_left _ (List.mem_append_left _ (List.mem_append_left _ (List.mem_append_left _ (List.mem_append_left _ (List.mem_append_left _ (List.mem_append_left _ (List.mem_append_right _ (List.mem_append_left _ h))))))))))
theorem wr_3 : ∀ w ∈ wsL_law_r3, w ∈ wsL_law := fun _ h => List.mem_append_left _ (List.mem_append_left _ (List.mem_append_left _ (List.mem_append_left _ (List.mem_append_left _ (List.mem_append_left _ (List.mem_append_left _ (List.mem_append_left _ (List.mem_append_left _ (List.mem_append_right _ (List.mem_append_right _ (List.mem_append_left _ h)))))))))))
theorem wr_4 : ∀ w ∈ wsL_law_r4, w ∈ wsL_law := fun _ h => List.mem_append_left _ (List.mem_append_left _ (List.mem_append_left _ (List.mem_append_left _ (List.mem_append_left _ (List.mem_append_left _ (List.mem_append_left _ (List.mem_append_left _ (List.mem_append_left _ (List.mem_append_right _ (List.mem_append_right _ (List.mem_append_right _ (List.mem_append_left _ h))))))))))))
theorem wr_5 : ∀ w ∈ wsL_law_r5, w ∈ wsL_law := fun _ h => List.mem_append_left _ (List.mem_append_left _ (List.mem_append_left _ (List.mem_append_left _ (List.mem_append_left _ (List.mem_append_left _ (List.mem_append_left _ (List.mem_append_left _ (List.mem_append_left _ (List.mem_append_right _ (List.mem_append_right _ (List.mem_append_right _ (List.mem_append_right _ (List.mem_append_left _ h)))))))))))))
theorem wr_6 : ∀ w ∈ wsL_law_r6, w ∈ wsL_law := fun _ h => List.mem_append_left _ (List.mem_append_left _ (List.mem_append_left _ (List.mem_append_left _ (List.mem_append_left _ (List.mem_append_left _ (List.mem_append_left _ (List.mem_append_left _ (List.mem_append_left _ (List.mem_append_right _ (List.mem_append_right _ (List.mem_append_right _ (List.mem_append_right _ (List.mem_append_right _ (List.mem_append_left _ h))))))))))))))
theorem wr_7 : ∀ w ∈ wsL_law_r7, w ∈ wsL_law := fun _ h => List.mem_append_left _ (List.mem_append_left _ (List.mem_append_left _ (List.mem_append_left _ (List.mem_append_left _ (List.mem_append_left _ (List.mem_append_left _ (List.mem_append_left _ (List.mem_append_left _ (List.mem_append_right _ (List.mem_append_right _ (List.mem_append_right _ (List.mem_append_right _ (List.mem_append_right _ (List.mem_append_right _ (List.mem_append_left _ h)))))))))))))))
theorem wr_8 : ∀ w ∈ wsL_law_r8, w ∈ wsL_law := fun _ h => List.mem_append_left _ (List.mem_append_left _ (List.mem_append_left _ (List.mem_append_left _ (List.mem_append_left _ (List.mem_append_left _ (List.mem_append_left _ (List.mem_append_left _ (List.mem_append_left _ (List.mem_append_right _ (List.mem_append_right _ (List.mem_append_right _ (List.mem_append_right _ (List.mem_append_right _ (List.mem_append_right _ (List.mem_append_right _ (List.mem_append_left _ h))))))))))))))))
theorem wr_9 : ∀ w ∈ wsL_law_r9, w ∈ wsL_law := fun _ h => List.mem_append_left _ (List.mem_append_left _ (List.mem_append_left _ (List.mem_append_left _ (List.mem_append_left _ (List.mem_append_left _ (List.mem_append_left _ (List.mem_append_left _ (List.mem_append_left _ (List.mem_append_right _ (List.mem_append_right _ (List.mem_append_right _ (List.mem_append_right _ (List.mem_append_right _ (List.mem_append_right _ (List.mem_append_right _ (List.mem_append_right _ (List.mem_append_left _ h)))))))))))))))))
theorem wr_10 : ∀ w ∈ wsL_law_r10, w ∈ wsL_law := fun _ h => List.mem_append_left _ (List.mem_append_left _ (List.mem_append_left _ (List.mem_append_left _ (List.mem_append_left _ (List.mem_append_left _ (List.mem_append_left _ (List.mem_append_left _ (List.mem_append_left _ (List.mem_append_right _ (List.mem_append_right _ (List.mem_append_right _ (List.mem_append_right _ (List.mem_append_right _ (List.mem_append_right _ (List.mem_append_right _ (List.mem_append_right _ (List.mem_append_right _ (List.mem_append_left _ h))))))))))))))))))
theorem wr_11 : ∀ w ∈ wsL_law_r11, w ∈ wsL_law := fun _ h => List.mem_append_left _ (List.mem_append_left _ (List.mem_append_left _ (List.mem_append_left _ (List.mem_append_left _ (List.mem_append_left _ (List.mem_append_left _ (List.mem_append_left _ (List.mem_append_left _ (List.mem_append_right _ (List.mem_append_right _ (List.mem_append_right _ (List.mem_append_right _ (List.mem_append_right _ (List.mem_append_right _ (List.mem_append_right _ (List.mem_append_right _ (List.mem_append_right _ (List.mem_append_right _ (List.mem_append_left _ h)))))))))))))))))))
theorem wr_12 : ∀ w ∈ wsL_law_r12, w ∈ wsL_law := fun _ h => List.mem_append_left _ (List.mem_append_left _ (List.mem_append_left _ (List.mem_append_left _ (List.mem_append_left _ (List.mem_append_left _ (List.mem_append_left _ (List.mem_append_left _ (List.mem_append_left _ (List.mem_append_right _ (List.mem_append_right _ (List.mem_append_right _ (List.mem_append_right _ (List.mem_append_right _ (List.mem_append_right _ (List.mem_append_right _ (List.mem_append_right _ (List.mem_append_right _ (List.mem_append_right _ (List.mem_append_right _ (List.mem_append_left _ h))))))))))))))))))))
theorem wr_13 : ∀ w ∈ wsL_law_r13, w ∈ wsL_law := fun _ h => List.mem_append_left _ (List.mem_append_left _ (List.mem_append_left _ (List.mem_append_left _ (List.mem_append_left _ (List.mem_append_left _ (List.mem_append_left _ (List.mem_append_left _ (List.mem_append_left _ (List.mem_append_right _ (List.mem_append_right _ (List.mem_append_right _ (List.mem_append_right _ (List.mem_append_right _ (List.mem_append_right _ (List.mem_append_right _ (List.mem_append_right _ (List.mem_append_right _ (List.mem_append_right _ (List.mem_append_right _ (List.mem_append_right _ (List.mem_append_left _ h)))))))))))))))))))))
theorem wr_14 : ∀ w ∈ wsL_law_r14, w ∈ wsL_law := fun _ h => List.mem_append_left _ (List.mem_append_left _ (List.mem_append_left _ (List.mem_append_left _ (List.mem_append_left _ (List.mem_append_left _ (List.mem_append_left _ (List.mem_append_left _ (List.mem_append_left _ (List.mem_append_right _ (List.mem_append_right _ (List.mem_append_right _ (List.mem_append_right _ (List.mem_append_right _ (List.mem_append_right _ (List.mem_append_right _ (List.mem_append_right _ (List.mem_append_right _ (List.mem_append_right _ (List.mem_append_right _ (List.mem_append_right _ (List.mem_append_right _ (List.mem_append_left _ h))))))))))))))))))))))
theorem wr_15 : ∀ w ∈ wsL_law_r15, w ∈ wsL_law := fun _ h => List.mem_append_left _ (List.mem_append_left _ (List.mem_append_left _ (List.mem_append_left _ (List.mem_append_left _ (List.mem_append_left _ (List.mem_append_left _ (List.mem_append_left _ (List.mem_append_left _ (List.mem_append_right _ (List.mem_append_right _ (List.mem_append_right _ (List.mem_append_right _ (List.mem_append_right _ (List.mem_append_right _ (List.mem_append_right _ (List.mem_append_right _ (List.mem_append_right _ (List.mem_append_right _ (List.mem_append_right _ (List.mem_append_right _ (List.mem_append_right _ (List.mem_append_right _ (List.mem_append_left _ h)))))))))))))))))))))))
theorem wr_16 : ∀ w ∈ wsL_law_r16, w ∈ wsL_law := fun _ h => List.mem_append_left _ (List.mem_append_left _ (List.mem_append_left _ (List.mem_append_left _ (List.mem_append_left _ (List.mem_append_left _ (List.mem_append_left _ (List.mem_append_left _ (List.mem_append_left _ (List.mem_append_right _ (List.mem_append_right _ (List.mem_append_right _ (List.mem_append_right _ (List.mem_append_right _ (List.mem_append_right _ (List.mem_append_right _ (List.mem_append_right _ (List.mem_append_right _ (List.mem_append_right _ (List.mem_append_right _ (List.mem_append_right _ (List.mem_append_right _ (List.mem_append_right _ (List.mem_append_right _ (List.mem_append_left _ h))))))))))))))))))))))))
theorem wr_17 : ∀ w ∈ wsL_law_r17, w ∈ wsL_law := fun _ h => List.mem_append_left _ (List.mem_append_left _ (List.mem_append_left _ (List.mem_append_left _ (List.mem_append_left _ (List.mem_append_left _ (List.mem_append_left _ (List.mem_append_left _ (List.mem_append_left _ (List.mem_append_right _ (List.mem_append_right _ (List.mem_append_right _ (List.mem_append_right _ (List.mem_append_right _ (List.mem_append_right _ (List.mem_append_right _ (List.mem_append_right _ (List.mem_append_right _ (List.mem_append_right _ (List.mem_append_right _ (List.mem_append_right _ (List.mem_append_right _ (List.mem_append_right _ (List.mem_append_right _ (List.mem_append_right _ (List.mem_append_left _ h)))))))))))))))))))))))))
theorem wr_18 : ∀ w ∈ wsL_law_r18, w ∈ wsL_law := fun _ h => List.mem_append_left _ (List.mem_append_left _ (List.mem_append_left _ (List.mem_append_left _ (List.mem_append_left _ (List.mem_append_left _ (List.mem_append_left _ (List.mem_append_left _ (List.mem_append_left _ (List.mem_append_right _ (List.mem_append_right _ (List.mem_append_right _ (List.mem_append_right _ (List.mem_append_right _ (List.mem_append_right _ (List.mem_append_right _ (List.mem_append_right _ (List.mem_append_right _ (List.mem_append_right _ (List.mem_append_right _ (List.mem_append_right _ (List.mem_append_right _ (List.mem_append_right _ (List.mem_append_right _ (List.mem_append_right _ (List.mem_append_right _ (List.mem_append_left _ h))))))))))))))))))))))))))
theorem wr_19 : ∀ w ∈ wsL_law_r19, w ∈ wsL_law := fun _ h => List.mem_append_left _ (List.mem_append_left _ (List.mem_append_left _ (List.mem_append_left _ (List.mem_append_left _ (List.mem_append_left _ (List.mem_append_left _ (List.mem_append_left _ (List.mem_append_left _ (List.mem_append_right _ (List.mem_append_right _ (List.mem_append_right _ (List.mem_append_right _ (List.mem_append_right _ (List.mem_append_right _ (List.mem_append_right _ (List.mem_append_right _ (List.mem_append_right _ (List.mem_append_right _ (List.mem_append_right _ (List.mem_append_right _ (List.mem_append_right _ (List.mem_append_right _ (List.mem_append_right _ (List.mem_append_right _ (List.mem_append_right _ (List.mem_append_right _ (List.mem_append_left _ h)))))))))))))))))))))))))))
theorem wr_20 : ∀ w ∈ wsL_law_r20, w ∈ wsL_law := fun _ h => List.mem_append_left _ (List.mem_append_left _ (List.mem_append_left _ (List.mem_append_left _ (List.mem_append_left _ (List.mem_append_left _ (List.mem_append_left _ (List.mem_append_left _ (List.mem_append_left _ (List.mem_append_right _ (List.mem_append_right _ (List.mem_append_right _ (List.mem_append_right _ (List.mem_append_right _ (List.mem_append_right _ (List.mem_append_right _ (List.mem_append_right _ (List.mem_append_right _ (List.mem_append_right _ (List.mem_append_right _ (List.mem_append_right _ (List.mem_append_right _ (List.mem_append_right _ (List.mem_append_right _ (List.mem_append_right _ (List.mem_append_right _ (List.mem_append_right _ (List.mem_append_right _ (List.mem_append_left _ h))))))))))))))))))))))))))))
theorem wr_21 : ∀ w ∈ wsL_law_r21, w ∈ wsL_law := fun _ h => List.mem_append_left _ (List.mem_append_left _ (List.mem_append_left _ (List.mem_append_left _ (List.mem_append_left _ (List.mem_append_left _ (List.mem_append_left _ (List.mem_append_left _ (List.mem_append_left _ (List.mem_append_right _ (List.mem_append_right _ (List.mem_append_right _ (List.mem_append_right _ (List.mem_append_right _ (List.mem_append_right _ (List.mem_append_right _ (List.mem_append_right _ (List.mem_append_right _ (List.mem_append_right _ (List.mem_append_right _ (List.mem_append_right _ (List.mem_append_right _ (List.mem_append_right _ (List.mem_append_right _ (List.mem_append_right _ (List.mem_append_right _ (List.mem_append_right _ (List.mem_append_right _ (List.mem_append_right _ (List.mem_append_left _ h)))))))))))))))))))))))))))))
theorem wr_22 : ∀ w ∈ wsL_law_r22, w ∈ wsL_law := fun _ h => List.mem_append_left _ (List.mem_append_left _ (List.mem_append_left _ (List.mem_append_left _ (List.mem_append_left _ (List.mem_append_left _ (List.mem_append_left _ (List.mem_append_left _ (List.mem_append_left _ (List.mem_append_right _ (List.mem_append_right _ (List.mem_append_right _ (List.mem_append_right _ (List.mem_append_right _ (List.mem_append_right _ (List.mem_append_right _ (List.mem_append_right _ (List.mem_append_right _ (List.mem_append_right _ (List.mem_append_right _ (List.mem_append_right _ (List.mem_append_right _ (List.mem_append_right _ (List.mem_append_right _ (List.mem_append_right _ (List.mem_append_right _ (List.mem_append_right _ (List.mem_append_right _ (List.mem_append_right _ (List.mem_append_right _ (List.mem_append_left _ h))))))))))))))))))))))))))))))
theorem wr_23 : ∀ w ∈ wsL_law_r23, w ∈ wsL_law := fun _ h => List.mem_append_left _ (List.mem_append_left _ (List.mem_append_left _ (List.mem_append_left _ (List.mem_append_left _ (List.mem_append_left _ (List.mem_append_left _ (List.mem_append_left _ (List.mem_append_left _ (List.mem_append_right _ (List.mem_append_right _ (List.mem_append_right _ (List.mem_append_right _ (List.mem_append_right _ (List.mem_append_right _ (List.mem_append_right _ (List.mem_append_right _ (List.mem_append_right _ (List.mem_append_right _ (List.mem_append_right _ (List.mem_append_right _ (List.mem_append_right _ (List.mem_append_right _ (List.mem_append_right _ (List.mem_append_right _ (List.mem_append_right _ (List.mem_append_right _ (List.mem_append_right _ (List.mem_append_right _ (List.mem_append_right _ (List.mem_append_right _ (List.mem_append_left _ h)))))))))))))))))))))))))))))))
theorem wr_24 : ∀ w ∈ wsL_law_r24, w ∈ wsL_law := fun _ h => List.mem_append_left _ (List.mem_append_left _ (List.mem_append_left _ (List.mem_append_left _ (List.mem_append_left _ (List.mem_append_left _ (List.mem_append_left _ (List.mem_append_left _ (List.mem_append_left _ (List.mem_append_right _ (List.mem_append_right _ (List.mem_append_right _ (List.mem_append_right _ (List.mem_append_right _ (List.mem_append_right _ (List.mem_append_right _ (List.mem_append_right _ (List.mem_append_right _ (List.mem_append_right _ (List.mem_append_right _ (List.mem_append_right _ (List.mem_append_right _ (List.mem_append_right _ (List.mem_append_right _ (List.mem_append_right _ (List.mem_append_right _ (List.mem_append_right _ (List.mem_append_right _ (List.mem_append_right _ (List.mem_append_right _ (List.mem_append_right _ (List.mem_append_right _ (List.mem_append_left _ h))))))))))))))))))))))))))))))))
theorem wr_25 : ∀ w ∈ wsL_law_r25, w ∈ wsL_law := fun _ h => List.mem_append_left _ (List.mem_append_left _ (List.mem_append_left _ (List.mem_append_left _ (List.mem_append_left _ (List.mem_append_left _ (List.mem_append_left _ (List.mem_append_left _ (List.mem_append_left _ (List.mem_append_right _ (List.mem_append_right _ (List.mem_append_right _ (List.mem_append_right _ (List.mem_append_right _ (List.mem_append_right _ (List.mem_append_right _ (List.mem_append_right _ (List.mem_append_right _ (List.mem_append_right _ (List.mem_append_right _ (List.mem_append_right _ (List.mem_append_right _ (List.mem_append_right _ (List.mem_append_right _ (List.mem_append_right _ (List.mem_append_right _ (List.mem_append_right _ (List.mem_append_right _ (List.mem_append_right _ (List.mem_append_right _ (List.mem_append_right _ (List.mem_append_right _ (List.mem_append_right _ (List.mem_append_left _ h)))))))))))))))))))))))))))))))))
theorem wr_26 : ∀ w ∈ wsL_law_r26, w ∈ wsL_law := fun _ h => List.mem_append_left _ (List.mem_append_left _ (List.mem_append_left _ (List.mem_append_left _ (List.mem_append_left _ (List.mem_append_left _ (List.mem_append_left _ (List.mem_append_left _ (List.mem_append_left _ (List.mem_append_right _ (List.mem_append_right _ (List.mem_append_right _ (List.mem_append_right _ (List.mem_append_right _ (List.mem_append_right _ (List.mem_append_right _ (List.mem_append_right _ (List.mem_append_right _ (List.mem_append_right _ (List.mem_append_right _ (List.mem_append_right _ (List.mem_append_right _ (List.mem_append_right _ (List.mem_append_right _ (List.mem_append_right _ (List.mem_append_right _ (List.mem_append_right _ (List.mem_append_right _ (List.mem_append_right _ (List.mem_append_right _ (List.mem_append_right _ (List.mem_append_right _ (List.mem_append_right _ (List.mem_append_right _ (List.mem_append_left _ h))))))))))))))))))))))))))))))))))
theorem wr_27 : ∀ w ∈ wsL_law_r27, w ∈ wsL_law := fun _ h => List.mem_append_left _ (List.mem_append_left _ (List.mem_append_left _ (List.mem_append_left _ (List.mem_append_left _ (List.mem_append_left _ (List.mem_append_left _ (List.mem_append_left _ (List.mem_append_left _ (List.mem_append_right _ (List.mem_append_right _ (List.mem_append_right _ (List.mem_append_right _ (List.mem_append_right _ (List.mem_append_right _ (List.mem_append_right _ (List.mem_append_right _ (List.mem_append_right _ (List.mem_append_right _ (List.mem_append_right _ (List.mem_append_right _ (List.mem_append_right _ (List.mem_append_right _ (List.mem_append_right _ (List.mem_append_right _ (List.mem_append_right _ (List.mem_append_right _ (List.mem_append_right _ (List.mem_append_right _ (List.mem_append_right _ (List.mem_append_right _ (List.mem_append_right _ (List.mem_append_right _ (List.mem_append_right _ (List.mem_append_right _ (List.mem_append_left _ h)))))))))))))))))))))))))))))))))))
theorem wr_28 : ∀ w ∈ wsL_law_r28, w ∈ wsL_law := fun _ h => List.mem_append_left _ (List.mem_append_left _ (List.mem_append_left _ (List.mem_append_left _ (List.mem_append_left _ (List.mem_append_left _ (List.mem_append_left _ (List.mem_append_left _ (List.mem_append_left _ (List.mem_append_right _ (List.mem_append_right _ (List.mem_append_right _ (List.mem_append_right _ (List.mem_append_right _ (List.mem_append_right _ (List.mem_append_right _ (List.mem_append_right _ (List.mem_append_right _ (List.mem_append_right _ (List.mem_append_right _ (List.mem_append_right _ (List.mem_append_right _ (List.mem_append_right _ (List.mem_append_right _ (List.mem_append_right _ (List.mem_append_right _ (List.mem_append_right _ (List.mem_append_right _ (List.mem_append_right _ (List.mem_append_right _ (List.mem_append_right _ (List.mem_append_right _ (List.mem_append_right _ (List.mem_append_right _ (List.mem_append_right _ (List.mem_append_right _ (List.mem_append_left _ h))))))))))))))))))))))))))))))))))))
theorem wr_29 : ∀ w ∈ wsL_law_r29, w ∈ wsL_law := fun _ h => List.mem_append_left _ (List.mem_append_left _ (List.mem_append_left _ (List.mem_append_left _ (List.mem_append_left _ (List.mem_append_left _ (List.mem_append_left _ (List.mem_append_left _ (List.mem_append_left _ (List.mem_append_right _ (List.mem_append_right _ (List.mem_append_right _ (List.mem_append_right _ (List.mem_append_right _ (List.mem_append_right _ (List.mem_append_right _ (List.mem_append_right _ (List.mem_append_right _ (List.mem_append_right _ (List.mem_append_right _ (List.mem_append_right _ (List.mem_append_right _ (List.mem_append_right _ (List.mem_append_right _ (List.mem_append_right _ (List.mem_append_right _ (List.mem_append_right _ (List.mem_append_right _ (List.mem_append_right _ (List.mem_append_right _ (List.mem_append_right _ (List.mem_append_right _ (List.mem_append_right _ (List.mem_append_right _ (List.mem_append_right _ (List.mem_append_right _ (List.mem_append_right _ (List.mem_append_left _ h)))))))))))))))))))))))))))))))))))))
theorem wr_30 : ∀ w ∈ wsL_law_r30, w ∈ wsL_law := fun _ h => List.mem_append_left _ (List.mem_append_left _ (List.mem_append_left _ (List.mem_append_left _ (List.mem_append_left _ (List.mem_append_left _ (List.mem_append_left _ (List.mem_append_left _ (List.mem_append_left _ (List.mem_append_right _ (List.mem_append_right _ (List.mem_append_right _ (List.mem_append_right _ (List.mem_append_right _ (List.mem_append_right _ (List.mem_append_right _ (List.mem_append_right _ (List.mem_append_right _ (List.mem_append_right _ (List.mem_append_right _ (List.mem_append_right _ (List.mem_append_right _ (List.mem_append_right _ (List.mem_append_right _ (List.mem_append_right _ (List.mem_append_right _ (List.mem_append_right _ (List.mem_append_right _ (List.mem_append_right _ (List.mem_append_right _ (List.mem_append_right _ (List.mem_append_right _ (List.mem_append_right _ (List.mem_append_right _ (List.mem_append_right _ (List.mem_append_right _ (List.mem_append_right _ (List.mem_append_right _ (List.mem_append_left _ h))))))))))))))))))))))))))))))))))))))
theorem wr_31 : ∀ w ∈ wsL_law_r31, w ∈ wsL_law := fun _ h => List.mem_append_left _ (List.mem_append_left _ (List.mem_append_left _ (List.mem_append_left _ (List.mem_append_left _ (List.mem_append_left _ (List.mem_append_left _ (List.mem_append_left _ (List.mem_append_left _ (List.mem_append_right _ (List.mem_append_right _ (List.mem_append_right _ (List.mem_append_right _ (List.mem_append_right _ (List.mem_append_right _ (List.mem_append_right _ (List.mem_append_right _ (List.mem_append_right _ (List.mem_append_right _ (List.mem_append_right _ (List.mem_append_right _ (List.mem_append_right _ (List.mem_append_right _ (List.mem_append_right _ (List.mem_append_right _ (List.mem_append_right _ (List.mem_append_right _ (List.mem_append_right _ (List.mem_append_right _ (List.mem_append_right _ (List.mem_append_right _ (List.mem_append_right _ (List.mem_append_right _ (List.mem_append_right _ (List.mem_append_right _ (List.mem_append_right _ (List.mem_append_right _ (List.mem_append_right _ (List.mem_append_right _ (List.mem_append_left _ h)))))))))))))))))))))))))))))))))))))))
theorem wr_32 : ∀ w ∈ wsL_law_r32, w ∈ wsL_law := fun _ h => List.mem_append_left _ (List.mem_append_left _ (List.mem_append_left _ (List.mem_append_left _ (List.mem_append_left _ (List.mem_append_left _ (List.mem_append_left _ (List.mem_append_left _ (List.mem_append_left _ (List.mem_append_right _ (List.mem_append_right _ (List.mem_append_right _ (List.mem_append_right _ (List.mem_append_right _ (List.mem_append_right _ (List.mem_append_right _ (List.mem_append_right _ (List.mem_append_right _ (List.mem_append_right _ (List.mem_append_right _ (List.mem_append_right _ (List.mem_append_right _ (List.mem_append_right _ (List.mem_append_right _ (List.mem_append_right _ (List.mem_append_right _ (List.mem_append_right _ (List.mem_append_right _ (List.mem_append_right _ (List.mem_append_right _ (List.mem_append_right _ (List.mem_append_right _ (List.mem_append_right _ (List.mem_append_right _ (List.mem_append_right _ (List.mem_append_right _ (List.mem_append_right _ (List.mem_append_right _ (List.mem_append_right _ (List.mem_append_right _ (List.mem_append_left _ h))))))))))))))))))))))))))))))))))))))))
theorem wr_33 : ∀ w ∈ wsL_law_r33, w ∈ wsL_law := fun _ h => List.mem_append_left _ (List.mem_append_left _ (List.mem_append_left _ (List.mem_append_left _ (List.mem_append_left _ (List.mem_append_left _ (List.mem_append_left _ (List.mem_append_left _ (List.mem_append_left _ (List.mem_append_right _ (List.mem_append_right _ (List.mem_append_right _ (List.mem_append_right _ (List.mem_append_right _ (List.mem_append_right _ (List.mem_append_right _ (List.mem_append_right _ (List.mem_append_right _ (List.mem_append_right _ (List.mem_append_right _ (List.mem_append_right _ (List.mem_append_right _ (List.mem_append_right _ (List.mem_append_right _ (List.mem_append_right _ (List.mem_append_right _ (List.mem_append_right _ (List.mem_append_right _ (List.mem_append_right _ (List.mem_append_right _ (List.mem_append_right _ (List.mem_append_right _ (List.mem_append_right _ (List.mem_append_right _ (List.mem_append_right _ (List.mem_append_right _ (List.mem_append_right _ (List.mem_append_right _ (List.mem_append_right _ (List.mem_append_right _ (List.mem_append_right _ (List.mem_append_left _ h)))))))))))))))))))))))))))))))))))))))))
theorem wr_34 : ∀ w ∈ wsL_law_r34, w ∈ wsL_law := fun _ h => List.mem_append_left _ (List.mem_append_left _ (List.mem_append_left _ (List.mem_append_left _ (List.mem_append_left _ (List.mem_append_left _ (List.mem_append_left _ (List.mem_append_left _ (List.mem_append_left _ (List.mem_append_right _ (List.mem_append_right _ (List.mem_append_right _ (List.mem_append_right _ (List.mem_append_right _ (List.mem_append_right _ (List.mem_append_right _ (List.mem_append_right _ (List.mem_append_right _ (List.mem_append_right _ (List.mem_append_right _ (List.mem_append_right _ (List.mem_append_right _ (List.mem_append_right _ (List.mem_append_right _ (List.mem_append_right _ (List.mem_append_right _ (List.mem_append_right _ (List.mem_append_right _ (List.mem_append_right _ (List.mem_append_right _ (List.mem_append_right _ (List.mem_append_right _ (List.mem_append_right _ (List.mem_append_right _ (List.mem_append_right _ (List.mem_append_right _ (List.mem_append_right _ (List.mem_append_right _ (List.mem_append_right _ (List.mem_append_right _ (List.mem_append_right _ (List.mem_append_right _ (List.mem_append_left _ h))))))))))))))))))))))))))))))))))))))))))
theorem wr_35 : ∀ w ∈ wsL_law_r35, w ∈ wsL_law := fun _ h => List.mem_append_left _ (List.mem_append_left _ (List.mem_append_left _ (List.mem_append_left _ (List.mem_append_left _ (List.mem_append_left _ (List.mem_append_left _ (List.mem_append_left _ (List.mem_append_left _ (List.mem_append_right _ (List.mem_append_right _ (List.mem_append_right _ (List.mem_append_right _ (List.mem_append_right _ (List.mem_append_right _ (List.mem_append_right _ (List.mem_append_right _ (List.mem_append_right _ (List.mem_append_right _ (List.mem_append_right _ (List.mem_append_right _ (List.mem_append_right _ (List.mem_append_right _ (List.mem_append_right _ (List.mem_append_right _ (List.mem_append_right _ (List.mem_append_right _ (List.mem_append_right _ (List.mem_append_right _ (List.mem_append_right _ (List.mem_append_right _ (List.mem_append_right _ (List.mem_append_right _ (List.mem_append_right _ (List.mem_append_right _ (List.mem_append_right _ (List.mem_append_right _ (List.mem_append_right _ (List.mem_append_right _ (List.mem_append_right _ (List.mem_append_right _ (List.mem_append_right _ (List.mem_append_right _ (h)))))))))))))))))))))))))))))))))))))))))))
theorem q_1_0 : (Cond.classLink RL 7 RX5) ∈ wsL_law := wr_1 _ (List.mem_of_getElem? (i := 0) rfl)
theorem q_1_1 : (Cond.instantiable RX5 7) ∈ wsL_law := wr_1 _ (List.mem_of_getElem? (i := 1) rfl)
theorem q_1_2 : (Cond.initialized RX5) ∈ wsL_law := wr_1 _ (List.mem_of_getElem? (i := 2) rfl)
theorem q_1_3 : (Cond.classLink RL 10 RX6) ∈ wsL_law := wr_1 _ (List.mem_of_getElem? (i := 3) rfl)
theorem q_1_4 : (Cond.instantiable RX6 22) ∈ wsL_law := wr_1 _ (List.mem_of_getElem? (i := 4) rfl)
theorem q_1_5 : (Cond.initialized RX6) ∈ wsL_law := wr_1 _ (List.mem_of_getElem? (i := 5) rfl)
theorem q_1_6 : (Cond.methodLink RL 9 yX5_init) ∈ wsL_law := wr_1 _ (List.mem_of_getElem? (i := 6) rfl)
theorem q_1_7 : (Cond.instanceMethod yX5_init) ∈ wsL_law := wr_1 _ (List.mem_of_getElem? (i := 7) rfl)
theorem q_1_8 : (Cond.code yX5_init cX5_init 1 none) ∈ wsL_law := wr_1 _ (List.mem_of_getElem? (i := 8) rfl)
theorem q_1_9 : (Cond.methodLink RX5 1 objectInit) ∈ wsL_law := wr_1 _ (List.mem_of_getElem? (i := 9) rfl)
theorem q_1_10 : (Cond.instanceMethod objectInit) ∈ wsL_law := wr_1 _ (List.mem_of_getElem? (i := 10) rfl)
theorem q_1_11 : (Cond.code objectInit ⟨#[0xb1]⟩ 1 none) ∈ wsL_law := wr_1 _ (List.mem_of_getElem? (i := 11) rfl)
theorem q_1_12 : (Cond.classLink RX5 7 RX4) ∈ wsL_law := wr_1 _ (List.mem_of_getElem? (i := 12) rfl)
theorem q_1_13 : (Cond.instantiable RX4 14) ∈ wsL_law := wr_1 _ (List.mem_of_getElem? (i := 13) rfl)
theorem q_1_14 : (Cond.initialized RX4) ∈ wsL_law := wr_1 _ (List.mem_of_getElem? (i := 14) rfl)
theorem q_1_15 : (Cond.fieldLink RX5 10 "DriftPlans" "now" "LDriftPlans$State;") ∈ wsL_law := wr_1 _ (List.mem_of_getElem? (i := 15) rfl)
theorem q_1_16 : (Cond.fieldLink RX5 16 "DriftPlans" "snapshot" "LDriftPlans$State;") ∈ wsL_law := wr_1 _ (List.mem_of_getElem? (i := 16) rfl)
theorem q_1_17 : (Cond.classLink RX5 19 RJx4a65c) ∈ wsL_law := wr_1 _ (List.mem_of_getElem? (i := 17) rfl)
theorem q_1_18 : (Cond.instantiable RJx4a65c 3) ∈ wsL_law := wr_1 _ (List.mem_of_getElem? (i := 18) rfl)
theorem q_1_19 : (Cond.initialized RJx4a65c) ∈ wsL_law := wr_1 _ (List.mem_of_getElem? (i := 19) rfl)
theorem q_1_20 : (Cond.fieldLink RX5 22 "DriftPlans" "history" "Ljava/util/ArrayList;") ∈ wsL_law := wr_1 _ (List.mem_of_getElem? (i := 20) rfl)
theorem q_1_21 : (Cond.classLink RX5 26 RX3) ∈ wsL_law := wr_1 _ (List.mem_of_getElem? (i := 21) rfl)
theorem q_1_22 : (Cond.instantiable RX3 3) ∈ wsL_law := wr_1 _ (List.mem_of_getElem? (i := 22) rfl)
theorem q_1_23 : (Cond.initialized RX3) ∈ wsL_law := wr_1 _ (List.mem_of_getElem? (i := 23) rfl)
theorem q_2_0 : (Cond.fieldLink RX5 29 "DriftPlans" "reckoner" "LDriftPlans$Reckoner;") ∈ wsL_law := wr_2 _ (List.mem_of_getElem? (i := 0) rfl)
theorem q_2_1 : (Cond.classLink RX5 33 RX1) ∈ wsL_law := wr_2 _ (List.mem_of_getElem? (i := 1) rfl)
theorem q_2_2 : (Cond.instantiable RX1 2) ∈ wsL_law := wr_2 _ (List.mem_of_getElem? (i := 2) rfl)
theorem q_2_3 : (Cond.initialized RX1) ∈ wsL_law := wr_2 _ (List.mem_of_getElem? (i := 3) rfl)
theorem q_2_4 : (Cond.fieldLink RX5 36 "DriftPlans" "pad" "LDriftPlans$Pad;") ∈ wsL_law := wr_2 _ (List.mem_of_getElem? (i := 4) rfl)
theorem q_2_5 : (Cond.fieldLink RX5 40 "DriftPlans" "stopDeed" "I") ∈ wsL_law := wr_2 _ (List.mem_of_getElem? (i := 5) rfl)
theorem q_2_6 : (Cond.fieldLink RX5 44 "DriftPlans" "stopPlace" "I") ∈ wsL_law := wr_2 _ (List.mem_of_getElem? (i := 6) rfl)
theorem q_2_7 : (Cond.methodLink RX5 9 yX4_init) ∈ wsL_law := wr_2 _ (List.mem_of_getElem? (i := 7) rfl)
theorem q_2_8 : (Cond.instanceMethod yX4_init) ∈ wsL_law := wr_2 _ (List.mem_of_getElem? (i := 8) rfl)
theorem q_2_9 : (Cond.code yX4_init cX4_init 3 none) ∈ wsL_law := wr_2 _ (List.mem_of_getElem? (i := 9) rfl)
theorem q_2_10 : (Cond.methodLink RX4 3 objectInit) ∈ wsL_law := wr_2 _ (List.mem_of_getElem? (i := 10) rfl)
theorem q_2_11 : (Cond.arrayClass .int) ∈ wsL_law := wr_2 _ (List.mem_of_getElem? (i := 11) rfl)
theorem q_2_12 : (Cond.fieldLink RX4 9 "DriftPlans$State" "rows" "[I") ∈ wsL_law := wr_2 _ (List.mem_of_getElem? (i := 12) rfl)
theorem q_2_13 : (Cond.fieldLink RX4 15 "DriftPlans$State" "guesses" "[I") ∈ wsL_law := wr_2 _ (List.mem_of_getElem? (i := 13) rfl)
theorem q_2_14 : (Cond.classLink RX4 18 "[[I") ∈ wsL_law := wr_2 _ (List.mem_of_getElem? (i := 14) rfl)
theorem q_2_15 : (Cond.fieldLink RX4 20 "DriftPlans$State" "parts" "[[I") ∈ wsL_law := wr_2 _ (List.mem_of_getElem? (i := 15) rfl)
theorem q_2_16 : (Cond.classLink RX4 23 RJx4a65c) ∈ wsL_law := wr_2 _ (List.mem_of_getElem? (i := 16) rfl)
theorem q_2_17 : (Cond.fieldLink RX4 26 "DriftPlans$State" "kept" "Ljava/util/ArrayList;") ∈ wsL_law := wr_2 _ (List.mem_of_getElem? (i := 17) rfl)
theorem q_2_18 : (Cond.fieldLink RX4 30 "DriftPlans$State" "driftLimit" "I") ∈ wsL_law := wr_2 _ (List.mem_of_getElem? (i := 18) rfl)
theorem q_2_19 : (Cond.methodLink RX4 25 yJx4a65c_init_da8c8) ∈ wsL_law := wr_2 _ (List.mem_of_getElem? (i := 19) rfl)
theorem q_2_20 : (Cond.instanceMethod yJx4a65c_init_da8c8) ∈ wsL_law := wr_2 _ (List.mem_of_getElem? (i := 20) rfl)
theorem q_2_21 : (Cond.code yJx4a65c_init_da8c8 cJx4a65c_init_da8c8 1 none) ∈ wsL_law := wr_2 _ (List.mem_of_getElem? (i := 21) rfl)
theorem q_2_22 : (Cond.fieldLink RJx4a65c 39 "java/util/ArrayList" "DEFAULTCAPACITY_EMPTY_ELEMENTDATA" "[Ljava/lang/Object;") ∈ wsL_law := wr_2 _ (List.mem_of_getElem? (i := 22) rfl)
theorem q_2_23 : (Cond.fieldLink RJx4a65c 9 "java/util/ArrayList" "elementData" "[Ljava/lang/Object;") ∈ wsL_law := wr_2 _ (List.mem_of_getElem? (i := 23) rfl)
theorem q_3_0 : (Cond.methodLink RJx4a65c 1 yJxc12de_init_da8c8) ∈ wsL_law := wr_3 _ (List.mem_of_getElem? (i := 0) rfl)
theorem q_3_1 : (Cond.instanceMethod yJxc12de_init_da8c8) ∈ wsL_law := wr_3 _ (List.mem_of_getElem? (i := 1) rfl)
theorem q_3_2 : (Cond.initialized RJxc12de) ∈ wsL_law := wr_3 _ (List.mem_of_getElem? (i := 2) rfl)
theorem q_3_3 : (Cond.code yJxc12de_init_da8c8 cJxc12de_init_da8c8 1 none) ∈ wsL_law := wr_3 _ (List.mem_of_getElem? (i := 3) rfl)
theorem q_3_4 : (Cond.fieldLink RJxc12de 7 "java/util/AbstractList" "modCount" "I") ∈ wsL_law := wr_3 _ (List.mem_of_getElem? (i := 4) rfl)
theorem q_3_5 : (Cond.methodLink RJxc12de 1 yJxa1e45_init_da8c8) ∈ wsL_law := wr_3 _ (List.mem_of_getElem? (i := 5) rfl)
theorem q_3_6 : (Cond.instanceMethod yJxa1e45_init_da8c8) ∈ wsL_law := wr_3 _ (List.mem_of_getElem? (i := 6) rfl)
theorem q_3_7 : (Cond.initialized RJxa1e45) ∈ wsL_law := wr_3 _ (List.mem_of_getElem? (i := 7) rfl)
theorem q_3_8 : (Cond.code yJxa1e45_init_da8c8 cJxa1e45_init_da8c8 1 none) ∈ wsL_law := wr_3 _ (List.mem_of_getElem? (i := 8) rfl)
theorem q_3_9 : (Cond.methodLink RJxa1e45 1 objectInit) ∈ wsL_law := wr_3 _ (List.mem_of_getElem? (i := 9) rfl)
theorem q_3_10 : (Cond.methodLink RX5 21 yJx4a65c_init_da8c8) ∈ wsL_law := wr_3 _ (List.mem_of_getElem? (i := 10) rfl)
theorem q_3_11 : (Cond.methodLink RX5 28 yX3_init) ∈ wsL_law := wr_3 _ (List.mem_of_getElem? (i := 11) rfl)
theorem q_3_12 : (Cond.instanceMethod yX3_init) ∈ wsL_law := wr_3 _ (List.mem_of_getElem? (i := 12) rfl)
theorem q_3_13 : (Cond.code yX3_init cX3_init 1 none) ∈ wsL_law := wr_3 _ (List.mem_of_getElem? (i := 13) rfl)
theorem q_3_14 : (Cond.methodLink RX3 3 objectInit) ∈ wsL_law := wr_3 _ (List.mem_of_getElem? (i := 14) rfl)
theorem q_3_15 : (Cond.arrayClass .long) ∈ wsL_law := wr_3 _ (List.mem_of_getElem? (i := 15) rfl)
theorem q_3_16 : (Cond.fieldLink RX3 9 "DriftPlans$Reckoner" "products" "[J") ∈ wsL_law := wr_3 _ (List.mem_of_getElem? (i := 16) rfl)
theorem q_3_17 : (Cond.fieldLink RX3 15 "DriftPlans$Reckoner" "leastCosts" "[J") ∈ wsL_law := wr_3 _ (List.mem_of_getElem? (i := 17) rfl)
theorem q_3_18 : (Cond.fieldLink RX3 18 "DriftPlans$Reckoner" "bestOrders" "[I") ∈ wsL_law := wr_3 _ (List.mem_of_getElem? (i := 18) rfl)
theorem q_3_19 : (Cond.instanceMethod yX1_init) ∈ wsL_law := wr_3 _ (List.mem_of_getElem? (i := 19) rfl)
theorem q_3_20 : (Cond.code yX1_init cX1_init 1 none) ∈ wsL_law := wr_3 _ (List.mem_of_getElem? (i := 20) rfl)
theorem q_3_21 : (Cond.methodLink RX1 3 objectInit) ∈ wsL_law := wr_3 _ (List.mem_of_getElem? (i := 21) rfl)
theorem q_3_22 : (Cond.arrayClass .char) ∈ wsL_law := wr_3 _ (List.mem_of_getElem? (i := 22) rfl)
theorem q_3_23 : (Cond.fieldLink RX1 9 "DriftPlans$Pad" "signs" "[C") ∈ wsL_law := wr_3 _ (List.mem_of_getElem? (i := 23) rfl)
theorem q_4_0 : (Cond.fieldLink RX1 15 "DriftPlans$Pad" "length" "I") ∈ wsL_law := wr_4 _ (List.mem_of_getElem? (i := 0) rfl)
theorem q_4_1 : (Cond.methodLink RL 12 yX6_init) ∈ wsL_law := wr_4 _ (List.mem_of_getElem? (i := 1) rfl)
theorem q_4_2 : (Cond.instanceMethod yX6_init) ∈ wsL_law := wr_4 _ (List.mem_of_getElem? (i := 2) rfl)
theorem q_4_3 : (Cond.code yX6_init cX6_init 2 none) ∈ wsL_law := wr_4 _ (List.mem_of_getElem? (i := 3) rfl)
theorem q_4_4 : (Cond.methodLink RX6 1 objectInit) ∈ wsL_law := wr_4 _ (List.mem_of_getElem? (i := 4) rfl)
theorem q_4_5 : (Cond.fieldLink RX6 7 "DriftPlansModel" "s" "[I") ∈ wsL_law := wr_4 _ (List.mem_of_getElem? (i := 5) rfl)
theorem q_4_6 : (Cond.fieldLink RX6 13 "DriftPlansModel" "past" "[I") ∈ wsL_law := wr_4 _ (List.mem_of_getElem? (i := 6) rfl)
theorem q_4_7 : (Cond.fieldLink RX6 16 "DriftPlansModel" "kept" "[I") ∈ wsL_law := wr_4 _ (List.mem_of_getElem? (i := 7) rfl)
theorem q_4_8 : (Cond.fieldLink RX6 19 "DriftPlansModel" "spare" "[I") ∈ wsL_law := wr_4 _ (List.mem_of_getElem? (i := 8) rfl)
theorem q_4_9 : (Cond.fieldLink RX6 22 "DriftPlansModel" "paid" "[J") ∈ wsL_law := wr_4 _ (List.mem_of_getElem? (i := 9) rfl)
theorem q_4_10 : (Cond.fieldLink RX6 26 "DriftPlansModel" "pastPaid" "[J") ∈ wsL_law := wr_4 _ (List.mem_of_getElem? (i := 10) rfl)
theorem q_4_11 : (Cond.fieldLink RX6 29 "DriftPlansModel" "keptPaid" "[J") ∈ wsL_law := wr_4 _ (List.mem_of_getElem? (i := 11) rfl)
theorem q_4_12 : (Cond.fieldLink RX6 32 "DriftPlansModel" "sparePaid" "[J") ∈ wsL_law := wr_4 _ (List.mem_of_getElem? (i := 12) rfl)
theorem q_4_13 : (Cond.fieldLink RX6 35 "DriftPlansModel" "pad" "[I") ∈ wsL_law := wr_4 _ (List.mem_of_getElem? (i := 13) rfl)
theorem q_4_14 : (Cond.fieldLink RX6 38 "DriftPlansModel" "stop" "[I") ∈ wsL_law := wr_4 _ (List.mem_of_getElem? (i := 14) rfl)
theorem q_4_15 : (Cond.fieldLink RX6 41 "DriftPlansModel" "order" "[I") ∈ wsL_law := wr_4 _ (List.mem_of_getElem? (i := 15) rfl)
theorem q_4_16 : (Cond.fieldLink RX6 44 "DriftPlansModel" "best" "[I") ∈ wsL_law := wr_4 _ (List.mem_of_getElem? (i := 16) rfl)
theorem q_4_17 : (Cond.fieldLink RX6 47 "DriftPlansModel" "bySets" "[J") ∈ wsL_law := wr_4 _ (List.mem_of_getElem? (i := 17) rfl)
theorem q_4_18 : (Cond.fieldLink RX6 50 "DriftPlansModel" "deed" "[I") ∈ wsL_law := wr_4 _ (List.mem_of_getElem? (i := 18) rfl)
theorem q_4_19 : (Cond.methodLink RL 13 yX5_rows) ∈ wsL_law := wr_4 _ (List.mem_of_getElem? (i := 19) rfl)
theorem q_4_20 : (Cond.instanceMethod yX5_rows) ∈ wsL_law := wr_4 _ (List.mem_of_getElem? (i := 20) rfl)
theorem q_4_21 : (Cond.selects RX5 yX5_rows yX5_rows) ∈ wsL_law := wr_4 _ (List.mem_of_getElem? (i := 21) rfl)
theorem q_4_22 : (Cond.code yX5_rows cX5_rows 4 (some .int)) ∈ wsL_law := wr_4 _ (List.mem_of_getElem? (i := 22) rfl)
theorem q_4_23 : (Cond.fieldLink RX5 54 "DriftPlans$State" "rows" "[I") ∈ wsL_law := wr_4 _ (List.mem_of_getElem? (i := 23) rfl)
theorem q_5_0 : (Cond.methodLink RX5 47 yX5_isTable) ∈ wsL_law := wr_5 _ (List.mem_of_getElem? (i := 0) rfl)
theorem q_5_1 : (Cond.static yX5_isTable) ∈ wsL_law := wr_5 _ (List.mem_of_getElem? (i := 1) rfl)
theorem q_5_2 : (Cond.code yX5_isTable cX5_isTable 1 (some .boolean)) ∈ wsL_law := wr_5 _ (List.mem_of_getElem? (i := 2) rfl)
theorem q_5_3 : (Cond.methodLink RX5 51 yX5_remember) ∈ wsL_law := wr_5 _ (List.mem_of_getElem? (i := 3) rfl)
theorem q_5_4 : (Cond.instanceMethod yX5_remember) ∈ wsL_law := wr_5 _ (List.mem_of_getElem? (i := 4) rfl)
theorem q_5_5 : (Cond.selects RX5 yX5_remember yX5_remember) ∈ wsL_law := wr_5 _ (List.mem_of_getElem? (i := 5) rfl)
theorem q_5_6 : (Cond.code yX5_remember cX5_remember 1 none) ∈ wsL_law := wr_5 _ (List.mem_of_getElem? (i := 6) rfl)
theorem q_5_7 : (Cond.methodLink RX5 247 yX4_init_) ∈ wsL_law := wr_5 _ (List.mem_of_getElem? (i := 7) rfl)
theorem q_5_8 : (Cond.instanceMethod yX4_init_) ∈ wsL_law := wr_5 _ (List.mem_of_getElem? (i := 8) rfl)
theorem q_5_9 : (Cond.code yX4_init_ cX4_init_ 4 none) ∈ wsL_law := wr_5 _ (List.mem_of_getElem? (i := 9) rfl)
theorem q_5_10 : (Cond.classLink RX4 42 "DriftPlans$Kept") ∈ wsL_law := wr_5 _ (List.mem_of_getElem? (i := 10) rfl)
theorem q_5_11 : (Cond.fieldLink RX4 48 "DriftPlans$State" "hits" "J") ∈ wsL_law := wr_5 _ (List.mem_of_getElem? (i := 11) rfl)
theorem q_5_12 : (Cond.fieldLink RX4 52 "DriftPlans$State" "misses" "J") ∈ wsL_law := wr_5 _ (List.mem_of_getElem? (i := 12) rfl)
theorem q_5_13 : (Cond.fieldLink RX4 55 "DriftPlans$State" "runCosts" "J") ∈ wsL_law := wr_5 _ (List.mem_of_getElem? (i := 13) rfl)
theorem q_5_14 : (Cond.fieldLink RX4 58 "DriftPlans$State" "makingCosts" "J") ∈ wsL_law := wr_5 _ (List.mem_of_getElem? (i := 14) rfl)
theorem q_5_15 : (Cond.fieldLink RX4 61 "DriftPlans$State" "driftedOut" "J") ∈ wsL_law := wr_5 _ (List.mem_of_getElem? (i := 15) rfl)
theorem q_5_16 : (Cond.fieldLink RX4 64 "DriftPlans$State" "pushedOut" "J") ∈ wsL_law := wr_5 _ (List.mem_of_getElem? (i := 16) rfl)
theorem q_5_17 : (Cond.fieldLink RX4 67 "DriftPlans$State" "joinedOut" "J") ∈ wsL_law := wr_5 _ (List.mem_of_getElem? (i := 17) rfl)
theorem q_5_18 : (Cond.fieldLink RX4 70 "DriftPlans$State" "forgotten" "J") ∈ wsL_law := wr_5 _ (List.mem_of_getElem? (i := 18) rfl)
theorem q_5_19 : (Cond.fieldLink RX4 73 "DriftPlans$State" "usedOnly" "J") ∈ wsL_law := wr_5 _ (List.mem_of_getElem? (i := 19) rfl)
theorem q_5_20 : (Cond.methodLink RX4 34 yJx4a65c_size_8abf5) ∈ wsL_law := wr_5 _ (List.mem_of_getElem? (i := 20) rfl)
theorem q_5_21 : (Cond.instanceMethod yJx4a65c_size_8abf5) ∈ wsL_law := wr_5 _ (List.mem_of_getElem? (i := 21) rfl)
theorem q_5_22 : (Cond.selects RJx4a65c yJx4a65c_size_8abf5 yJx4a65c_size_8abf5) ∈ wsL_law := wr_5 _ (List.mem_of_getElem? (i := 22) rfl)
theorem q_5_23 : (Cond.code yJx4a65c_size_8abf5 cJx4a65c_size_8abf5 1 (some .int)) ∈ wsL_law := wr_5 _ (List.mem_of_getElem? (i := 23) rfl)
theorem q_6_0 : (Cond.fieldLink RJx4a65c 48 "java/util/ArrayList" "size" "I") ∈ wsL_law := wr_6 _ (List.mem_of_getElem? (i := 0) rfl)
theorem q_6_1 : (Cond.methodLink RX4 38 yJx4a65c_get_915e3) ∈ wsL_law := wr_6 _ (List.mem_of_getElem? (i := 1) rfl)
theorem q_6_2 : (Cond.instanceMethod yJx4a65c_get_915e3) ∈ wsL_law := wr_6 _ (List.mem_of_getElem? (i := 2) rfl)
theorem q_6_3 : (Cond.selects RJx4a65c yJx4a65c_get_915e3 yJx4a65c_get_915e3) ∈ wsL_law := wr_6 _ (List.mem_of_getElem? (i := 3) rfl)
theorem q_6_4 : (Cond.code yJx4a65c_get_915e3 cJx4a65c_get_915e3 2 (some (.object "java/lang/Object"))) ∈ wsL_law := wr_6 _ (List.mem_of_getElem? (i := 4) rfl)
theorem q_6_5 : (Cond.methodLink RJx4a65c 118 yJ15_checkIndex_7cf53) ∈ wsL_law := wr_6 _ (List.mem_of_getElem? (i := 5) rfl)
theorem q_6_6 : (Cond.static yJ15_checkIndex_7cf53) ∈ wsL_law := wr_6 _ (List.mem_of_getElem? (i := 6) rfl)
theorem q_6_7 : (Cond.initialized RJ15) ∈ wsL_law := wr_6 _ (List.mem_of_getElem? (i := 7) rfl)
theorem q_6_8 : (Cond.code yJ15_checkIndex_7cf53 cJ15_checkIndex_7cf53 2 (some .int)) ∈ wsL_law := wr_6 _ (List.mem_of_getElem? (i := 8) rfl)
theorem q_6_9 : (Cond.methodLink RJ15 105 yJ3_checkIndex_8e157) ∈ wsL_law := wr_6 _ (List.mem_of_getElem? (i := 9) rfl)
theorem q_6_10 : (Cond.static yJ3_checkIndex_8e157) ∈ wsL_law := wr_6 _ (List.mem_of_getElem? (i := 10) rfl)
theorem q_6_11 : (Cond.initialized RJ3) ∈ wsL_law := wr_6 _ (List.mem_of_getElem? (i := 11) rfl)
theorem q_6_12 : (Cond.code yJ3_checkIndex_8e157 cJ3_checkIndex_8e157 3 (some .int)) ∈ wsL_law := wr_6 _ (List.mem_of_getElem? (i := 12) rfl)
theorem q_6_13 : (Cond.methodLink RJx4a65c 123 yJx4a65c_elementData_915e3) ∈ wsL_law := wr_6 _ (List.mem_of_getElem? (i := 13) rfl)
theorem q_6_14 : (Cond.instanceMethod yJx4a65c_elementData_915e3) ∈ wsL_law := wr_6 _ (List.mem_of_getElem? (i := 14) rfl)
theorem q_6_15 : (Cond.selects RJx4a65c yJx4a65c_elementData_915e3 yJx4a65c_elementData_915e3) ∈ wsL_law := wr_6 _ (List.mem_of_getElem? (i := 15) rfl)
theorem q_6_16 : (Cond.code yJx4a65c_elementData_915e3 cJx4a65c_elementData_915e3 2 (some (.object "java/lang/Object"))) ∈ wsL_law := wr_6 _ (List.mem_of_getElem? (i := 16) rfl)
theorem q_6_17 : (Cond.methodLink RX4 44 yJx4a65c_add_9ea2d) ∈ wsL_law := wr_6 _ (List.mem_of_getElem? (i := 17) rfl)
theorem q_6_18 : (Cond.instanceMethod yJx4a65c_add_9ea2d) ∈ wsL_law := wr_6 _ (List.mem_of_getElem? (i := 18) rfl)
theorem q_6_19 : (Cond.selects RJx4a65c yJx4a65c_add_9ea2d yJx4a65c_add_9ea2d) ∈ wsL_law := wr_6 _ (List.mem_of_getElem? (i := 19) rfl)
theorem q_6_20 : (Cond.code yJx4a65c_add_9ea2d cJx4a65c_add_9ea2d 2 (some .boolean)) ∈ wsL_law := wr_6 _ (List.mem_of_getElem? (i := 20) rfl)
theorem q_6_21 : (Cond.fieldLink RJx4a65c 63 "java/util/ArrayList" "modCount" "I") ∈ wsL_law := wr_6 _ (List.mem_of_getElem? (i := 21) rfl)
theorem q_6_22 : (Cond.sameField "java/util/ArrayList" "java/util/AbstractList" "modCount" "I") ∈ wsL_law := wr_6 _ (List.mem_of_getElem? (i := 22) rfl)
theorem q_6_23 : (Cond.methodLink RJx4a65c 131 yJx4a65c_add_72be8) ∈ wsL_law := wr_6 _ (List.mem_of_getElem? (i := 23) rfl)
theorem q_7_0 : (Cond.instanceMethod yJx4a65c_add_72be8) ∈ wsL_law := wr_7 _ (List.mem_of_getElem? (i := 0) rfl)
theorem q_7_1 : (Cond.selects RJx4a65c yJx4a65c_add_72be8 yJx4a65c_add_72be8) ∈ wsL_law := wr_7 _ (List.mem_of_getElem? (i := 1) rfl)
theorem q_7_2 : (Cond.code yJx4a65c_add_72be8 cJx4a65c_add_72be8 4 none) ∈ wsL_law := wr_7 _ (List.mem_of_getElem? (i := 2) rfl)
theorem q_7_3 : (Cond.methodLink RJx4a65c 129 yJx4a65c_grow_d5877) ∈ wsL_law := wr_7 _ (List.mem_of_getElem? (i := 3) rfl)
theorem q_7_4 : (Cond.instanceMethod yJx4a65c_grow_d5877) ∈ wsL_law := wr_7 _ (List.mem_of_getElem? (i := 4) rfl)
theorem q_7_5 : (Cond.selects RJx4a65c yJx4a65c_grow_d5877 yJx4a65c_grow_d5877) ∈ wsL_law := wr_7 _ (List.mem_of_getElem? (i := 5) rfl)
theorem q_7_6 : (Cond.code yJx4a65c_grow_d5877 cJx4a65c_grow_d5877 1 (some (.array (.object "java/lang/Object")))) ∈ wsL_law := wr_7 _ (List.mem_of_getElem? (i := 6) rfl)
theorem q_7_7 : (Cond.methodLink RJx4a65c 69 yJx4a65c_grow_92f84) ∈ wsL_law := wr_7 _ (List.mem_of_getElem? (i := 7) rfl)
theorem q_7_8 : (Cond.instanceMethod yJx4a65c_grow_92f84) ∈ wsL_law := wr_7 _ (List.mem_of_getElem? (i := 8) rfl)
theorem q_7_9 : (Cond.selects RJx4a65c yJx4a65c_grow_92f84 yJx4a65c_grow_92f84) ∈ wsL_law := wr_7 _ (List.mem_of_getElem? (i := 9) rfl)
theorem q_7_10 : (Cond.code yJx4a65c_grow_92f84 cJx4a65c_grow_92f84 4 (some (.array (.object "java/lang/Object")))) ∈ wsL_law := wr_7 _ (List.mem_of_getElem? (i := 10) rfl)
theorem q_7_11 : (Cond.methodLink RJx4a65c 79 Lib.Math.max.name) ∈ wsL_law := wr_7 _ (List.mem_of_getElem? (i := 11) rfl)
theorem q_7_12 : (Cond.static Lib.Math.max.name) ∈ wsL_law := wr_7 _ (List.mem_of_getElem? (i := 12) rfl)
theorem q_7_13 : (Cond.initialized "java/lang/Math") ∈ wsL_law := wr_7 _ (List.mem_of_getElem? (i := 13) rfl)
theorem q_7_14 : (Cond.code Lib.Math.max.name Lib.Math.max.code 2 (some .int)) ∈ wsL_law := wr_7 _ (List.mem_of_getElem? (i := 14) rfl)
theorem q_7_15 : (Cond.classLink RJx4a65c 7 "java/lang/Object") ∈ wsL_law := wr_7 _ (List.mem_of_getElem? (i := 15) rfl)
theorem q_7_16 : (Cond.methodLink RJx4a65c 73 yJ8_newLength_cabcc) ∈ wsL_law := wr_7 _ (List.mem_of_getElem? (i := 16) rfl)
theorem q_7_17 : (Cond.static yJ8_newLength_cabcc) ∈ wsL_law := wr_7 _ (List.mem_of_getElem? (i := 17) rfl)
theorem q_7_18 : (Cond.initialized RJ8) ∈ wsL_law := wr_7 _ (List.mem_of_getElem? (i := 18) rfl)
theorem q_7_19 : (Cond.code yJ8_newLength_cabcc cJ8_newLength_cabcc 4 (some .int)) ∈ wsL_law := wr_7 _ (List.mem_of_getElem? (i := 19) rfl)
theorem q_7_20 : (Cond.methodLink RJ8 194 Lib.Math.max.name) ∈ wsL_law := wr_7 _ (List.mem_of_getElem? (i := 20) rfl)
theorem q_7_21 : (Cond.constant RJ8 200 (2147483639)) ∈ wsL_law := wr_7 _ (List.mem_of_getElem? (i := 21) rfl)
theorem q_7_22 : (Cond.methodLink RJ8 201 yJ8_hugeLength_7cf53) ∈ wsL_law := wr_7 _ (List.mem_of_getElem? (i := 22) rfl)
theorem q_7_23 : (Cond.static yJ8_hugeLength_7cf53) ∈ wsL_law := wr_7 _ (List.mem_of_getElem? (i := 23) rfl)
theorem q_8_0 : (Cond.code yJ8_hugeLength_7cf53 cJ8_hugeLength_7cf53 3 (some .int)) ∈ wsL_law := wr_8 _ (List.mem_of_getElem? (i := 0) rfl)
theorem q_8_1 : (Cond.methodLink RJx4a65c 66 yJ7_copyOf_1904c) ∈ wsL_law := wr_8 _ (List.mem_of_getElem? (i := 1) rfl)
theorem q_8_2 : (Cond.static yJ7_copyOf_1904c) ∈ wsL_law := wr_8 _ (List.mem_of_getElem? (i := 2) rfl)
theorem q_8_3 : (Cond.initialized RJ7) ∈ wsL_law := wr_8 _ (List.mem_of_getElem? (i := 3) rfl)
theorem q_8_4 : (Cond.code yJ7_copyOf_1904c cJ7_copyOf_1904c 2 (some (.array (.object "java/lang/Object")))) ∈ wsL_law := wr_8 _ (List.mem_of_getElem? (i := 4) rfl)
theorem q_8_5 : (Cond.methodLink RJ7 86 ⟨"java/lang/Object", "getClass", "()Ljava/lang/Class;"⟩) ∈ wsL_law := wr_8 _ (List.mem_of_getElem? (i := 5) rfl)
theorem q_8_6 : (Cond.selects "[Ljava/lang/Object;" ⟨"java/lang/Object", "getClass", "()Ljava/lang/Class;"⟩ ⟨"java/lang/Object", "getClass", "()Ljava/lang/Class;"⟩) ∈ wsL_law := wr_8 _ (List.mem_of_getElem? (i := 6) rfl)
theorem q_8_7 : (Cond.instanceMethod ⟨"java/lang/Object", "getClass", "()Ljava/lang/Class;"⟩) ∈ wsL_law := wr_8 _ (List.mem_of_getElem? (i := 7) rfl)
theorem q_8_8 : (Cond.native ⟨"java/lang/Object", "getClass", "()Ljava/lang/Class;"⟩) ∈ wsL_law := wr_8 _ (List.mem_of_getElem? (i := 8) rfl)
theorem q_8_9 : (Cond.methodLink RJ7 300 yJ7_copyOf_6403c) ∈ wsL_law := wr_8 _ (List.mem_of_getElem? (i := 9) rfl)
theorem q_8_10 : (Cond.static yJ7_copyOf_6403c) ∈ wsL_law := wr_8 _ (List.mem_of_getElem? (i := 10) rfl)
theorem q_8_11 : (Cond.code yJ7_copyOf_6403c cJ7_copyOf_6403c 4 (some (.array (.object "java/lang/Object")))) ∈ wsL_law := wr_8 _ (List.mem_of_getElem? (i := 11) rfl)
theorem q_8_12 : (Cond.classLink RJ7 110 "[Ljava/lang/Object;") ∈ wsL_law := wr_8 _ (List.mem_of_getElem? (i := 12) rfl)
theorem q_8_13 : (Cond.classLink RJ7 2 "java/lang/Object") ∈ wsL_law := wr_8 _ (List.mem_of_getElem? (i := 13) rfl)
theorem q_8_14 : (Cond.methodLink RJ7 304 Lib.Math.min.name) ∈ wsL_law := wr_8 _ (List.mem_of_getElem? (i := 14) rfl)
theorem q_8_15 : (Cond.static Lib.Math.min.name) ∈ wsL_law := wr_8 _ (List.mem_of_getElem? (i := 15) rfl)
theorem q_8_16 : (Cond.code Lib.Math.min.name Lib.Math.min.code 2 (some .int)) ∈ wsL_law := wr_8 _ (List.mem_of_getElem? (i := 16) rfl)
theorem q_8_17 : (Cond.methodLink RJ7 150 arraycopyName) ∈ wsL_law := wr_8 _ (List.mem_of_getElem? (i := 17) rfl)
theorem q_8_18 : (Cond.native arraycopyName) ∈ wsL_law := wr_8 _ (List.mem_of_getElem? (i := 18) rfl)
theorem q_8_19 : (Cond.static arraycopyName) ∈ wsL_law := wr_8 _ (List.mem_of_getElem? (i := 19) rfl)
theorem q_8_20 : (Cond.initialized "java/lang/System") ∈ wsL_law := wr_8 _ (List.mem_of_getElem? (i := 20) rfl)
theorem q_8_21 : (Cond.methodLink RX5 250 yJx4a65c_add_9ea2d) ∈ wsL_law := wr_8 _ (List.mem_of_getElem? (i := 21) rfl)
theorem q_8_22 : (Cond.methodLink RX5 202 yJx4a65c_size_8abf5) ∈ wsL_law := wr_8 _ (List.mem_of_getElem? (i := 22) rfl)
theorem q_8_23 : (Cond.methodLink RX5 115 yJx4a65c_remove_915e3) ∈ wsL_law := wr_8 _ (List.mem_of_getElem? (i := 23) rfl)
theorem q_9_0 : (Cond.instanceMethod yJx4a65c_remove_915e3) ∈ wsL_law := wr_9 _ (List.mem_of_getElem? (i := 0) rfl)
theorem q_9_1 : (Cond.selects RJx4a65c yJx4a65c_remove_915e3 yJx4a65c_remove_915e3) ∈ wsL_law := wr_9 _ (List.mem_of_getElem? (i := 1) rfl)
theorem q_9_2 : (Cond.code yJx4a65c_remove_915e3 cJx4a65c_remove_915e3 4 (some (.object "java/lang/Object"))) ∈ wsL_law := wr_9 _ (List.mem_of_getElem? (i := 2) rfl)
theorem q_9_3 : (Cond.methodLink RJx4a65c 144 yJx4a65c_fastRemove_b59b0) ∈ wsL_law := wr_9 _ (List.mem_of_getElem? (i := 3) rfl)
theorem q_9_4 : (Cond.instanceMethod yJx4a65c_fastRemove_b59b0) ∈ wsL_law := wr_9 _ (List.mem_of_getElem? (i := 4) rfl)
theorem q_9_5 : (Cond.selects RJx4a65c yJx4a65c_fastRemove_b59b0 yJx4a65c_fastRemove_b59b0) ∈ wsL_law := wr_9 _ (List.mem_of_getElem? (i := 5) rfl)
theorem q_9_6 : (Cond.code yJx4a65c_fastRemove_b59b0 cJx4a65c_fastRemove_b59b0 4 none) ∈ wsL_law := wr_9 _ (List.mem_of_getElem? (i := 6) rfl)
theorem q_9_7 : (Cond.methodLink RJx4a65c 112 arraycopyName) ∈ wsL_law := wr_9 _ (List.mem_of_getElem? (i := 7) rfl)
theorem q_9_8 : (Cond.methodLink RL 17 yX6_rows) ∈ wsL_law := wr_9 _ (List.mem_of_getElem? (i := 8) rfl)
theorem q_9_9 : (Cond.instanceMethod yX6_rows) ∈ wsL_law := wr_9 _ (List.mem_of_getElem? (i := 9) rfl)
theorem q_9_10 : (Cond.selects RX6 yX6_rows yX6_rows) ∈ wsL_law := wr_9 _ (List.mem_of_getElem? (i := 10) rfl)
theorem q_9_11 : (Cond.code yX6_rows cX6_rows 4 (some .int)) ∈ wsL_law := wr_9 _ (List.mem_of_getElem? (i := 11) rfl)
theorem q_9_12 : (Cond.methodLink RX6 113 yX6_isTable) ∈ wsL_law := wr_9 _ (List.mem_of_getElem? (i := 12) rfl)
theorem q_9_13 : (Cond.static yX6_isTable) ∈ wsL_law := wr_9 _ (List.mem_of_getElem? (i := 13) rfl)
theorem q_9_14 : (Cond.code yX6_isTable cX6_isTable 1 (some .boolean)) ∈ wsL_law := wr_9 _ (List.mem_of_getElem? (i := 14) rfl)
theorem q_9_15 : (Cond.methodLink RX6 63 yX6_in) ∈ wsL_law := wr_9 _ (List.mem_of_getElem? (i := 15) rfl)
theorem q_9_16 : (Cond.static yX6_in) ∈ wsL_law := wr_9 _ (List.mem_of_getElem? (i := 16) rfl)
theorem q_9_17 : (Cond.code yX6_in cX6_in 3 (some .boolean)) ∈ wsL_law := wr_9 _ (List.mem_of_getElem? (i := 17) rfl)
theorem q_9_18 : (Cond.methodLink RX6 116 yX6_changes) ∈ wsL_law := wr_9 _ (List.mem_of_getElem? (i := 18) rfl)
theorem q_9_19 : (Cond.instanceMethod yX6_changes) ∈ wsL_law := wr_9 _ (List.mem_of_getElem? (i := 19) rfl)
theorem q_9_20 : (Cond.selects RX6 yX6_changes yX6_changes) ∈ wsL_law := wr_9 _ (List.mem_of_getElem? (i := 20) rfl)
theorem q_9_21 : (Cond.code yX6_changes cX6_changes 2 none) ∈ wsL_law := wr_9 _ (List.mem_of_getElem? (i := 21) rfl)
theorem q_9_22 : (Cond.fieldLink RX6 55 "DriftPlansModel" "runs" "Z") ∈ wsL_law := wr_9 _ (List.mem_of_getElem? (i := 22) rfl)
theorem q_9_23 : (Cond.fieldLink RX6 59 "DriftPlansModel" "pasts" "I") ∈ wsL_law := wr_9 _ (List.mem_of_getElem? (i := 23) rfl)
theorem q_10_0 : (Cond.methodLink RL 18 yX5_part) ∈ wsL_law := wr_10 _ (List.mem_of_getElem? (i := 0) rfl)
theorem q_10_1 : (Cond.instanceMethod yX5_part) ∈ wsL_law := wr_10 _ (List.mem_of_getElem? (i := 1) rfl)
theorem q_10_2 : (Cond.selects RX5 yX5_part yX5_part) ∈ wsL_law := wr_10 _ (List.mem_of_getElem? (i := 2) rfl)
theorem q_10_3 : (Cond.code yX5_part cX5_part 4 (some .int)) ∈ wsL_law := wr_10 _ (List.mem_of_getElem? (i := 3) rfl)
theorem q_10_4 : (Cond.fieldLink RX5 62 "DriftPlans$State" "parts" "[[I") ∈ wsL_law := wr_10 _ (List.mem_of_getElem? (i := 4) rfl)
theorem q_10_5 : (Cond.methodLink RX5 58 yX5_isJoin) ∈ wsL_law := wr_10 _ (List.mem_of_getElem? (i := 5) rfl)
theorem q_10_6 : (Cond.static yX5_isJoin) ∈ wsL_law := wr_10 _ (List.mem_of_getElem? (i := 6) rfl)
theorem q_10_7 : (Cond.code yX5_isJoin cX5_isJoin 2 (some .boolean)) ∈ wsL_law := wr_10 _ (List.mem_of_getElem? (i := 7) rfl)
theorem q_10_8 : (Cond.methodLink RX5 66 yX5_bit) ∈ wsL_law := wr_10 _ (List.mem_of_getElem? (i := 8) rfl)
theorem q_10_9 : (Cond.static yX5_bit) ∈ wsL_law := wr_10 _ (List.mem_of_getElem? (i := 9) rfl)
theorem q_10_10 : (Cond.code yX5_bit cX5_bit 1 (some .int)) ∈ wsL_law := wr_10 _ (List.mem_of_getElem? (i := 10) rfl)
theorem q_10_11 : (Cond.methodLink RX5 70 yX4_throwOutJoins) ∈ wsL_law := wr_10 _ (List.mem_of_getElem? (i := 11) rfl)
theorem q_10_12 : (Cond.instanceMethod yX4_throwOutJoins) ∈ wsL_law := wr_10 _ (List.mem_of_getElem? (i := 12) rfl)
theorem q_10_13 : (Cond.selects RX4 yX4_throwOutJoins yX4_throwOutJoins) ∈ wsL_law := wr_10 _ (List.mem_of_getElem? (i := 13) rfl)
theorem q_10_14 : (Cond.code yX4_throwOutJoins cX4_throwOutJoins 5 (some .int)) ∈ wsL_law := wr_10 _ (List.mem_of_getElem? (i := 14) rfl)
theorem q_10_15 : (Cond.fieldLink RX4 83 "DriftPlans$Kept" "pinned" "Z") ∈ wsL_law := wr_10 _ (List.mem_of_getElem? (i := 15) rfl)
theorem q_10_16 : (Cond.fieldLink RX4 76 "DriftPlans$Kept" "shape" "I") ∈ wsL_law := wr_10 _ (List.mem_of_getElem? (i := 16) rfl)
theorem q_10_17 : (Cond.static yX5_hasAll) ∈ wsL_law := wr_10 _ (List.mem_of_getElem? (i := 17) rfl)
theorem q_10_18 : (Cond.code yX5_hasAll cX5_hasAll 2 (some .boolean)) ∈ wsL_law := wr_10 _ (List.mem_of_getElem? (i := 18) rfl)
theorem q_10_19 : (Cond.methodLink RX4 101 yJx4a65c_remove_915e3) ∈ wsL_law := wr_10 _ (List.mem_of_getElem? (i := 19) rfl)
theorem q_10_20 : (Cond.methodLink RL 22 yX6_part) ∈ wsL_law := wr_10 _ (List.mem_of_getElem? (i := 20) rfl)
theorem q_10_21 : (Cond.instanceMethod yX6_part) ∈ wsL_law := wr_10 _ (List.mem_of_getElem? (i := 21) rfl)
theorem q_10_22 : (Cond.selects RX6 yX6_part yX6_part) ∈ wsL_law := wr_10 _ (List.mem_of_getElem? (i := 22) rfl)
theorem q_10_23 : (Cond.code yX6_part cX6_part 7 (some .int)) ∈ wsL_law := wr_10 _ (List.mem_of_getElem? (i := 23) rfl)
theorem q_11_0 : (Cond.methodLink RX6 97 yX6_isLoose) ∈ wsL_law := wr_11 _ (List.mem_of_getElem? (i := 0) rfl)
theorem q_11_1 : (Cond.instanceMethod yX6_isLoose) ∈ wsL_law := wr_11 _ (List.mem_of_getElem? (i := 1) rfl)
theorem q_11_2 : (Cond.selects RX6 yX6_isLoose yX6_isLoose) ∈ wsL_law := wr_11 _ (List.mem_of_getElem? (i := 2) rfl)
theorem q_11_3 : (Cond.code yX6_isLoose cX6_isLoose 2 (some .boolean)) ∈ wsL_law := wr_11 _ (List.mem_of_getElem? (i := 3) rfl)
theorem q_11_4 : (Cond.methodLink RX6 90 yX6_at) ∈ wsL_law := wr_11 _ (List.mem_of_getElem? (i := 4) rfl)
theorem q_11_5 : (Cond.static yX6_at) ∈ wsL_law := wr_11 _ (List.mem_of_getElem? (i := 5) rfl)
theorem q_11_6 : (Cond.code yX6_at cX6_at 1 (some .int)) ∈ wsL_law := wr_11 _ (List.mem_of_getElem? (i := 6) rfl)
theorem q_11_7 : (Cond.methodLink RX6 105 yX6_empties) ∈ wsL_law := wr_11 _ (List.mem_of_getElem? (i := 7) rfl)
theorem q_11_8 : (Cond.instanceMethod yX6_empties) ∈ wsL_law := wr_11 _ (List.mem_of_getElem? (i := 8) rfl)
theorem q_11_9 : (Cond.selects RX6 yX6_empties yX6_empties) ∈ wsL_law := wr_11 _ (List.mem_of_getElem? (i := 9) rfl)
theorem q_11_10 : (Cond.code yX6_empties cX6_empties 3 none) ∈ wsL_law := wr_11 _ (List.mem_of_getElem? (i := 10) rfl)
theorem q_11_11 : (Cond.methodLink RL 23 yX5_count) ∈ wsL_law := wr_11 _ (List.mem_of_getElem? (i := 11) rfl)
theorem q_11_12 : (Cond.instanceMethod yX5_count) ∈ wsL_law := wr_11 _ (List.mem_of_getElem? (i := 12) rfl)
theorem q_11_13 : (Cond.selects RX5 yX5_count yX5_count) ∈ wsL_law := wr_11 _ (List.mem_of_getElem? (i := 13) rfl)
theorem q_11_14 : (Cond.code yX5_count cX5_count 2 (some .int)) ∈ wsL_law := wr_11 _ (List.mem_of_getElem? (i := 14) rfl)
theorem q_11_15 : (Cond.methodLink RX5 73 yX4_countTables) ∈ wsL_law := wr_11 _ (List.mem_of_getElem? (i := 15) rfl)
theorem q_11_16 : (Cond.instanceMethod yX4_countTables) ∈ wsL_law := wr_11 _ (List.mem_of_getElem? (i := 16) rfl)
theorem q_11_17 : (Cond.selects RX4 yX4_countTables yX4_countTables) ∈ wsL_law := wr_11 _ (List.mem_of_getElem? (i := 17) rfl)
theorem q_11_18 : (Cond.code yX4_countTables cX4_countTables 3 (some .int)) ∈ wsL_law := wr_11 _ (List.mem_of_getElem? (i := 18) rfl)
theorem q_11_19 : (Cond.static yX5_has) ∈ wsL_law := wr_11 _ (List.mem_of_getElem? (i := 19) rfl)
theorem q_11_20 : (Cond.code yX5_has cX5_has 2 (some .boolean)) ∈ wsL_law := wr_11 _ (List.mem_of_getElem? (i := 20) rfl)
theorem q_11_21 : (Cond.methodLink RX4 116 yX4_throwOutDrifted) ∈ wsL_law := wr_11 _ (List.mem_of_getElem? (i := 21) rfl)
theorem q_11_22 : (Cond.instanceMethod yX4_throwOutDrifted) ∈ wsL_law := wr_11 _ (List.mem_of_getElem? (i := 22) rfl)
theorem q_11_23 : (Cond.selects RX4 yX4_throwOutDrifted yX4_throwOutDrifted) ∈ wsL_law := wr_11 _ (List.mem_of_getElem? (i := 23) rfl)
theorem q_12_0 : (Cond.code yX4_throwOutDrifted cX4_throwOutDrifted 4 (some .int)) ∈ wsL_law := wr_12 _ (List.mem_of_getElem? (i := 0) rfl)
theorem q_12_1 : (Cond.methodLink RX4 119 yX4_driftsOnceCounted) ∈ wsL_law := wr_12 _ (List.mem_of_getElem? (i := 1) rfl)
theorem q_12_2 : (Cond.instanceMethod yX4_driftsOnceCounted) ∈ wsL_law := wr_12 _ (List.mem_of_getElem? (i := 2) rfl)
theorem q_12_3 : (Cond.selects RX4 yX4_driftsOnceCounted yX4_driftsOnceCounted) ∈ wsL_law := wr_12 _ (List.mem_of_getElem? (i := 3) rfl)
theorem q_12_4 : (Cond.code yX4_driftsOnceCounted cX4_driftsOnceCounted 6 (some .boolean)) ∈ wsL_law := wr_12 _ (List.mem_of_getElem? (i := 4) rfl)
theorem q_12_5 : (Cond.fieldLink RX4 90 "DriftPlans$Kept" "guesses" "[I") ∈ wsL_law := wr_12 _ (List.mem_of_getElem? (i := 5) rfl)
theorem q_12_6 : (Cond.methodLink RX4 123 Lib.Math.max.name) ∈ wsL_law := wr_12 _ (List.mem_of_getElem? (i := 6) rfl)
theorem q_12_7 : (Cond.methodLink RX4 129 Lib.Math.min.name) ∈ wsL_law := wr_12 _ (List.mem_of_getElem? (i := 7) rfl)
theorem q_12_8 : (Cond.methodLink RL 27 yX6_count) ∈ wsL_law := wr_12 _ (List.mem_of_getElem? (i := 8) rfl)
theorem q_12_9 : (Cond.instanceMethod yX6_count) ∈ wsL_law := wr_12 _ (List.mem_of_getElem? (i := 9) rfl)
theorem q_12_10 : (Cond.selects RX6 yX6_count yX6_count) ∈ wsL_law := wr_12 _ (List.mem_of_getElem? (i := 10) rfl)
theorem q_12_11 : (Cond.code yX6_count cX6_count 2 (some .int)) ∈ wsL_law := wr_12 _ (List.mem_of_getElem? (i := 11) rfl)
theorem q_12_12 : (Cond.methodLink RX6 119 yX6_counts) ∈ wsL_law := wr_12 _ (List.mem_of_getElem? (i := 12) rfl)
theorem q_12_13 : (Cond.instanceMethod yX6_counts) ∈ wsL_law := wr_12 _ (List.mem_of_getElem? (i := 13) rfl)
theorem q_12_14 : (Cond.selects RX6 yX6_counts yX6_counts) ∈ wsL_law := wr_12 _ (List.mem_of_getElem? (i := 14) rfl)
theorem q_12_15 : (Cond.code yX6_counts cX6_counts 2 (some .int)) ∈ wsL_law := wr_12 _ (List.mem_of_getElem? (i := 15) rfl)
theorem q_12_16 : (Cond.methodLink RX6 109 yX6_throwsOut) ∈ wsL_law := wr_12 _ (List.mem_of_getElem? (i := 16) rfl)
theorem q_12_17 : (Cond.instanceMethod yX6_throwsOut) ∈ wsL_law := wr_12 _ (List.mem_of_getElem? (i := 17) rfl)
theorem q_12_18 : (Cond.selects RX6 yX6_throwsOut yX6_throwsOut) ∈ wsL_law := wr_12 _ (List.mem_of_getElem? (i := 18) rfl)
theorem q_12_19 : (Cond.code yX6_throwsOut cX6_throwsOut 3 (some .int)) ∈ wsL_law := wr_12 _ (List.mem_of_getElem? (i := 19) rfl)
theorem q_12_20 : (Cond.methodLink RX6 101 yX6_hasDrifted) ∈ wsL_law := wr_12 _ (List.mem_of_getElem? (i := 20) rfl)
theorem q_12_21 : (Cond.instanceMethod yX6_hasDrifted) ∈ wsL_law := wr_12 _ (List.mem_of_getElem? (i := 21) rfl)
theorem q_12_22 : (Cond.selects RX6 yX6_hasDrifted yX6_hasDrifted) ∈ wsL_law := wr_12 _ (List.mem_of_getElem? (i := 22) rfl)
theorem q_12_23 : (Cond.code yX6_hasDrifted cX6_hasDrifted 9 (some .boolean)) ∈ wsL_law := wr_12 _ (List.mem_of_getElem? (i := 23) rfl)
theorem q_13_0 : (Cond.methodLink RL 28 yX5_run) ∈ wsL_law := wr_13 _ (List.mem_of_getElem? (i := 0) rfl)
theorem q_13_1 : (Cond.instanceMethod yX5_run) ∈ wsL_law := wr_13 _ (List.mem_of_getElem? (i := 1) rfl)
theorem q_13_2 : (Cond.selects RX5 yX5_run yX5_run) ∈ wsL_law := wr_13 _ (List.mem_of_getElem? (i := 2) rfl)
theorem q_13_3 : (Cond.code yX5_run cX5_run 2 (some .int)) ∈ wsL_law := wr_13 _ (List.mem_of_getElem? (i := 3) rfl)
theorem q_13_4 : (Cond.methodLink RX5 76 yX5_isSet) ∈ wsL_law := wr_13 _ (List.mem_of_getElem? (i := 4) rfl)
theorem q_13_5 : (Cond.static yX5_isSet) ∈ wsL_law := wr_13 _ (List.mem_of_getElem? (i := 5) rfl)
theorem q_13_6 : (Cond.code yX5_isSet cX5_isSet 1 (some .boolean)) ∈ wsL_law := wr_13 _ (List.mem_of_getElem? (i := 6) rfl)
theorem q_13_7 : (Cond.methodLink RX5 79 yX5_runQuery) ∈ wsL_law := wr_13 _ (List.mem_of_getElem? (i := 7) rfl)
theorem q_13_8 : (Cond.instanceMethod yX5_runQuery) ∈ wsL_law := wr_13 _ (List.mem_of_getElem? (i := 8) rfl)
theorem q_13_9 : (Cond.selects RX5 yX5_runQuery yX5_runQuery) ∈ wsL_law := wr_13 _ (List.mem_of_getElem? (i := 9) rfl)
theorem q_13_10 : (Cond.code yX5_runQuery cX5_runQuery 8 (some .long)) ∈ wsL_law := wr_13 _ (List.mem_of_getElem? (i := 10) rfl)
theorem q_13_11 : (Cond.fieldLink RX5 90 "DriftPlans$State" "kept" "Ljava/util/ArrayList;") ∈ wsL_law := wr_13 _ (List.mem_of_getElem? (i := 11) rfl)
theorem q_13_12 : (Cond.classLink RX5 97 "DriftPlans$Kept") ∈ wsL_law := wr_13 _ (List.mem_of_getElem? (i := 12) rfl)
theorem q_13_13 : (Cond.fieldLink RX5 188 "DriftPlans$Kept" "order" "I") ∈ wsL_law := wr_13 _ (List.mem_of_getElem? (i := 13) rfl)
theorem q_13_14 : (Cond.fieldLink RX5 214 "DriftPlans$State" "runCosts" "J") ∈ wsL_law := wr_13 _ (List.mem_of_getElem? (i := 14) rfl)
theorem q_13_15 : (Cond.methodLink RX5 87 yX4_placeOf) ∈ wsL_law := wr_13 _ (List.mem_of_getElem? (i := 15) rfl)
theorem q_13_16 : (Cond.instanceMethod yX4_placeOf) ∈ wsL_law := wr_13 _ (List.mem_of_getElem? (i := 16) rfl)
theorem q_13_17 : (Cond.selects RX4 yX4_placeOf yX4_placeOf) ∈ wsL_law := wr_13 _ (List.mem_of_getElem? (i := 17) rfl)
theorem q_13_18 : (Cond.code yX4_placeOf cX4_placeOf 3 (some .int)) ∈ wsL_law := wr_13 _ (List.mem_of_getElem? (i := 18) rfl)
theorem q_13_19 : (Cond.methodLink RX5 93 yJx4a65c_get_915e3) ∈ wsL_law := wr_13 _ (List.mem_of_getElem? (i := 19) rfl)
theorem q_13_20 : (Cond.methodLink RX5 258 yX4_useAgain) ∈ wsL_law := wr_13 _ (List.mem_of_getElem? (i := 20) rfl)
theorem q_13_21 : (Cond.instanceMethod yX4_useAgain) ∈ wsL_law := wr_13 _ (List.mem_of_getElem? (i := 21) rfl)
theorem q_13_22 : (Cond.selects RX4 yX4_useAgain yX4_useAgain) ∈ wsL_law := wr_13 _ (List.mem_of_getElem? (i := 22) rfl)
theorem q_13_23 : (Cond.code yX4_useAgain cX4_useAgain 3 none) ∈ wsL_law := wr_13 _ (List.mem_of_getElem? (i := 23) rfl)
theorem q_14_0 : (Cond.classLink RX4 42 RX0) ∈ wsL_law := wr_14 _ (List.mem_of_getElem? (i := 0) rfl)
theorem q_14_1 : (Cond.instantiable RX0 5) ∈ wsL_law := wr_14 _ (List.mem_of_getElem? (i := 1) rfl)
theorem q_14_2 : (Cond.initialized RX0) ∈ wsL_law := wr_14 _ (List.mem_of_getElem? (i := 2) rfl)
theorem q_14_3 : (Cond.fieldLink RX4 87 "DriftPlans$Kept" "order" "I") ∈ wsL_law := wr_14 _ (List.mem_of_getElem? (i := 3) rfl)
theorem q_14_4 : (Cond.fieldLink RX4 91 "DriftPlans$Kept" "runs" "J") ∈ wsL_law := wr_14 _ (List.mem_of_getElem? (i := 4) rfl)
theorem q_14_5 : (Cond.methodLink RX4 94 yX0_init) ∈ wsL_law := wr_14 _ (List.mem_of_getElem? (i := 5) rfl)
theorem q_14_6 : (Cond.instanceMethod yX0_init) ∈ wsL_law := wr_14 _ (List.mem_of_getElem? (i := 6) rfl)
theorem q_14_7 : (Cond.code yX0_init cX0_init 7 none) ∈ wsL_law := wr_14 _ (List.mem_of_getElem? (i := 7) rfl)
theorem q_14_8 : (Cond.methodLink RX0 1 objectInit) ∈ wsL_law := wr_14 _ (List.mem_of_getElem? (i := 8) rfl)
theorem q_14_9 : (Cond.fieldLink RX0 7 "DriftPlans$Kept" "shape" "I") ∈ wsL_law := wr_14 _ (List.mem_of_getElem? (i := 9) rfl)
theorem q_14_10 : (Cond.fieldLink RX0 13 "DriftPlans$Kept" "order" "I") ∈ wsL_law := wr_14 _ (List.mem_of_getElem? (i := 10) rfl)
theorem q_14_11 : (Cond.fieldLink RX0 16 "DriftPlans$Kept" "guesses" "[I") ∈ wsL_law := wr_14 _ (List.mem_of_getElem? (i := 11) rfl)
theorem q_14_12 : (Cond.fieldLink RX0 20 "DriftPlans$Kept" "runs" "J") ∈ wsL_law := wr_14 _ (List.mem_of_getElem? (i := 12) rfl)
theorem q_14_13 : (Cond.fieldLink RX0 24 "DriftPlans$Kept" "pinned" "Z") ∈ wsL_law := wr_14 _ (List.mem_of_getElem? (i := 13) rfl)
theorem q_14_14 : (Cond.methodLink RX5 163 yX5_reckoned) ∈ wsL_law := wr_14 _ (List.mem_of_getElem? (i := 14) rfl)
theorem q_14_15 : (Cond.instanceMethod yX5_reckoned) ∈ wsL_law := wr_14 _ (List.mem_of_getElem? (i := 15) rfl)
theorem q_14_16 : (Cond.selects RX5 yX5_reckoned yX5_reckoned) ∈ wsL_law := wr_14 _ (List.mem_of_getElem? (i := 16) rfl)
theorem q_14_17 : (Cond.code yX5_reckoned cX5_reckoned 2 (some (.object "DriftPlans$Reckoner"))) ∈ wsL_law := wr_14 _ (List.mem_of_getElem? (i := 17) rfl)
theorem q_14_18 : (Cond.fieldLink RX5 153 "DriftPlans$State" "guesses" "[I") ∈ wsL_law := wr_14 _ (List.mem_of_getElem? (i := 18) rfl)
theorem q_14_19 : (Cond.methodLink RX5 254 yX3_reckon) ∈ wsL_law := wr_14 _ (List.mem_of_getElem? (i := 19) rfl)
theorem q_14_20 : (Cond.instanceMethod yX3_reckon) ∈ wsL_law := wr_14 _ (List.mem_of_getElem? (i := 20) rfl)
theorem q_14_21 : (Cond.selects RX3 yX3_reckon yX3_reckon) ∈ wsL_law := wr_14 _ (List.mem_of_getElem? (i := 21) rfl)
theorem q_14_22 : (Cond.code yX3_reckon cX3_reckon 8 none) ∈ wsL_law := wr_14 _ (List.mem_of_getElem? (i := 22) rfl)
theorem q_14_23 : (Cond.constantLong RX3 30 (100)) ∈ wsL_law := wr_14 _ (List.mem_of_getElem? (i := 23) rfl)
theorem q_15_0 : (Cond.methodLink RX3 32 yX3_planSet) ∈ wsL_law := wr_15 _ (List.mem_of_getElem? (i := 0) rfl)
theorem q_15_1 : (Cond.instanceMethod yX3_planSet) ∈ wsL_law := wr_15 _ (List.mem_of_getElem? (i := 1) rfl)
theorem q_15_2 : (Cond.selects RX3 yX3_planSet yX3_planSet) ∈ wsL_law := wr_15 _ (List.mem_of_getElem? (i := 2) rfl)
theorem q_15_3 : (Cond.code yX3_planSet cX3_planSet 10 none) ∈ wsL_law := wr_15 _ (List.mem_of_getElem? (i := 3) rfl)
theorem q_15_4 : (Cond.constantLong RX3 38 (9223372036854775807)) ∈ wsL_law := wr_15 _ (List.mem_of_getElem? (i := 4) rfl)
theorem q_15_5 : (Cond.methodLink RX3 48 Lib.MathLoose.max_long.x) ∈ wsL_law := wr_15 _ (List.mem_of_getElem? (i := 5) rfl)
theorem q_15_6 : (Cond.static Lib.MathLoose.max_long.x) ∈ wsL_law := wr_15 _ (List.mem_of_getElem? (i := 6) rfl)
theorem q_15_7 : (Cond.code Lib.MathLoose.max_long.x Lib.MathLoose.max_long.code 4 (some .long)) ∈ wsL_law := wr_15 _ (List.mem_of_getElem? (i := 7) rfl)
theorem q_15_8 : (Cond.static yX5_longerOrder) ∈ wsL_law := wr_15 _ (List.mem_of_getElem? (i := 8) rfl)
theorem q_15_9 : (Cond.code yX5_longerOrder cX5_longerOrder 2 (some .int)) ∈ wsL_law := wr_15 _ (List.mem_of_getElem? (i := 9) rfl)
theorem q_15_10 : (Cond.methodLink RX5 181 yX3_bestOrder) ∈ wsL_law := wr_15 _ (List.mem_of_getElem? (i := 10) rfl)
theorem q_15_11 : (Cond.instanceMethod yX3_bestOrder) ∈ wsL_law := wr_15 _ (List.mem_of_getElem? (i := 11) rfl)
theorem q_15_12 : (Cond.selects RX3 yX3_bestOrder yX3_bestOrder) ∈ wsL_law := wr_15 _ (List.mem_of_getElem? (i := 12) rfl)
theorem q_15_13 : (Cond.code yX3_bestOrder cX3_bestOrder 2 (some .int)) ∈ wsL_law := wr_15 _ (List.mem_of_getElem? (i := 13) rfl)
theorem q_15_14 : (Cond.methodLink RX5 235 yX5_makingCost) ∈ wsL_law := wr_15 _ (List.mem_of_getElem? (i := 14) rfl)
theorem q_15_15 : (Cond.static yX5_makingCost) ∈ wsL_law := wr_15 _ (List.mem_of_getElem? (i := 15) rfl)
theorem q_15_16 : (Cond.code yX5_makingCost cX5_makingCost 1 (some .long)) ∈ wsL_law := wr_15 _ (List.mem_of_getElem? (i := 16) rfl)
theorem q_15_17 : (Cond.constantLong RX5 285 (10)) ∈ wsL_law := wr_15 _ (List.mem_of_getElem? (i := 17) rfl)
theorem q_15_18 : (Cond.methodLink RX5 176 yJ6_bitCount_0f7a4) ∈ wsL_law := wr_15 _ (List.mem_of_getElem? (i := 18) rfl)
theorem q_15_19 : (Cond.static yJ6_bitCount_0f7a4) ∈ wsL_law := wr_15 _ (List.mem_of_getElem? (i := 19) rfl)
theorem q_15_20 : (Cond.initialized RJ6) ∈ wsL_law := wr_15 _ (List.mem_of_getElem? (i := 20) rfl)
theorem q_15_21 : (Cond.code yJ6_bitCount_0f7a4 cJ6_bitCount_0f7a4 1 (some .int)) ∈ wsL_law := wr_15 _ (List.mem_of_getElem? (i := 21) rfl)
theorem q_15_22 : (Cond.constant RJ6 265 (1431655765)) ∈ wsL_law := wr_15 _ (List.mem_of_getElem? (i := 22) rfl)
theorem q_15_23 : (Cond.constant RJ6 266 (858993459)) ∈ wsL_law := wr_15 _ (List.mem_of_getElem? (i := 23) rfl)
theorem q_16_0 : (Cond.constant RJ6 267 (252645135)) ∈ wsL_law := wr_16 _ (List.mem_of_getElem? (i := 0) rfl)
theorem q_16_1 : (Cond.methodLink RX5 262 yX4_keepNew) ∈ wsL_law := wr_16 _ (List.mem_of_getElem? (i := 1) rfl)
theorem q_16_2 : (Cond.instanceMethod yX4_keepNew) ∈ wsL_law := wr_16 _ (List.mem_of_getElem? (i := 2) rfl)
theorem q_16_3 : (Cond.selects RX4 yX4_keepNew yX4_keepNew) ∈ wsL_law := wr_16 _ (List.mem_of_getElem? (i := 3) rfl)
theorem q_16_4 : (Cond.code yX4_keepNew cX4_keepNew 5 none) ∈ wsL_law := wr_16 _ (List.mem_of_getElem? (i := 4) rfl)
theorem q_16_5 : (Cond.methodLink RX4 108 ⟨"[I", "clone", "()Ljava/lang/Object;"⟩) ∈ wsL_law := wr_16 _ (List.mem_of_getElem? (i := 5) rfl)
theorem q_16_6 : (Cond.sameMethod "[I" "java/lang/Object" "clone" "()Ljava/lang/Object;") ∈ wsL_law := wr_16 _ (List.mem_of_getElem? (i := 6) rfl)
theorem q_16_7 : (Cond.native ⟨"java/lang/Object", "clone", "()Ljava/lang/Object;"⟩) ∈ wsL_law := wr_16 _ (List.mem_of_getElem? (i := 7) rfl)
theorem q_16_8 : (Cond.instanceMethod ⟨"java/lang/Object", "clone", "()Ljava/lang/Object;"⟩) ∈ wsL_law := wr_16 _ (List.mem_of_getElem? (i := 8) rfl)
theorem q_16_9 : (Cond.selects "[I" ⟨"[I", "clone", "()Ljava/lang/Object;"⟩ ⟨"java/lang/Object", "clone", "()Ljava/lang/Object;"⟩) ∈ wsL_law := wr_16 _ (List.mem_of_getElem? (i := 9) rfl)
theorem q_16_10 : (Cond.classLink RX4 109 "[I") ∈ wsL_law := wr_16 _ (List.mem_of_getElem? (i := 10) rfl)
theorem q_16_11 : (Cond.methodLink RX4 104 yX4_pushOneOut) ∈ wsL_law := wr_16 _ (List.mem_of_getElem? (i := 11) rfl)
theorem q_16_12 : (Cond.instanceMethod yX4_pushOneOut) ∈ wsL_law := wr_16 _ (List.mem_of_getElem? (i := 12) rfl)
theorem q_16_13 : (Cond.selects RX4 yX4_pushOneOut yX4_pushOneOut) ∈ wsL_law := wr_16 _ (List.mem_of_getElem? (i := 13) rfl)
theorem q_16_14 : (Cond.code yX4_pushOneOut cX4_pushOneOut 2 (some .boolean)) ∈ wsL_law := wr_16 _ (List.mem_of_getElem? (i := 14) rfl)
theorem q_16_15 : (Cond.methodLink RX5 191 yX3_costOf) ∈ wsL_law := wr_16 _ (List.mem_of_getElem? (i := 15) rfl)
theorem q_16_16 : (Cond.instanceMethod yX3_costOf) ∈ wsL_law := wr_16 _ (List.mem_of_getElem? (i := 16) rfl)
theorem q_16_17 : (Cond.selects RX3 yX3_costOf yX3_costOf) ∈ wsL_law := wr_16 _ (List.mem_of_getElem? (i := 17) rfl)
theorem q_16_18 : (Cond.code yX3_costOf cX3_costOf 8 (some .long)) ∈ wsL_law := wr_16 _ (List.mem_of_getElem? (i := 18) rfl)
theorem q_16_19 : (Cond.methodLink RX3 65 yJ6_bitCount_0f7a4) ∈ wsL_law := wr_16 _ (List.mem_of_getElem? (i := 19) rfl)
theorem q_16_20 : (Cond.static yX5_tableAt) ∈ wsL_law := wr_16 _ (List.mem_of_getElem? (i := 20) rfl)
theorem q_16_21 : (Cond.code yX5_tableAt cX5_tableAt 3 (some .int)) ∈ wsL_law := wr_16 _ (List.mem_of_getElem? (i := 21) rfl)
theorem q_16_22 : (Cond.methodLink RX3 58 yX3_sizeOf) ∈ wsL_law := wr_16 _ (List.mem_of_getElem? (i := 22) rfl)
theorem q_16_23 : (Cond.instanceMethod yX3_sizeOf) ∈ wsL_law := wr_16 _ (List.mem_of_getElem? (i := 23) rfl)
theorem q_17_0 : (Cond.selects RX3 yX3_sizeOf yX3_sizeOf) ∈ wsL_law := wr_17 _ (List.mem_of_getElem? (i := 0) rfl)
theorem q_17_1 : (Cond.code yX3_sizeOf cX3_sizeOf 2 (some .long)) ∈ wsL_law := wr_17 _ (List.mem_of_getElem? (i := 1) rfl)
theorem q_17_2 : (Cond.methodLink RX5 83 yX5_told) ∈ wsL_law := wr_17 _ (List.mem_of_getElem? (i := 2) rfl)
theorem q_17_3 : (Cond.static yX5_told) ∈ wsL_law := wr_17 _ (List.mem_of_getElem? (i := 3) rfl)
theorem q_17_4 : (Cond.code yX5_told cX5_told 2 (some .int)) ∈ wsL_law := wr_17 _ (List.mem_of_getElem? (i := 4) rfl)
theorem q_17_5 : (Cond.constantLong RX5 279 (1000000000)) ∈ wsL_law := wr_17 _ (List.mem_of_getElem? (i := 5) rfl)
theorem q_17_6 : (Cond.methodLink RX5 281 Lib.MathLoose.min_long.x) ∈ wsL_law := wr_17 _ (List.mem_of_getElem? (i := 6) rfl)
theorem q_17_7 : (Cond.static Lib.MathLoose.min_long.x) ∈ wsL_law := wr_17 _ (List.mem_of_getElem? (i := 7) rfl)
theorem q_17_8 : (Cond.code Lib.MathLoose.min_long.x Lib.MathLoose.min_long.code 4 (some .long)) ∈ wsL_law := wr_17 _ (List.mem_of_getElem? (i := 8) rfl)
theorem q_17_9 : (Cond.methodLink RL 31 yX6_run) ∈ wsL_law := wr_17 _ (List.mem_of_getElem? (i := 9) rfl)
theorem q_17_10 : (Cond.instanceMethod yX6_run) ∈ wsL_law := wr_17 _ (List.mem_of_getElem? (i := 10) rfl)
theorem q_17_11 : (Cond.selects RX6 yX6_run yX6_run) ∈ wsL_law := wr_17 _ (List.mem_of_getElem? (i := 11) rfl)
theorem q_17_12 : (Cond.code yX6_run cX6_run 2 (some .int)) ∈ wsL_law := wr_17 _ (List.mem_of_getElem? (i := 12) rfl)
theorem q_17_13 : (Cond.methodLink RX6 142 yX6_isSet) ∈ wsL_law := wr_17 _ (List.mem_of_getElem? (i := 13) rfl)
theorem q_17_14 : (Cond.static yX6_isSet) ∈ wsL_law := wr_17 _ (List.mem_of_getElem? (i := 14) rfl)
theorem q_17_15 : (Cond.code yX6_isSet cX6_isSet 1 (some .boolean)) ∈ wsL_law := wr_17 _ (List.mem_of_getElem? (i := 15) rfl)
theorem q_17_16 : (Cond.methodLink RX6 145 yX6_runsOf) ∈ wsL_law := wr_17 _ (List.mem_of_getElem? (i := 16) rfl)
theorem q_17_17 : (Cond.instanceMethod yX6_runsOf) ∈ wsL_law := wr_17 _ (List.mem_of_getElem? (i := 17) rfl)
theorem q_17_18 : (Cond.selects RX6 yX6_runsOf yX6_runsOf) ∈ wsL_law := wr_17 _ (List.mem_of_getElem? (i := 18) rfl)
theorem q_17_19 : (Cond.code yX6_runsOf cX6_runsOf 8 (some .long)) ∈ wsL_law := wr_17 _ (List.mem_of_getElem? (i := 19) rfl)
theorem q_17_20 : (Cond.constantLong RX6 134 (10)) ∈ wsL_law := wr_17 _ (List.mem_of_getElem? (i := 20) rfl)
theorem q_17_21 : (Cond.methodLink RX6 122 yX6_slotOf) ∈ wsL_law := wr_17 _ (List.mem_of_getElem? (i := 21) rfl)
theorem q_17_22 : (Cond.instanceMethod yX6_slotOf) ∈ wsL_law := wr_17 _ (List.mem_of_getElem? (i := 22) rfl)
theorem q_17_23 : (Cond.selects RX6 yX6_slotOf yX6_slotOf) ∈ wsL_law := wr_17 _ (List.mem_of_getElem? (i := 23) rfl)
theorem q_18_0 : (Cond.code yX6_slotOf cX6_slotOf 3 (some .int)) ∈ wsL_law := wr_18 _ (List.mem_of_getElem? (i := 0) rfl)
theorem q_18_1 : (Cond.methodLink RX6 94 yX6_tablesIn) ∈ wsL_law := wr_18 _ (List.mem_of_getElem? (i := 1) rfl)
theorem q_18_2 : (Cond.static yX6_tablesIn) ∈ wsL_law := wr_18 _ (List.mem_of_getElem? (i := 2) rfl)
theorem q_18_3 : (Cond.code yX6_tablesIn cX6_tablesIn 3 (some .int)) ∈ wsL_law := wr_18 _ (List.mem_of_getElem? (i := 3) rfl)
theorem q_18_4 : (Cond.methodLink RX6 136 yX6_makes) ∈ wsL_law := wr_18 _ (List.mem_of_getElem? (i := 4) rfl)
theorem q_18_5 : (Cond.instanceMethod yX6_makes) ∈ wsL_law := wr_18 _ (List.mem_of_getElem? (i := 5) rfl)
theorem q_18_6 : (Cond.selects RX6 yX6_makes yX6_makes) ∈ wsL_law := wr_18 _ (List.mem_of_getElem? (i := 6) rfl)
theorem q_18_7 : (Cond.code yX6_makes cX6_makes 8 (some .long)) ∈ wsL_law := wr_18 _ (List.mem_of_getElem? (i := 7) rfl)
theorem q_18_8 : (Cond.fieldLink RX6 69 "DriftPlansModel" "many" "I") ∈ wsL_law := wr_18 _ (List.mem_of_getElem? (i := 8) rfl)
theorem q_18_9 : (Cond.methodLink RX6 125 yX6_finds) ∈ wsL_law := wr_18 _ (List.mem_of_getElem? (i := 9) rfl)
theorem q_18_10 : (Cond.instanceMethod yX6_finds) ∈ wsL_law := wr_18 _ (List.mem_of_getElem? (i := 10) rfl)
theorem q_18_11 : (Cond.selects RX6 yX6_finds yX6_finds) ∈ wsL_law := wr_18 _ (List.mem_of_getElem? (i := 11) rfl)
theorem q_18_12 : (Cond.code yX6_finds cX6_finds 9 (some .long)) ∈ wsL_law := wr_18 _ (List.mem_of_getElem? (i := 12) rfl)
theorem q_18_13 : (Cond.constantLong RX6 80 (-1)) ∈ wsL_law := wr_18 _ (List.mem_of_getElem? (i := 13) rfl)
theorem q_18_14 : (Cond.methodLink RX6 82 yX6_costOf) ∈ wsL_law := wr_18 _ (List.mem_of_getElem? (i := 14) rfl)
theorem q_18_15 : (Cond.instanceMethod yX6_costOf) ∈ wsL_law := wr_18 _ (List.mem_of_getElem? (i := 15) rfl)
theorem q_18_16 : (Cond.selects RX6 yX6_costOf yX6_costOf) ∈ wsL_law := wr_18 _ (List.mem_of_getElem? (i := 16) rfl)
theorem q_18_17 : (Cond.code yX6_costOf cX6_costOf 6 (some .long)) ∈ wsL_law := wr_18 _ (List.mem_of_getElem? (i := 17) rfl)
theorem q_18_18 : (Cond.methodLink RX6 72 yX6_sizeOf) ∈ wsL_law := wr_18 _ (List.mem_of_getElem? (i := 18) rfl)
theorem q_18_19 : (Cond.instanceMethod yX6_sizeOf) ∈ wsL_law := wr_18 _ (List.mem_of_getElem? (i := 19) rfl)
theorem q_18_20 : (Cond.selects RX6 yX6_sizeOf yX6_sizeOf) ∈ wsL_law := wr_18 _ (List.mem_of_getElem? (i := 20) rfl)
theorem q_18_21 : (Cond.code yX6_sizeOf cX6_sizeOf 7 (some .long)) ∈ wsL_law := wr_18 _ (List.mem_of_getElem? (i := 21) rfl)
theorem q_18_22 : (Cond.constantLong RX6 67 (100)) ∈ wsL_law := wr_18 _ (List.mem_of_getElem? (i := 22) rfl)
theorem q_18_23 : (Cond.methodLink RX6 86 yX6_hasNext) ∈ wsL_law := wr_18 _ (List.mem_of_getElem? (i := 23) rfl)
theorem q_19_0 : (Cond.instanceMethod yX6_hasNext) ∈ wsL_law := wr_19 _ (List.mem_of_getElem? (i := 0) rfl)
theorem q_19_1 : (Cond.selects RX6 yX6_hasNext yX6_hasNext) ∈ wsL_law := wr_19 _ (List.mem_of_getElem? (i := 1) rfl)
theorem q_19_2 : (Cond.code yX6_hasNext cX6_hasNext 5 (some .boolean)) ∈ wsL_law := wr_19 _ (List.mem_of_getElem? (i := 2) rfl)
theorem q_19_3 : (Cond.methodLink RX6 76 yX6_swaps) ∈ wsL_law := wr_19 _ (List.mem_of_getElem? (i := 3) rfl)
theorem q_19_4 : (Cond.instanceMethod yX6_swaps) ∈ wsL_law := wr_19 _ (List.mem_of_getElem? (i := 4) rfl)
theorem q_19_5 : (Cond.selects RX6 yX6_swaps yX6_swaps) ∈ wsL_law := wr_19 _ (List.mem_of_getElem? (i := 5) rfl)
theorem q_19_6 : (Cond.code yX6_swaps cX6_swaps 4 none) ∈ wsL_law := wr_19 _ (List.mem_of_getElem? (i := 6) rfl)
theorem q_19_7 : (Cond.methodLink RX6 128 yX6_slotFor) ∈ wsL_law := wr_19 _ (List.mem_of_getElem? (i := 7) rfl)
theorem q_19_8 : (Cond.instanceMethod yX6_slotFor) ∈ wsL_law := wr_19 _ (List.mem_of_getElem? (i := 8) rfl)
theorem q_19_9 : (Cond.selects RX6 yX6_slotFor yX6_slotFor) ∈ wsL_law := wr_19 _ (List.mem_of_getElem? (i := 9) rfl)
theorem q_19_10 : (Cond.code yX6_slotFor cX6_slotFor 4 (some .int)) ∈ wsL_law := wr_19 _ (List.mem_of_getElem? (i := 10) rfl)
theorem q_19_11 : (Cond.methodLink RX6 139 yX6_uses) ∈ wsL_law := wr_19 _ (List.mem_of_getElem? (i := 11) rfl)
theorem q_19_12 : (Cond.instanceMethod yX6_uses) ∈ wsL_law := wr_19 _ (List.mem_of_getElem? (i := 12) rfl)
theorem q_19_13 : (Cond.selects RX6 yX6_uses yX6_uses) ∈ wsL_law := wr_19 _ (List.mem_of_getElem? (i := 13) rfl)
theorem q_19_14 : (Cond.code yX6_uses cX6_uses 2 (some .long)) ∈ wsL_law := wr_19 _ (List.mem_of_getElem? (i := 14) rfl)
theorem q_19_15 : (Cond.methodLink RX6 131 yX6_costAt) ∈ wsL_law := wr_19 _ (List.mem_of_getElem? (i := 15) rfl)
theorem q_19_16 : (Cond.instanceMethod yX6_costAt) ∈ wsL_law := wr_19 _ (List.mem_of_getElem? (i := 16) rfl)
theorem q_19_17 : (Cond.selects RX6 yX6_costAt yX6_costAt) ∈ wsL_law := wr_19 _ (List.mem_of_getElem? (i := 17) rfl)
theorem q_19_18 : (Cond.code yX6_costAt cX6_costAt 4 (some .long)) ∈ wsL_law := wr_19 _ (List.mem_of_getElem? (i := 18) rfl)
theorem q_19_19 : (Cond.methodLink RX6 148 yX6_cut) ∈ wsL_law := wr_19 _ (List.mem_of_getElem? (i := 19) rfl)
theorem q_19_20 : (Cond.static yX6_cut) ∈ wsL_law := wr_19 _ (List.mem_of_getElem? (i := 20) rfl)
theorem q_19_21 : (Cond.code yX6_cut cX6_cut 2 (some .int)) ∈ wsL_law := wr_19 _ (List.mem_of_getElem? (i := 21) rfl)
theorem q_19_22 : (Cond.constantLong RX6 53 (1000000000)) ∈ wsL_law := wr_19 _ (List.mem_of_getElem? (i := 22) rfl)
theorem q_19_23 : (Cond.methodLink RL 32 yX5_pin) ∈ wsL_law := wr_19 _ (List.mem_of_getElem? (i := 23) rfl)
theorem q_20_0 : (Cond.instanceMethod yX5_pin) ∈ wsL_law := wr_20 _ (List.mem_of_getElem? (i := 0) rfl)
theorem q_20_1 : (Cond.selects RX5 yX5_pin yX5_pin) ∈ wsL_law := wr_20 _ (List.mem_of_getElem? (i := 1) rfl)
theorem q_20_2 : (Cond.code yX5_pin cX5_pin 4 (some .int)) ∈ wsL_law := wr_20 _ (List.mem_of_getElem? (i := 2) rfl)
theorem q_20_3 : (Cond.fieldLink RX5 99 "DriftPlans$Kept" "pinned" "Z") ∈ wsL_law := wr_20 _ (List.mem_of_getElem? (i := 3) rfl)
theorem q_20_4 : (Cond.methodLink RX5 103 yX4_setPinned) ∈ wsL_law := wr_20 _ (List.mem_of_getElem? (i := 4) rfl)
theorem q_20_5 : (Cond.instanceMethod yX4_setPinned) ∈ wsL_law := wr_20 _ (List.mem_of_getElem? (i := 5) rfl)
theorem q_20_6 : (Cond.selects RX4 yX4_setPinned yX4_setPinned) ∈ wsL_law := wr_20 _ (List.mem_of_getElem? (i := 6) rfl)
theorem q_20_7 : (Cond.code yX4_setPinned cX4_setPinned 4 none) ∈ wsL_law := wr_20 _ (List.mem_of_getElem? (i := 7) rfl)
theorem q_20_8 : (Cond.methodLink RX4 97 yJx4a65c_set_bcc79) ∈ wsL_law := wr_20 _ (List.mem_of_getElem? (i := 8) rfl)
theorem q_20_9 : (Cond.instanceMethod yJx4a65c_set_bcc79) ∈ wsL_law := wr_20 _ (List.mem_of_getElem? (i := 9) rfl)
theorem q_20_10 : (Cond.selects RJx4a65c yJx4a65c_set_bcc79 yJx4a65c_set_bcc79) ∈ wsL_law := wr_20 _ (List.mem_of_getElem? (i := 10) rfl)
theorem q_20_11 : (Cond.code yJx4a65c_set_bcc79 cJx4a65c_set_bcc79 4 (some (.object "java/lang/Object"))) ∈ wsL_law := wr_20 _ (List.mem_of_getElem? (i := 11) rfl)
theorem q_20_12 : (Cond.methodLink RX5 107 yX4_throwOutDrifted) ∈ wsL_law := wr_20 _ (List.mem_of_getElem? (i := 12) rfl)
theorem q_20_13 : (Cond.methodLink RL 35 yX6_pin) ∈ wsL_law := wr_20 _ (List.mem_of_getElem? (i := 13) rfl)
theorem q_20_14 : (Cond.instanceMethod yX6_pin) ∈ wsL_law := wr_20 _ (List.mem_of_getElem? (i := 14) rfl)
theorem q_20_15 : (Cond.selects RX6 yX6_pin yX6_pin) ∈ wsL_law := wr_20 _ (List.mem_of_getElem? (i := 15) rfl)
theorem q_20_16 : (Cond.code yX6_pin cX6_pin 4 (some .int)) ∈ wsL_law := wr_20 _ (List.mem_of_getElem? (i := 16) rfl)
theorem q_20_17 : (Cond.methodLink RL 36 yX5_forget) ∈ wsL_law := wr_20 _ (List.mem_of_getElem? (i := 17) rfl)
theorem q_20_18 : (Cond.instanceMethod yX5_forget) ∈ wsL_law := wr_20 _ (List.mem_of_getElem? (i := 18) rfl)
theorem q_20_19 : (Cond.selects RX5 yX5_forget yX5_forget) ∈ wsL_law := wr_20 _ (List.mem_of_getElem? (i := 19) rfl)
theorem q_20_20 : (Cond.code yX5_forget cX5_forget 3 (some .int)) ∈ wsL_law := wr_20 _ (List.mem_of_getElem? (i := 20) rfl)
theorem q_20_21 : (Cond.fieldLink RX5 111 "DriftPlans$State" "forgotten" "J") ∈ wsL_law := wr_20 _ (List.mem_of_getElem? (i := 21) rfl)
theorem q_20_22 : (Cond.fieldLink RX5 118 "DriftPlans$Kept" "runs" "J") ∈ wsL_law := wr_20 _ (List.mem_of_getElem? (i := 22) rfl)
theorem q_20_23 : (Cond.methodLink RL 39 yX6_forget) ∈ wsL_law := wr_20 _ (List.mem_of_getElem? (i := 23) rfl)
theorem q_21_0 : (Cond.instanceMethod yX6_forget) ∈ wsL_law := wr_21 _ (List.mem_of_getElem? (i := 0) rfl)
theorem q_21_1 : (Cond.selects RX6 yX6_forget yX6_forget) ∈ wsL_law := wr_21 _ (List.mem_of_getElem? (i := 1) rfl)
theorem q_21_2 : (Cond.code yX6_forget cX6_forget 4 (some .int)) ∈ wsL_law := wr_21 _ (List.mem_of_getElem? (i := 2) rfl)
theorem q_21_3 : (Cond.methodLink RL 40 yX5_drift) ∈ wsL_law := wr_21 _ (List.mem_of_getElem? (i := 3) rfl)
theorem q_21_4 : (Cond.instanceMethod yX5_drift) ∈ wsL_law := wr_21 _ (List.mem_of_getElem? (i := 4) rfl)
theorem q_21_5 : (Cond.selects RX5 yX5_drift yX5_drift) ∈ wsL_law := wr_21 _ (List.mem_of_getElem? (i := 5) rfl)
theorem q_21_6 : (Cond.code yX5_drift cX5_drift 2 (some .int)) ∈ wsL_law := wr_21 _ (List.mem_of_getElem? (i := 6) rfl)
theorem q_21_7 : (Cond.fieldLink RX5 121 "DriftPlans$State" "driftLimit" "I") ∈ wsL_law := wr_21 _ (List.mem_of_getElem? (i := 7) rfl)
theorem q_21_8 : (Cond.methodLink RL 43 yX6_drift) ∈ wsL_law := wr_21 _ (List.mem_of_getElem? (i := 8) rfl)
theorem q_21_9 : (Cond.instanceMethod yX6_drift) ∈ wsL_law := wr_21 _ (List.mem_of_getElem? (i := 9) rfl)
theorem q_21_10 : (Cond.selects RX6 yX6_drift yX6_drift) ∈ wsL_law := wr_21 _ (List.mem_of_getElem? (i := 10) rfl)
theorem q_21_11 : (Cond.code yX6_drift cX6_drift 2 (some .int)) ∈ wsL_law := wr_21 _ (List.mem_of_getElem? (i := 11) rfl)
theorem q_21_12 : (Cond.methodLink RL 44 yX5_append) ∈ wsL_law := wr_21 _ (List.mem_of_getElem? (i := 12) rfl)
theorem q_21_13 : (Cond.instanceMethod yX5_append) ∈ wsL_law := wr_21 _ (List.mem_of_getElem? (i := 13) rfl)
theorem q_21_14 : (Cond.selects RX5 yX5_append yX5_append) ∈ wsL_law := wr_21 _ (List.mem_of_getElem? (i := 14) rfl)
theorem q_21_15 : (Cond.code yX5_append cX5_append 2 (some .int)) ∈ wsL_law := wr_21 _ (List.mem_of_getElem? (i := 15) rfl)
theorem q_21_16 : (Cond.fieldLink RX5 128 "DriftPlans$Pad" "length" "I") ∈ wsL_law := wr_21 _ (List.mem_of_getElem? (i := 16) rfl)
theorem q_21_17 : (Cond.methodLink RX5 124 yX1_put) ∈ wsL_law := wr_21 _ (List.mem_of_getElem? (i := 17) rfl)
theorem q_21_18 : (Cond.instanceMethod yX1_put) ∈ wsL_law := wr_21 _ (List.mem_of_getElem? (i := 18) rfl)
theorem q_21_19 : (Cond.selects RX1 yX1_put yX1_put) ∈ wsL_law := wr_21 _ (List.mem_of_getElem? (i := 19) rfl)
theorem q_21_20 : (Cond.code yX1_put cX1_put 2 (some .boolean)) ∈ wsL_law := wr_21 _ (List.mem_of_getElem? (i := 20) rfl)
theorem q_21_21 : (Cond.methodLink RL 47 yX6_append) ∈ wsL_law := wr_21 _ (List.mem_of_getElem? (i := 21) rfl)
theorem q_21_22 : (Cond.instanceMethod yX6_append) ∈ wsL_law := wr_21 _ (List.mem_of_getElem? (i := 22) rfl)
theorem q_21_23 : (Cond.selects RX6 yX6_append yX6_append) ∈ wsL_law := wr_21 _ (List.mem_of_getElem? (i := 23) rfl)
theorem q_22_0 : (Cond.code yX6_append cX6_append 2 (some .int)) ∈ wsL_law := wr_22 _ (List.mem_of_getElem? (i := 0) rfl)
theorem q_22_1 : (Cond.fieldLink RX6 152 "DriftPlansModel" "typed" "I") ∈ wsL_law := wr_22 _ (List.mem_of_getElem? (i := 1) rfl)
theorem q_22_2 : (Cond.methodLink RL 48 yX5_clear) ∈ wsL_law := wr_22 _ (List.mem_of_getElem? (i := 2) rfl)
theorem q_22_3 : (Cond.instanceMethod yX5_clear) ∈ wsL_law := wr_22 _ (List.mem_of_getElem? (i := 3) rfl)
theorem q_22_4 : (Cond.selects RX5 yX5_clear yX5_clear) ∈ wsL_law := wr_22 _ (List.mem_of_getElem? (i := 4) rfl)
theorem q_22_5 : (Cond.code yX5_clear cX5_clear 2 (some .int)) ∈ wsL_law := wr_22 _ (List.mem_of_getElem? (i := 5) rfl)
theorem q_22_6 : (Cond.methodLink RL 52 yX6_clear) ∈ wsL_law := wr_22 _ (List.mem_of_getElem? (i := 6) rfl)
theorem q_22_7 : (Cond.instanceMethod yX6_clear) ∈ wsL_law := wr_22 _ (List.mem_of_getElem? (i := 7) rfl)
theorem q_22_8 : (Cond.selects RX6 yX6_clear yX6_clear) ∈ wsL_law := wr_22 _ (List.mem_of_getElem? (i := 8) rfl)
theorem q_22_9 : (Cond.code yX6_clear cX6_clear 2 (some .int)) ∈ wsL_law := wr_22 _ (List.mem_of_getElem? (i := 9) rfl)
theorem q_22_10 : (Cond.methodLink RL 53 yX5_fault) ∈ wsL_law := wr_22 _ (List.mem_of_getElem? (i := 10) rfl)
theorem q_22_11 : (Cond.instanceMethod yX5_fault) ∈ wsL_law := wr_22 _ (List.mem_of_getElem? (i := 11) rfl)
theorem q_22_12 : (Cond.selects RX5 yX5_fault yX5_fault) ∈ wsL_law := wr_22 _ (List.mem_of_getElem? (i := 12) rfl)
theorem q_22_13 : (Cond.code yX5_fault cX5_fault 2 (some .int)) ∈ wsL_law := wr_22 _ (List.mem_of_getElem? (i := 13) rfl)
theorem q_22_14 : (Cond.classLink RX5 131 RX2) ∈ wsL_law := wr_22 _ (List.mem_of_getElem? (i := 14) rfl)
theorem q_22_15 : (Cond.instantiable RX2 7) ∈ wsL_law := wr_22 _ (List.mem_of_getElem? (i := 15) rfl)
theorem q_22_16 : (Cond.initialized RX2) ∈ wsL_law := wr_22 _ (List.mem_of_getElem? (i := 16) rfl)
theorem q_22_17 : (Cond.methodLink RX5 133 yX2_init) ∈ wsL_law := wr_22 _ (List.mem_of_getElem? (i := 17) rfl)
theorem q_22_18 : (Cond.instanceMethod yX2_init) ∈ wsL_law := wr_22 _ (List.mem_of_getElem? (i := 18) rfl)
theorem q_22_19 : (Cond.code yX2_init cX2_init 2 none) ∈ wsL_law := wr_22 _ (List.mem_of_getElem? (i := 19) rfl)
theorem q_22_20 : (Cond.methodLink RX2 3 objectInit) ∈ wsL_law := wr_22 _ (List.mem_of_getElem? (i := 20) rfl)
theorem q_22_21 : (Cond.fieldLink RX2 9 "DriftPlans$Reader" "next" "I") ∈ wsL_law := wr_22 _ (List.mem_of_getElem? (i := 21) rfl)
theorem q_22_22 : (Cond.fieldLink RX2 15 "DriftPlans$Reader" "start" "I") ∈ wsL_law := wr_22 _ (List.mem_of_getElem? (i := 22) rfl)
theorem q_22_23 : (Cond.fieldLink RX2 18 "DriftPlans$Reader" "letter" "C") ∈ wsL_law := wr_22 _ (List.mem_of_getElem? (i := 23) rfl)
theorem q_23_0 : (Cond.fieldLink RX2 22 "DriftPlans$Reader" "tables" "I") ∈ wsL_law := wr_23 _ (List.mem_of_getElem? (i := 0) rfl)
theorem q_23_1 : (Cond.fieldLink RX2 25 "DriftPlans$Reader" "table" "I") ∈ wsL_law := wr_23 _ (List.mem_of_getElem? (i := 1) rfl)
theorem q_23_2 : (Cond.fieldLink RX2 28 "DriftPlans$Reader" "number" "I") ∈ wsL_law := wr_23 _ (List.mem_of_getElem? (i := 2) rfl)
theorem q_23_3 : (Cond.fieldLink RX2 31 "DriftPlans$Reader" "pad" "LDriftPlans$Pad;") ∈ wsL_law := wr_23 _ (List.mem_of_getElem? (i := 3) rfl)
theorem q_23_4 : (Cond.methodLink RX5 136 yX2_findFault) ∈ wsL_law := wr_23 _ (List.mem_of_getElem? (i := 4) rfl)
theorem q_23_5 : (Cond.instanceMethod yX2_findFault) ∈ wsL_law := wr_23 _ (List.mem_of_getElem? (i := 5) rfl)
theorem q_23_6 : (Cond.selects RX2 yX2_findFault yX2_findFault) ∈ wsL_law := wr_23 _ (List.mem_of_getElem? (i := 6) rfl)
theorem q_23_7 : (Cond.code yX2_findFault cX2_findFault 2 (some .int)) ∈ wsL_law := wr_23 _ (List.mem_of_getElem? (i := 7) rfl)
theorem q_23_8 : (Cond.fieldLink RX2 39 "DriftPlans$Pad" "length" "I") ∈ wsL_law := wr_23 _ (List.mem_of_getElem? (i := 8) rfl)
theorem q_23_9 : (Cond.methodLink RX2 35 yX2_readDeed) ∈ wsL_law := wr_23 _ (List.mem_of_getElem? (i := 9) rfl)
theorem q_23_10 : (Cond.instanceMethod yX2_readDeed) ∈ wsL_law := wr_23 _ (List.mem_of_getElem? (i := 10) rfl)
theorem q_23_11 : (Cond.selects RX2 yX2_readDeed yX2_readDeed) ∈ wsL_law := wr_23 _ (List.mem_of_getElem? (i := 11) rfl)
theorem q_23_12 : (Cond.code yX2_readDeed cX2_readDeed 1 (some .boolean)) ∈ wsL_law := wr_23 _ (List.mem_of_getElem? (i := 12) rfl)
theorem q_23_13 : (Cond.methodLink RX2 48 yX1_signAt) ∈ wsL_law := wr_23 _ (List.mem_of_getElem? (i := 13) rfl)
theorem q_23_14 : (Cond.instanceMethod yX1_signAt) ∈ wsL_law := wr_23 _ (List.mem_of_getElem? (i := 14) rfl)
theorem q_23_15 : (Cond.selects RX1 yX1_signAt yX1_signAt) ∈ wsL_law := wr_23 _ (List.mem_of_getElem? (i := 15) rfl)
theorem q_23_16 : (Cond.code yX1_signAt cX1_signAt 2 (some .char)) ∈ wsL_law := wr_23 _ (List.mem_of_getElem? (i := 16) rfl)
theorem q_23_17 : (Cond.methodLink RX2 52 yX2_readTables) ∈ wsL_law := wr_23 _ (List.mem_of_getElem? (i := 17) rfl)
theorem q_23_18 : (Cond.instanceMethod yX2_readTables) ∈ wsL_law := wr_23 _ (List.mem_of_getElem? (i := 18) rfl)
theorem q_23_19 : (Cond.selects RX2 yX2_readTables yX2_readTables) ∈ wsL_law := wr_23 _ (List.mem_of_getElem? (i := 19) rfl)
theorem q_23_20 : (Cond.code yX2_readTables cX2_readTables 3 (some .boolean)) ∈ wsL_law := wr_23 _ (List.mem_of_getElem? (i := 20) rfl)
theorem q_23_21 : (Cond.methodLink RX2 61 yX2_digit) ∈ wsL_law := wr_23 _ (List.mem_of_getElem? (i := 21) rfl)
theorem q_23_22 : (Cond.instanceMethod yX2_digit) ∈ wsL_law := wr_23 _ (List.mem_of_getElem? (i := 22) rfl)
theorem q_23_23 : (Cond.selects RX2 yX2_digit yX2_digit) ∈ wsL_law := wr_23 _ (List.mem_of_getElem? (i := 23) rfl)
theorem q_24_0 : (Cond.code yX2_digit cX2_digit 1 (some .int)) ∈ wsL_law := wr_24 _ (List.mem_of_getElem? (i := 0) rfl)
theorem q_24_1 : (Cond.methodLink RX2 55 yX2_readTable) ∈ wsL_law := wr_24 _ (List.mem_of_getElem? (i := 1) rfl)
theorem q_24_2 : (Cond.instanceMethod yX2_readTable) ∈ wsL_law := wr_24 _ (List.mem_of_getElem? (i := 2) rfl)
theorem q_24_3 : (Cond.selects RX2 yX2_readTable yX2_readTable) ∈ wsL_law := wr_24 _ (List.mem_of_getElem? (i := 3) rfl)
theorem q_24_4 : (Cond.code yX2_readTable cX2_readTable 1 (some .boolean)) ∈ wsL_law := wr_24 _ (List.mem_of_getElem? (i := 4) rfl)
theorem q_24_5 : (Cond.methodLink RX2 44 yX2_readSign) ∈ wsL_law := wr_24 _ (List.mem_of_getElem? (i := 5) rfl)
theorem q_24_6 : (Cond.instanceMethod yX2_readSign) ∈ wsL_law := wr_24 _ (List.mem_of_getElem? (i := 6) rfl)
theorem q_24_7 : (Cond.selects RX2 yX2_readSign yX2_readSign) ∈ wsL_law := wr_24 _ (List.mem_of_getElem? (i := 7) rfl)
theorem q_24_8 : (Cond.code yX2_readSign cX2_readSign 2 (some .boolean)) ∈ wsL_law := wr_24 _ (List.mem_of_getElem? (i := 8) rfl)
theorem q_24_9 : (Cond.methodLink RX2 58 yX2_readNumber) ∈ wsL_law := wr_24 _ (List.mem_of_getElem? (i := 9) rfl)
theorem q_24_10 : (Cond.instanceMethod yX2_readNumber) ∈ wsL_law := wr_24 _ (List.mem_of_getElem? (i := 10) rfl)
theorem q_24_11 : (Cond.selects RX2 yX2_readNumber yX2_readNumber) ∈ wsL_law := wr_24 _ (List.mem_of_getElem? (i := 11) rfl)
theorem q_24_12 : (Cond.code yX2_readNumber cX2_readNumber 3 (some .boolean)) ∈ wsL_law := wr_24 _ (List.mem_of_getElem? (i := 12) rfl)
theorem q_24_13 : (Cond.methodLink RL 56 yX6_fault) ∈ wsL_law := wr_24 _ (List.mem_of_getElem? (i := 13) rfl)
theorem q_24_14 : (Cond.instanceMethod yX6_fault) ∈ wsL_law := wr_24 _ (List.mem_of_getElem? (i := 14) rfl)
theorem q_24_15 : (Cond.selects RX6 yX6_fault yX6_fault) ∈ wsL_law := wr_24 _ (List.mem_of_getElem? (i := 15) rfl)
theorem q_24_16 : (Cond.code yX6_fault cX6_fault 2 (some .int)) ∈ wsL_law := wr_24 _ (List.mem_of_getElem? (i := 16) rfl)
theorem q_24_17 : (Cond.fieldLink RX6 155 "DriftPlansModel" "spot" "I") ∈ wsL_law := wr_24 _ (List.mem_of_getElem? (i := 17) rfl)
theorem q_24_18 : (Cond.fieldLink RX6 161 "DriftPlansModel" "deeds" "I") ∈ wsL_law := wr_24 _ (List.mem_of_getElem? (i := 18) rfl)
theorem q_24_19 : (Cond.methodLink RX6 176 yX6_reads) ∈ wsL_law := wr_24 _ (List.mem_of_getElem? (i := 19) rfl)
theorem q_24_20 : (Cond.instanceMethod yX6_reads) ∈ wsL_law := wr_24 _ (List.mem_of_getElem? (i := 20) rfl)
theorem q_24_21 : (Cond.selects RX6 yX6_reads yX6_reads) ∈ wsL_law := wr_24 _ (List.mem_of_getElem? (i := 21) rfl)
theorem q_24_22 : (Cond.code yX6_reads cX6_reads 2 (some .boolean)) ∈ wsL_law := wr_24 _ (List.mem_of_getElem? (i := 22) rfl)
theorem q_24_23 : (Cond.methodLink RX6 164 yX6_digits) ∈ wsL_law := wr_24 _ (List.mem_of_getElem? (i := 23) rfl)
theorem q_25_0 : (Cond.instanceMethod yX6_digits) ∈ wsL_law := wr_25 _ (List.mem_of_getElem? (i := 0) rfl)
theorem q_25_1 : (Cond.selects RX6 yX6_digits yX6_digits) ∈ wsL_law := wr_25 _ (List.mem_of_getElem? (i := 1) rfl)
theorem q_25_2 : (Cond.code yX6_digits cX6_digits 3 (some .boolean)) ∈ wsL_law := wr_25 _ (List.mem_of_getElem? (i := 2) rfl)
theorem q_25_3 : (Cond.methodLink RX6 158 yX6_isAt) ∈ wsL_law := wr_25 _ (List.mem_of_getElem? (i := 3) rfl)
theorem q_25_4 : (Cond.instanceMethod yX6_isAt) ∈ wsL_law := wr_25 _ (List.mem_of_getElem? (i := 4) rfl)
theorem q_25_5 : (Cond.selects RX6 yX6_isAt yX6_isAt) ∈ wsL_law := wr_25 _ (List.mem_of_getElem? (i := 5) rfl)
theorem q_25_6 : (Cond.code yX6_isAt cX6_isAt 3 (some .boolean)) ∈ wsL_law := wr_25 _ (List.mem_of_getElem? (i := 6) rfl)
theorem q_25_7 : (Cond.methodLink RX6 167 yX6_oneTable) ∈ wsL_law := wr_25 _ (List.mem_of_getElem? (i := 7) rfl)
theorem q_25_8 : (Cond.instanceMethod yX6_oneTable) ∈ wsL_law := wr_25 _ (List.mem_of_getElem? (i := 8) rfl)
theorem q_25_9 : (Cond.selects RX6 yX6_oneTable yX6_oneTable) ∈ wsL_law := wr_25 _ (List.mem_of_getElem? (i := 9) rfl)
theorem q_25_10 : (Cond.code yX6_oneTable cX6_oneTable 2 (some .boolean)) ∈ wsL_law := wr_25 _ (List.mem_of_getElem? (i := 10) rfl)
theorem q_25_11 : (Cond.methodLink RX6 170 yX6_sign) ∈ wsL_law := wr_25 _ (List.mem_of_getElem? (i := 11) rfl)
theorem q_25_12 : (Cond.instanceMethod yX6_sign) ∈ wsL_law := wr_25 _ (List.mem_of_getElem? (i := 12) rfl)
theorem q_25_13 : (Cond.selects RX6 yX6_sign yX6_sign) ∈ wsL_law := wr_25 _ (List.mem_of_getElem? (i := 13) rfl)
theorem q_25_14 : (Cond.code yX6_sign cX6_sign 3 (some .boolean)) ∈ wsL_law := wr_25 _ (List.mem_of_getElem? (i := 14) rfl)
theorem q_25_15 : (Cond.methodLink RX6 173 yX6_number) ∈ wsL_law := wr_25 _ (List.mem_of_getElem? (i := 15) rfl)
theorem q_25_16 : (Cond.instanceMethod yX6_number) ∈ wsL_law := wr_25 _ (List.mem_of_getElem? (i := 16) rfl)
theorem q_25_17 : (Cond.selects RX6 yX6_number yX6_number) ∈ wsL_law := wr_25 _ (List.mem_of_getElem? (i := 17) rfl)
theorem q_25_18 : (Cond.code yX6_number cX6_number 2 (some .boolean)) ∈ wsL_law := wr_25 _ (List.mem_of_getElem? (i := 18) rfl)
theorem q_25_19 : (Cond.methodLink RL 57 yX5_carryOut) ∈ wsL_law := wr_25 _ (List.mem_of_getElem? (i := 19) rfl)
theorem q_25_20 : (Cond.instanceMethod yX5_carryOut) ∈ wsL_law := wr_25 _ (List.mem_of_getElem? (i := 20) rfl)
theorem q_25_21 : (Cond.selects RX5 yX5_carryOut yX5_carryOut) ∈ wsL_law := wr_25 _ (List.mem_of_getElem? (i := 21) rfl)
theorem q_25_22 : (Cond.code yX5_carryOut cX5_carryOut 3 (some .int)) ∈ wsL_law := wr_25 _ (List.mem_of_getElem? (i := 22) rfl)
theorem q_25_23 : (Cond.fieldLink RX5 150 "DriftPlans$Reader" "start" "I") ∈ wsL_law := wr_25 _ (List.mem_of_getElem? (i := 23) rfl)
theorem q_26_0 : (Cond.methodLink RX5 139 yX2_readDeed) ∈ wsL_law := wr_26 _ (List.mem_of_getElem? (i := 0) rfl)
theorem q_26_1 : (Cond.methodLink RX5 143 yX5_carryOutDeed) ∈ wsL_law := wr_26 _ (List.mem_of_getElem? (i := 1) rfl)
theorem q_26_2 : (Cond.instanceMethod yX5_carryOutDeed) ∈ wsL_law := wr_26 _ (List.mem_of_getElem? (i := 2) rfl)
theorem q_26_3 : (Cond.selects RX5 yX5_carryOutDeed yX5_carryOutDeed) ∈ wsL_law := wr_26 _ (List.mem_of_getElem? (i := 3) rfl)
theorem q_26_4 : (Cond.code yX5_carryOutDeed cX5_carryOutDeed 3 (some .boolean)) ∈ wsL_law := wr_26 _ (List.mem_of_getElem? (i := 4) rfl)
theorem q_26_5 : (Cond.fieldLink RX5 266 "DriftPlans$Reader" "letter" "C") ∈ wsL_law := wr_26 _ (List.mem_of_getElem? (i := 5) rfl)
theorem q_26_6 : (Cond.fieldLink RX5 270 "DriftPlans$Reader" "tables" "I") ∈ wsL_law := wr_26 _ (List.mem_of_getElem? (i := 6) rfl)
theorem q_26_7 : (Cond.fieldLink RX5 273 "DriftPlans$Reader" "table" "I") ∈ wsL_law := wr_26 _ (List.mem_of_getElem? (i := 7) rfl)
theorem q_26_8 : (Cond.fieldLink RX5 276 "DriftPlans$Reader" "number" "I") ∈ wsL_law := wr_26 _ (List.mem_of_getElem? (i := 8) rfl)
theorem q_26_9 : (Cond.methodLink RX5 147 yX2_readSign) ∈ wsL_law := wr_26 _ (List.mem_of_getElem? (i := 9) rfl)
theorem q_26_10 : (Cond.methodLink RL 60 yX6_carryOut) ∈ wsL_law := wr_26 _ (List.mem_of_getElem? (i := 10) rfl)
theorem q_26_11 : (Cond.instanceMethod yX6_carryOut) ∈ wsL_law := wr_26 _ (List.mem_of_getElem? (i := 11) rfl)
theorem q_26_12 : (Cond.selects RX6 yX6_carryOut yX6_carryOut) ∈ wsL_law := wr_26 _ (List.mem_of_getElem? (i := 12) rfl)
theorem q_26_13 : (Cond.code yX6_carryOut cX6_carryOut 2 (some .int)) ∈ wsL_law := wr_26 _ (List.mem_of_getElem? (i := 13) rfl)
theorem q_26_14 : (Cond.fieldLink RX6 195 "DriftPlansModel" "isStopped" "Z") ∈ wsL_law := wr_26 _ (List.mem_of_getElem? (i := 14) rfl)
theorem q_26_15 : (Cond.methodLink RX6 192 yX6_fault) ∈ wsL_law := wr_26 _ (List.mem_of_getElem? (i := 15) rfl)
theorem q_26_16 : (Cond.methodLink RX6 198 yX6_does) ∈ wsL_law := wr_26 _ (List.mem_of_getElem? (i := 16) rfl)
theorem q_26_17 : (Cond.instanceMethod yX6_does) ∈ wsL_law := wr_26 _ (List.mem_of_getElem? (i := 17) rfl)
theorem q_26_18 : (Cond.selects RX6 yX6_does yX6_does) ∈ wsL_law := wr_26 _ (List.mem_of_getElem? (i := 18) rfl)
theorem q_26_19 : (Cond.code yX6_does cX6_does 3 (some .int)) ∈ wsL_law := wr_26 _ (List.mem_of_getElem? (i := 19) rfl)
theorem q_26_20 : (Cond.methodLink RX6 179 yX6_run) ∈ wsL_law := wr_26 _ (List.mem_of_getElem? (i := 20) rfl)
theorem q_26_21 : (Cond.methodLink RX6 182 yX6_pins) ∈ wsL_law := wr_26 _ (List.mem_of_getElem? (i := 21) rfl)
theorem q_26_22 : (Cond.instanceMethod yX6_pins) ∈ wsL_law := wr_26 _ (List.mem_of_getElem? (i := 22) rfl)
theorem q_26_23 : (Cond.selects RX6 yX6_pins yX6_pins) ∈ wsL_law := wr_26 _ (List.mem_of_getElem? (i := 23) rfl)
theorem q_27_0 : (Cond.code yX6_pins cX6_pins 3 (some .int)) ∈ wsL_law := wr_27 _ (List.mem_of_getElem? (i := 0) rfl)
theorem q_27_1 : (Cond.methodLink RX6 185 yX6_count) ∈ wsL_law := wr_27 _ (List.mem_of_getElem? (i := 1) rfl)
theorem q_27_2 : (Cond.methodLink RX6 188 yX6_rows) ∈ wsL_law := wr_27 _ (List.mem_of_getElem? (i := 2) rfl)
theorem q_27_3 : (Cond.methodLink RL 61 yX5_why) ∈ wsL_law := wr_27 _ (List.mem_of_getElem? (i := 3) rfl)
theorem q_27_4 : (Cond.instanceMethod yX5_why) ∈ wsL_law := wr_27 _ (List.mem_of_getElem? (i := 4) rfl)
theorem q_27_5 : (Cond.selects RX5 yX5_why yX5_why) ∈ wsL_law := wr_27 _ (List.mem_of_getElem? (i := 5) rfl)
theorem q_27_6 : (Cond.code yX5_why cX5_why 2 (some .int)) ∈ wsL_law := wr_27 _ (List.mem_of_getElem? (i := 6) rfl)
theorem q_27_7 : (Cond.methodLink RL 64 yX6_why) ∈ wsL_law := wr_27 _ (List.mem_of_getElem? (i := 7) rfl)
theorem q_27_8 : (Cond.instanceMethod yX6_why) ∈ wsL_law := wr_27 _ (List.mem_of_getElem? (i := 8) rfl)
theorem q_27_9 : (Cond.selects RX6 yX6_why yX6_why) ∈ wsL_law := wr_27 _ (List.mem_of_getElem? (i := 9) rfl)
theorem q_27_10 : (Cond.code yX6_why cX6_why 2 (some .int)) ∈ wsL_law := wr_27 _ (List.mem_of_getElem? (i := 10) rfl)
theorem q_27_11 : (Cond.methodLink RL 65 yX5_table) ∈ wsL_law := wr_27 _ (List.mem_of_getElem? (i := 11) rfl)
theorem q_27_12 : (Cond.instanceMethod yX5_table) ∈ wsL_law := wr_27 _ (List.mem_of_getElem? (i := 12) rfl)
theorem q_27_13 : (Cond.selects RX5 yX5_table yX5_table) ∈ wsL_law := wr_27 _ (List.mem_of_getElem? (i := 13) rfl)
theorem q_27_14 : (Cond.code yX5_table cX5_table 3 (some .int)) ∈ wsL_law := wr_27 _ (List.mem_of_getElem? (i := 14) rfl)
theorem q_27_15 : (Cond.methodLink RX5 156 yX5_driftDown) ∈ wsL_law := wr_27 _ (List.mem_of_getElem? (i := 15) rfl)
theorem q_27_16 : (Cond.static yX5_driftDown) ∈ wsL_law := wr_27 _ (List.mem_of_getElem? (i := 16) rfl)
theorem q_27_17 : (Cond.code yX5_driftDown cX5_driftDown 3 (some .int)) ∈ wsL_law := wr_27 _ (List.mem_of_getElem? (i := 17) rfl)
theorem q_27_18 : (Cond.methodLink RX5 287 Lib.Math.min.name) ∈ wsL_law := wr_27 _ (List.mem_of_getElem? (i := 18) rfl)
theorem q_27_19 : (Cond.methodLink RX5 242 Lib.Math.max.name) ∈ wsL_law := wr_27 _ (List.mem_of_getElem? (i := 19) rfl)
theorem q_27_20 : (Cond.methodLink RX5 160 yX4_keptWith) ∈ wsL_law := wr_27 _ (List.mem_of_getElem? (i := 20) rfl)
theorem q_27_21 : (Cond.instanceMethod yX4_keptWith) ∈ wsL_law := wr_27 _ (List.mem_of_getElem? (i := 21) rfl)
theorem q_27_22 : (Cond.selects RX4 yX4_keptWith yX4_keptWith) ∈ wsL_law := wr_27 _ (List.mem_of_getElem? (i := 22) rfl)
theorem q_27_23 : (Cond.code yX4_keptWith cX4_keptWith 4 (some .int)) ∈ wsL_law := wr_27 _ (List.mem_of_getElem? (i := 23) rfl)
theorem q_28_0 : (Cond.methodLink RL 68 yX6_table) ∈ wsL_law := wr_28 _ (List.mem_of_getElem? (i := 0) rfl)
theorem q_28_1 : (Cond.instanceMethod yX6_table) ∈ wsL_law := wr_28 _ (List.mem_of_getElem? (i := 1) rfl)
theorem q_28_2 : (Cond.selects RX6 yX6_table yX6_table) ∈ wsL_law := wr_28 _ (List.mem_of_getElem? (i := 2) rfl)
theorem q_28_3 : (Cond.code yX6_table cX6_table 5 (some .int)) ∈ wsL_law := wr_28 _ (List.mem_of_getElem? (i := 3) rfl)
theorem q_28_4 : (Cond.methodLink RX6 201 yX6_plansWith) ∈ wsL_law := wr_28 _ (List.mem_of_getElem? (i := 4) rfl)
theorem q_28_5 : (Cond.instanceMethod yX6_plansWith) ∈ wsL_law := wr_28 _ (List.mem_of_getElem? (i := 5) rfl)
theorem q_28_6 : (Cond.selects RX6 yX6_plansWith yX6_plansWith) ∈ wsL_law := wr_28 _ (List.mem_of_getElem? (i := 6) rfl)
theorem q_28_7 : (Cond.code yX6_plansWith cX6_plansWith 4 (some .int)) ∈ wsL_law := wr_28 _ (List.mem_of_getElem? (i := 7) rfl)
theorem q_28_8 : (Cond.methodLink RL 69 yX5_partOf) ∈ wsL_law := wr_28 _ (List.mem_of_getElem? (i := 8) rfl)
theorem q_28_9 : (Cond.instanceMethod yX5_partOf) ∈ wsL_law := wr_28 _ (List.mem_of_getElem? (i := 9) rfl)
theorem q_28_10 : (Cond.selects RX5 yX5_partOf yX5_partOf) ∈ wsL_law := wr_28 _ (List.mem_of_getElem? (i := 10) rfl)
theorem q_28_11 : (Cond.code yX5_partOf cX5_partOf 3 (some .int)) ∈ wsL_law := wr_28 _ (List.mem_of_getElem? (i := 11) rfl)
theorem q_28_12 : (Cond.methodLink RL 72 yX6_partOf) ∈ wsL_law := wr_28 _ (List.mem_of_getElem? (i := 12) rfl)
theorem q_28_13 : (Cond.instanceMethod yX6_partOf) ∈ wsL_law := wr_28 _ (List.mem_of_getElem? (i := 13) rfl)
theorem q_28_14 : (Cond.selects RX6 yX6_partOf yX6_partOf) ∈ wsL_law := wr_28 _ (List.mem_of_getElem? (i := 14) rfl)
theorem q_28_15 : (Cond.code yX6_partOf cX6_partOf 3 (some .int)) ∈ wsL_law := wr_28 _ (List.mem_of_getElem? (i := 15) rfl)
theorem q_28_16 : (Cond.methodLink RL 73 yX5_size) ∈ wsL_law := wr_28 _ (List.mem_of_getElem? (i := 16) rfl)
theorem q_28_17 : (Cond.instanceMethod yX5_size) ∈ wsL_law := wr_28 _ (List.mem_of_getElem? (i := 17) rfl)
theorem q_28_18 : (Cond.selects RX5 yX5_size yX5_size) ∈ wsL_law := wr_28 _ (List.mem_of_getElem? (i := 18) rfl)
theorem q_28_19 : (Cond.code yX5_size cX5_size 3 (some .int)) ∈ wsL_law := wr_28 _ (List.mem_of_getElem? (i := 19) rfl)
theorem q_28_20 : (Cond.methodLink RX5 167 yX3_sizeOf) ∈ wsL_law := wr_28 _ (List.mem_of_getElem? (i := 20) rfl)
theorem q_28_21 : (Cond.methodLink RL 77 yX6_size) ∈ wsL_law := wr_28 _ (List.mem_of_getElem? (i := 21) rfl)
theorem q_28_22 : (Cond.instanceMethod yX6_size) ∈ wsL_law := wr_28 _ (List.mem_of_getElem? (i := 22) rfl)
theorem q_28_23 : (Cond.selects RX6 yX6_size yX6_size) ∈ wsL_law := wr_28 _ (List.mem_of_getElem? (i := 23) rfl)
theorem q_29_0 : (Cond.code yX6_size cX6_size 3 (some .int)) ∈ wsL_law := wr_29 _ (List.mem_of_getElem? (i := 0) rfl)
theorem q_29_1 : (Cond.methodLink RX6 204 yX6_base) ∈ wsL_law := wr_29 _ (List.mem_of_getElem? (i := 1) rfl)
theorem q_29_2 : (Cond.static yX6_base) ∈ wsL_law := wr_29 _ (List.mem_of_getElem? (i := 2) rfl)
theorem q_29_3 : (Cond.code yX6_base cX6_base 1 (some .int)) ∈ wsL_law := wr_29 _ (List.mem_of_getElem? (i := 3) rfl)
theorem q_29_4 : (Cond.methodLink RL 78 yX5_least) ∈ wsL_law := wr_29 _ (List.mem_of_getElem? (i := 4) rfl)
theorem q_29_5 : (Cond.instanceMethod yX5_least) ∈ wsL_law := wr_29 _ (List.mem_of_getElem? (i := 5) rfl)
theorem q_29_6 : (Cond.selects RX5 yX5_least yX5_least) ∈ wsL_law := wr_29 _ (List.mem_of_getElem? (i := 6) rfl)
theorem q_29_7 : (Cond.code yX5_least cX5_least 5 (some .int)) ∈ wsL_law := wr_29 _ (List.mem_of_getElem? (i := 7) rfl)
theorem q_29_8 : (Cond.methodLink RX5 170 yX3_leastByOrders) ∈ wsL_law := wr_29 _ (List.mem_of_getElem? (i := 8) rfl)
theorem q_29_9 : (Cond.instanceMethod yX3_leastByOrders) ∈ wsL_law := wr_29 _ (List.mem_of_getElem? (i := 9) rfl)
theorem q_29_10 : (Cond.selects RX3 yX3_leastByOrders yX3_leastByOrders) ∈ wsL_law := wr_29 _ (List.mem_of_getElem? (i := 10) rfl)
theorem q_29_11 : (Cond.code yX3_leastByOrders cX3_leastByOrders 2 (some .long)) ∈ wsL_law := wr_29 _ (List.mem_of_getElem? (i := 11) rfl)
theorem q_29_12 : (Cond.methodLink RX3 54 yX3_leastOnward) ∈ wsL_law := wr_29 _ (List.mem_of_getElem? (i := 12) rfl)
theorem q_29_13 : (Cond.static yX3_leastOnward) ∈ wsL_law := wr_29 _ (List.mem_of_getElem? (i := 13) rfl)
theorem q_29_14 : (Cond.code yX3_leastOnward cX3_leastOnward 10 (some .long)) ∈ wsL_law := wr_29 _ (List.mem_of_getElem? (i := 14) rfl)
theorem q_29_15 : (Cond.methodLink RX3 62 Lib.MathLoose.min_long.x) ∈ wsL_law := wr_29 _ (List.mem_of_getElem? (i := 15) rfl)
theorem q_29_16 : (Cond.methodLink RX5 173 yX3_leastBySets) ∈ wsL_law := wr_29 _ (List.mem_of_getElem? (i := 16) rfl)
theorem q_29_17 : (Cond.instanceMethod yX3_leastBySets) ∈ wsL_law := wr_29 _ (List.mem_of_getElem? (i := 17) rfl)
theorem q_29_18 : (Cond.selects RX3 yX3_leastBySets yX3_leastBySets) ∈ wsL_law := wr_29 _ (List.mem_of_getElem? (i := 18) rfl)
theorem q_29_19 : (Cond.code yX3_leastBySets cX3_leastBySets 2 (some .long)) ∈ wsL_law := wr_29 _ (List.mem_of_getElem? (i := 19) rfl)
theorem q_29_20 : (Cond.methodLink RL 82 yX6_least) ∈ wsL_law := wr_29 _ (List.mem_of_getElem? (i := 20) rfl)
theorem q_29_21 : (Cond.instanceMethod yX6_least) ∈ wsL_law := wr_29 _ (List.mem_of_getElem? (i := 21) rfl)
theorem q_29_22 : (Cond.selects RX6 yX6_least yX6_least) ∈ wsL_law := wr_29 _ (List.mem_of_getElem? (i := 22) rfl)
theorem q_29_23 : (Cond.code yX6_least cX6_least 4 (some .int)) ∈ wsL_law := wr_29 _ (List.mem_of_getElem? (i := 23) rfl)
theorem q_30_0 : (Cond.methodLink RX6 208 yX6_findsBySets) ∈ wsL_law := wr_30 _ (List.mem_of_getElem? (i := 0) rfl)
theorem q_30_1 : (Cond.instanceMethod yX6_findsBySets) ∈ wsL_law := wr_30 _ (List.mem_of_getElem? (i := 1) rfl)
theorem q_30_2 : (Cond.selects RX6 yX6_findsBySets yX6_findsBySets) ∈ wsL_law := wr_30 _ (List.mem_of_getElem? (i := 2) rfl)
theorem q_30_3 : (Cond.code yX6_findsBySets cX6_findsBySets 9 (some .long)) ∈ wsL_law := wr_30 _ (List.mem_of_getElem? (i := 3) rfl)
theorem q_30_4 : (Cond.methodLink RL 83 yX5_best) ∈ wsL_law := wr_30 _ (List.mem_of_getElem? (i := 4) rfl)
theorem q_30_5 : (Cond.instanceMethod yX5_best) ∈ wsL_law := wr_30 _ (List.mem_of_getElem? (i := 5) rfl)
theorem q_30_6 : (Cond.selects RX5 yX5_best yX5_best) ∈ wsL_law := wr_30 _ (List.mem_of_getElem? (i := 6) rfl)
theorem q_30_7 : (Cond.code yX5_best cX5_best 5 (some .int)) ∈ wsL_law := wr_30 _ (List.mem_of_getElem? (i := 7) rfl)
theorem q_30_8 : (Cond.methodLink RX5 184 yX5_tableAt) ∈ wsL_law := wr_30 _ (List.mem_of_getElem? (i := 8) rfl)
theorem q_30_9 : (Cond.methodLink RL 86 yX6_best) ∈ wsL_law := wr_30 _ (List.mem_of_getElem? (i := 9) rfl)
theorem q_30_10 : (Cond.instanceMethod yX6_best) ∈ wsL_law := wr_30 _ (List.mem_of_getElem? (i := 10) rfl)
theorem q_30_11 : (Cond.selects RX6 yX6_best yX6_best) ∈ wsL_law := wr_30 _ (List.mem_of_getElem? (i := 11) rfl)
theorem q_30_12 : (Cond.code yX6_best cX6_best 4 (some .int)) ∈ wsL_law := wr_30 _ (List.mem_of_getElem? (i := 12) rfl)
theorem q_30_13 : (Cond.methodLink RL 87 yX5_plan) ∈ wsL_law := wr_30 _ (List.mem_of_getElem? (i := 13) rfl)
theorem q_30_14 : (Cond.instanceMethod yX5_plan) ∈ wsL_law := wr_30 _ (List.mem_of_getElem? (i := 14) rfl)
theorem q_30_15 : (Cond.selects RX5 yX5_plan yX5_plan) ∈ wsL_law := wr_30 _ (List.mem_of_getElem? (i := 15) rfl)
theorem q_30_16 : (Cond.code yX5_plan cX5_plan 6 (some .int)) ∈ wsL_law := wr_30 _ (List.mem_of_getElem? (i := 16) rfl)
theorem q_30_17 : (Cond.methodLink RX5 195 yX3_excessOf) ∈ wsL_law := wr_30 _ (List.mem_of_getElem? (i := 17) rfl)
theorem q_30_18 : (Cond.instanceMethod yX3_excessOf) ∈ wsL_law := wr_30 _ (List.mem_of_getElem? (i := 18) rfl)
theorem q_30_19 : (Cond.selects RX3 yX3_excessOf yX3_excessOf) ∈ wsL_law := wr_30 _ (List.mem_of_getElem? (i := 19) rfl)
theorem q_30_20 : (Cond.code yX3_excessOf cX3_excessOf 3 (some .long)) ∈ wsL_law := wr_30 _ (List.mem_of_getElem? (i := 20) rfl)
theorem q_30_21 : (Cond.methodLink RX3 74 yX3_costOf) ∈ wsL_law := wr_30 _ (List.mem_of_getElem? (i := 21) rfl)
theorem q_30_22 : (Cond.methodLink RX3 78 yX3_leastBySets) ∈ wsL_law := wr_30 _ (List.mem_of_getElem? (i := 22) rfl)
theorem q_30_23 : (Cond.methodLink RX5 198 yX4_driftsOnceCounted) ∈ wsL_law := wr_30 _ (List.mem_of_getElem? (i := 23) rfl)
theorem q_31_0 : (Cond.methodLink RL 90 yX6_plan) ∈ wsL_law := wr_31 _ (List.mem_of_getElem? (i := 0) rfl)
theorem q_31_1 : (Cond.instanceMethod yX6_plan) ∈ wsL_law := wr_31 _ (List.mem_of_getElem? (i := 1) rfl)
theorem q_31_2 : (Cond.selects RX6 yX6_plan yX6_plan) ∈ wsL_law := wr_31 _ (List.mem_of_getElem? (i := 2) rfl)
theorem q_31_3 : (Cond.code yX6_plan cX6_plan 4 (some .int)) ∈ wsL_law := wr_31 _ (List.mem_of_getElem? (i := 3) rfl)
theorem q_31_4 : (Cond.methodLink RX6 211 yX6_over) ∈ wsL_law := wr_31 _ (List.mem_of_getElem? (i := 4) rfl)
theorem q_31_5 : (Cond.instanceMethod yX6_over) ∈ wsL_law := wr_31 _ (List.mem_of_getElem? (i := 5) rfl)
theorem q_31_6 : (Cond.selects RX6 yX6_over yX6_over) ∈ wsL_law := wr_31 _ (List.mem_of_getElem? (i := 6) rfl)
theorem q_31_7 : (Cond.code yX6_over cX6_over 4 (some .long)) ∈ wsL_law := wr_31 _ (List.mem_of_getElem? (i := 7) rfl)
theorem q_31_8 : (Cond.methodLink RX6 214 yX6_orderOf) ∈ wsL_law := wr_31 _ (List.mem_of_getElem? (i := 8) rfl)
theorem q_31_9 : (Cond.instanceMethod yX6_orderOf) ∈ wsL_law := wr_31 _ (List.mem_of_getElem? (i := 9) rfl)
theorem q_31_10 : (Cond.selects RX6 yX6_orderOf yX6_orderOf) ∈ wsL_law := wr_31 _ (List.mem_of_getElem? (i := 10) rfl)
theorem q_31_11 : (Cond.code yX6_orderOf cX6_orderOf 4 (some .int)) ∈ wsL_law := wr_31 _ (List.mem_of_getElem? (i := 11) rfl)
theorem q_31_12 : (Cond.methodLink RL 91 yX5_counted) ∈ wsL_law := wr_31 _ (List.mem_of_getElem? (i := 12) rfl)
theorem q_31_13 : (Cond.instanceMethod yX5_counted) ∈ wsL_law := wr_31 _ (List.mem_of_getElem? (i := 13) rfl)
theorem q_31_14 : (Cond.selects RX5 yX5_counted yX5_counted) ∈ wsL_law := wr_31 _ (List.mem_of_getElem? (i := 14) rfl)
theorem q_31_15 : (Cond.code yX5_counted cX5_counted 2 (some .int)) ∈ wsL_law := wr_31 _ (List.mem_of_getElem? (i := 15) rfl)
theorem q_31_16 : (Cond.fieldLink RX5 208 "DriftPlans$State" "hits" "J") ∈ wsL_law := wr_31 _ (List.mem_of_getElem? (i := 16) rfl)
theorem q_31_17 : (Cond.fieldLink RX5 211 "DriftPlans$State" "misses" "J") ∈ wsL_law := wr_31 _ (List.mem_of_getElem? (i := 17) rfl)
theorem q_31_18 : (Cond.fieldLink RX5 217 "DriftPlans$State" "makingCosts" "J") ∈ wsL_law := wr_31 _ (List.mem_of_getElem? (i := 18) rfl)
theorem q_31_19 : (Cond.fieldLink RX5 220 "DriftPlans$State" "driftedOut" "J") ∈ wsL_law := wr_31 _ (List.mem_of_getElem? (i := 19) rfl)
theorem q_31_20 : (Cond.fieldLink RX5 223 "DriftPlans$State" "pushedOut" "J") ∈ wsL_law := wr_31 _ (List.mem_of_getElem? (i := 20) rfl)
theorem q_31_21 : (Cond.fieldLink RX5 226 "DriftPlans$State" "joinedOut" "J") ∈ wsL_law := wr_31 _ (List.mem_of_getElem? (i := 21) rfl)
theorem q_31_22 : (Cond.fieldLink RX5 229 "DriftPlans$State" "usedOnly" "J") ∈ wsL_law := wr_31 _ (List.mem_of_getElem? (i := 22) rfl)
theorem q_31_23 : (Cond.methodLink RX5 205 yX4_countPinned) ∈ wsL_law := wr_31 _ (List.mem_of_getElem? (i := 23) rfl)
theorem q_32_0 : (Cond.instanceMethod yX4_countPinned) ∈ wsL_law := wr_32 _ (List.mem_of_getElem? (i := 0) rfl)
theorem q_32_1 : (Cond.selects RX4 yX4_countPinned yX4_countPinned) ∈ wsL_law := wr_32 _ (List.mem_of_getElem? (i := 1) rfl)
theorem q_32_2 : (Cond.code yX4_countPinned cX4_countPinned 3 (some .int)) ∈ wsL_law := wr_32 _ (List.mem_of_getElem? (i := 2) rfl)
theorem q_32_3 : (Cond.methodLink RL 94 yX6_counted) ∈ wsL_law := wr_32 _ (List.mem_of_getElem? (i := 3) rfl)
theorem q_32_4 : (Cond.instanceMethod yX6_counted) ∈ wsL_law := wr_32 _ (List.mem_of_getElem? (i := 4) rfl)
theorem q_32_5 : (Cond.selects RX6 yX6_counted yX6_counted) ∈ wsL_law := wr_32 _ (List.mem_of_getElem? (i := 5) rfl)
theorem q_32_6 : (Cond.code yX6_counted cX6_counted 2 (some .int)) ∈ wsL_law := wr_32 _ (List.mem_of_getElem? (i := 6) rfl)
theorem q_32_7 : (Cond.methodLink RX6 217 yX6_plans) ∈ wsL_law := wr_32 _ (List.mem_of_getElem? (i := 7) rfl)
theorem q_32_8 : (Cond.instanceMethod yX6_plans) ∈ wsL_law := wr_32 _ (List.mem_of_getElem? (i := 8) rfl)
theorem q_32_9 : (Cond.selects RX6 yX6_plans yX6_plans) ∈ wsL_law := wr_32 _ (List.mem_of_getElem? (i := 9) rfl)
theorem q_32_10 : (Cond.code yX6_plans cX6_plans 3 (some .int)) ∈ wsL_law := wr_32 _ (List.mem_of_getElem? (i := 10) rfl)
theorem q_32_11 : (Cond.methodLink RX6 220 yX6_pinned) ∈ wsL_law := wr_32 _ (List.mem_of_getElem? (i := 11) rfl)
theorem q_32_12 : (Cond.instanceMethod yX6_pinned) ∈ wsL_law := wr_32 _ (List.mem_of_getElem? (i := 12) rfl)
theorem q_32_13 : (Cond.selects RX6 yX6_pinned yX6_pinned) ∈ wsL_law := wr_32 _ (List.mem_of_getElem? (i := 13) rfl)
theorem q_32_14 : (Cond.code yX6_pinned cX6_pinned 3 (some .int)) ∈ wsL_law := wr_32 _ (List.mem_of_getElem? (i := 14) rfl)
theorem q_32_15 : (Cond.methodLink RL 95 yX5_fitness) ∈ wsL_law := wr_32 _ (List.mem_of_getElem? (i := 15) rfl)
theorem q_32_16 : (Cond.instanceMethod yX5_fitness) ∈ wsL_law := wr_32 _ (List.mem_of_getElem? (i := 16) rfl)
theorem q_32_17 : (Cond.selects RX5 yX5_fitness yX5_fitness) ∈ wsL_law := wr_32 _ (List.mem_of_getElem? (i := 17) rfl)
theorem q_32_18 : (Cond.code yX5_fitness cX5_fitness 8 (some .double)) ∈ wsL_law := wr_32 _ (List.mem_of_getElem? (i := 18) rfl)
theorem q_32_19 : (Cond.fieldLink RX5 232 "DriftPlans$Kept" "shape" "I") ∈ wsL_law := wr_32 _ (List.mem_of_getElem? (i := 19) rfl)
theorem q_32_20 : (Cond.methodLink RL 99 yX6_fitness) ∈ wsL_law := wr_32 _ (List.mem_of_getElem? (i := 20) rfl)
theorem q_32_21 : (Cond.instanceMethod yX6_fitness) ∈ wsL_law := wr_32 _ (List.mem_of_getElem? (i := 21) rfl)
theorem q_32_22 : (Cond.selects RX6 yX6_fitness yX6_fitness) ∈ wsL_law := wr_32 _ (List.mem_of_getElem? (i := 22) rfl)
theorem q_32_23 : (Cond.code yX6_fitness cX6_fitness 9 (some .double)) ∈ wsL_law := wr_32 _ (List.mem_of_getElem? (i := 23) rfl)
theorem q_33_0 : (Cond.methodLink RL 100 yX5_ifCounted) ∈ wsL_law := wr_33 _ (List.mem_of_getElem? (i := 0) rfl)
theorem q_33_1 : (Cond.instanceMethod yX5_ifCounted) ∈ wsL_law := wr_33 _ (List.mem_of_getElem? (i := 1) rfl)
theorem q_33_2 : (Cond.selects RX5 yX5_ifCounted yX5_ifCounted) ∈ wsL_law := wr_33 _ (List.mem_of_getElem? (i := 2) rfl)
theorem q_33_3 : (Cond.code yX5_ifCounted cX5_ifCounted 8 (some .int)) ∈ wsL_law := wr_33 _ (List.mem_of_getElem? (i := 3) rfl)
theorem q_33_4 : (Cond.methodLink RL 103 yX6_ifCounted) ∈ wsL_law := wr_33 _ (List.mem_of_getElem? (i := 4) rfl)
theorem q_33_5 : (Cond.instanceMethod yX6_ifCounted) ∈ wsL_law := wr_33 _ (List.mem_of_getElem? (i := 5) rfl)
theorem q_33_6 : (Cond.selects RX6 yX6_ifCounted yX6_ifCounted) ∈ wsL_law := wr_33 _ (List.mem_of_getElem? (i := 6) rfl)
theorem q_33_7 : (Cond.code yX6_ifCounted cX6_ifCounted 5 (some .int)) ∈ wsL_law := wr_33 _ (List.mem_of_getElem? (i := 7) rfl)
theorem q_33_8 : (Cond.methodLink RX6 223 yX6_putsAside) ∈ wsL_law := wr_33 _ (List.mem_of_getElem? (i := 8) rfl)
theorem q_33_9 : (Cond.instanceMethod yX6_putsAside) ∈ wsL_law := wr_33 _ (List.mem_of_getElem? (i := 9) rfl)
theorem q_33_10 : (Cond.selects RX6 yX6_putsAside yX6_putsAside) ∈ wsL_law := wr_33 _ (List.mem_of_getElem? (i := 10) rfl)
theorem q_33_11 : (Cond.code yX6_putsAside cX6_putsAside 2 none) ∈ wsL_law := wr_33 _ (List.mem_of_getElem? (i := 11) rfl)
theorem q_33_12 : (Cond.methodLink RX6 226 yX6_dearer) ∈ wsL_law := wr_33 _ (List.mem_of_getElem? (i := 12) rfl)
theorem q_33_13 : (Cond.instanceMethod yX6_dearer) ∈ wsL_law := wr_33 _ (List.mem_of_getElem? (i := 13) rfl)
theorem q_33_14 : (Cond.selects RX6 yX6_dearer yX6_dearer) ∈ wsL_law := wr_33 _ (List.mem_of_getElem? (i := 14) rfl)
theorem q_33_15 : (Cond.code yX6_dearer cX6_dearer 3 (some .int)) ∈ wsL_law := wr_33 _ (List.mem_of_getElem? (i := 15) rfl)
theorem q_33_16 : (Cond.methodLink RX6 229 yX6_putsBack) ∈ wsL_law := wr_33 _ (List.mem_of_getElem? (i := 16) rfl)
theorem q_33_17 : (Cond.instanceMethod yX6_putsBack) ∈ wsL_law := wr_33 _ (List.mem_of_getElem? (i := 17) rfl)
theorem q_33_18 : (Cond.selects RX6 yX6_putsBack yX6_putsBack) ∈ wsL_law := wr_33 _ (List.mem_of_getElem? (i := 18) rfl)
theorem q_33_19 : (Cond.code yX6_putsBack cX6_putsBack 2 none) ∈ wsL_law := wr_33 _ (List.mem_of_getElem? (i := 19) rfl)
theorem q_33_20 : (Cond.methodLink RL 104 yX5_ifRun) ∈ wsL_law := wr_33 _ (List.mem_of_getElem? (i := 20) rfl)
theorem q_33_21 : (Cond.instanceMethod yX5_ifRun) ∈ wsL_law := wr_33 _ (List.mem_of_getElem? (i := 21) rfl)
theorem q_33_22 : (Cond.selects RX5 yX5_ifRun yX5_ifRun) ∈ wsL_law := wr_33 _ (List.mem_of_getElem? (i := 22) rfl)
theorem q_33_23 : (Cond.code yX5_ifRun cX5_ifRun 4 (some .int)) ∈ wsL_law := wr_33 _ (List.mem_of_getElem? (i := 23) rfl)
theorem q_34_0 : (Cond.methodLink RL 107 yX6_ifRun) ∈ wsL_law := wr_34 _ (List.mem_of_getElem? (i := 0) rfl)
theorem q_34_1 : (Cond.instanceMethod yX6_ifRun) ∈ wsL_law := wr_34 _ (List.mem_of_getElem? (i := 1) rfl)
theorem q_34_2 : (Cond.selects RX6 yX6_ifRun yX6_ifRun) ∈ wsL_law := wr_34 _ (List.mem_of_getElem? (i := 2) rfl)
theorem q_34_3 : (Cond.code yX6_ifRun cX6_ifRun 3 (some .int)) ∈ wsL_law := wr_34 _ (List.mem_of_getElem? (i := 3) rfl)
theorem q_34_4 : (Cond.methodLink RL 108 yX5_leastDrift) ∈ wsL_law := wr_34 _ (List.mem_of_getElem? (i := 4) rfl)
theorem q_34_5 : (Cond.instanceMethod yX5_leastDrift) ∈ wsL_law := wr_34 _ (List.mem_of_getElem? (i := 5) rfl)
theorem q_34_6 : (Cond.selects RX5 yX5_leastDrift yX5_leastDrift) ∈ wsL_law := wr_34 _ (List.mem_of_getElem? (i := 6) rfl)
theorem q_34_7 : (Cond.code yX5_leastDrift cX5_leastDrift 4 (some .int)) ∈ wsL_law := wr_34 _ (List.mem_of_getElem? (i := 7) rfl)
theorem q_34_8 : (Cond.methodLink RX5 238 yX4_driftToBear) ∈ wsL_law := wr_34 _ (List.mem_of_getElem? (i := 8) rfl)
theorem q_34_9 : (Cond.instanceMethod yX4_driftToBear) ∈ wsL_law := wr_34 _ (List.mem_of_getElem? (i := 9) rfl)
theorem q_34_10 : (Cond.selects RX4 yX4_driftToBear yX4_driftToBear) ∈ wsL_law := wr_34 _ (List.mem_of_getElem? (i := 10) rfl)
theorem q_34_11 : (Cond.code yX4_driftToBear cX4_driftToBear 4 (some .int)) ∈ wsL_law := wr_34 _ (List.mem_of_getElem? (i := 11) rfl)
theorem q_34_12 : (Cond.static yX5_driftUp) ∈ wsL_law := wr_34 _ (List.mem_of_getElem? (i := 12) rfl)
theorem q_34_13 : (Cond.code yX5_driftUp cX5_driftUp 3 (some .int)) ∈ wsL_law := wr_34 _ (List.mem_of_getElem? (i := 13) rfl)
theorem q_34_14 : (Cond.methodLink RL 111 yX6_leastDrift) ∈ wsL_law := wr_34 _ (List.mem_of_getElem? (i := 14) rfl)
theorem q_34_15 : (Cond.instanceMethod yX6_leastDrift) ∈ wsL_law := wr_34 _ (List.mem_of_getElem? (i := 15) rfl)
theorem q_34_16 : (Cond.selects RX6 yX6_leastDrift yX6_leastDrift) ∈ wsL_law := wr_34 _ (List.mem_of_getElem? (i := 16) rfl)
theorem q_34_17 : (Cond.code yX6_leastDrift cX6_leastDrift 4 (some .int)) ∈ wsL_law := wr_34 _ (List.mem_of_getElem? (i := 17) rfl)
theorem q_34_18 : (Cond.methodLink RL 112 yX5_undo) ∈ wsL_law := wr_34 _ (List.mem_of_getElem? (i := 18) rfl)
theorem q_34_19 : (Cond.instanceMethod yX5_undo) ∈ wsL_law := wr_34 _ (List.mem_of_getElem? (i := 19) rfl)
theorem q_34_20 : (Cond.selects RX5 yX5_undo yX5_undo) ∈ wsL_law := wr_34 _ (List.mem_of_getElem? (i := 20) rfl)
theorem q_34_21 : (Cond.code yX5_undo cX5_undo 2 (some .int)) ∈ wsL_law := wr_34 _ (List.mem_of_getElem? (i := 21) rfl)
theorem q_34_22 : (Cond.classLink RX5 7 "DriftPlans$State") ∈ wsL_law := wr_34 _ (List.mem_of_getElem? (i := 22) rfl)
theorem q_34_23 : (Cond.methodLink RL 115 yX6_undo) ∈ wsL_law := wr_34 _ (List.mem_of_getElem? (i := 23) rfl)
theorem q_35_0 : (Cond.instanceMethod yX6_undo) ∈ wsL_law := wr_35 _ (List.mem_of_getElem? (i := 0) rfl)
theorem q_35_1 : (Cond.selects RX6 yX6_undo yX6_undo) ∈ wsL_law := wr_35 _ (List.mem_of_getElem? (i := 1) rfl)
theorem q_35_2 : (Cond.code yX6_undo cX6_undo 2 (some .int)) ∈ wsL_law := wr_35 _ (List.mem_of_getElem? (i := 2) rfl)
theorem q_35_3 : (Cond.methodLink RL 116 yX5_save) ∈ wsL_law := wr_35 _ (List.mem_of_getElem? (i := 3) rfl)
theorem q_35_4 : (Cond.instanceMethod yX5_save) ∈ wsL_law := wr_35 _ (List.mem_of_getElem? (i := 4) rfl)
theorem q_35_5 : (Cond.selects RX5 yX5_save yX5_save) ∈ wsL_law := wr_35 _ (List.mem_of_getElem? (i := 5) rfl)
theorem q_35_6 : (Cond.code yX5_save cX5_save 1 (some .int)) ∈ wsL_law := wr_35 _ (List.mem_of_getElem? (i := 6) rfl)
theorem q_35_7 : (Cond.methodLink RL 119 yX6_save) ∈ wsL_law := wr_35 _ (List.mem_of_getElem? (i := 7) rfl)
theorem q_35_8 : (Cond.instanceMethod yX6_save) ∈ wsL_law := wr_35 _ (List.mem_of_getElem? (i := 8) rfl)
theorem q_35_9 : (Cond.selects RX6 yX6_save yX6_save) ∈ wsL_law := wr_35 _ (List.mem_of_getElem? (i := 9) rfl)
theorem q_35_10 : (Cond.code yX6_save cX6_save 2 (some .int)) ∈ wsL_law := wr_35 _ (List.mem_of_getElem? (i := 10) rfl)
theorem q_35_11 : (Cond.fieldLink RX6 232 "DriftPlansModel" "isKept" "Z") ∈ wsL_law := wr_35 _ (List.mem_of_getElem? (i := 11) rfl)
theorem q_35_12 : (Cond.methodLink RL 120 yX5_restore) ∈ wsL_law := wr_35 _ (List.mem_of_getElem? (i := 12) rfl)
theorem q_35_13 : (Cond.instanceMethod yX5_restore) ∈ wsL_law := wr_35 _ (List.mem_of_getElem? (i := 13) rfl)
theorem q_35_14 : (Cond.selects RX5 yX5_restore yX5_restore) ∈ wsL_law := wr_35 _ (List.mem_of_getElem? (i := 14) rfl)
theorem q_35_15 : (Cond.code yX5_restore cX5_restore 1 (some .int)) ∈ wsL_law := wr_35 _ (List.mem_of_getElem? (i := 15) rfl)
theorem q_35_16 : (Cond.methodLink RL 123 yX6_restore) ∈ wsL_law := wr_35 _ (List.mem_of_getElem? (i := 16) rfl)
theorem q_35_17 : (Cond.instanceMethod yX6_restore) ∈ wsL_law := wr_35 _ (List.mem_of_getElem? (i := 17) rfl)
theorem q_35_18 : (Cond.selects RX6 yX6_restore yX6_restore) ∈ wsL_law := wr_35 _ (List.mem_of_getElem? (i := 18) rfl)
theorem q_35_19 : (Cond.code yX6_restore cX6_restore 2 (some .int)) ∈ wsL_law := wr_35 _ (List.mem_of_getElem? (i := 19) rfl)
end
section
theorem dX6_init_0 : decode cX6_init 0 = .ok (.aload_n 0, 1) := by decide +kernel
theorem dX6_init_1 : decode cX6_init 1 = .ok (.invokespecial 1, 3) := by decide +kernel
theorem dX6_init_4 : decode cX6_init 4 = .ok (.aload_n 0, 1) := by decide +kernel
theorem dX6_init_5 : decode cX6_init 5 = .ok (.bipush 100, 2) := by decide +kernel
theorem dX6_init_7 : decode cX6_init 7 = .ok (.newarray .int, 2) := by decide +kernel
theorem dX6_init_9 : decode cX6_init 9 = .ok (.putfield 7, 3) := by decide +kernel
theorem dX6_init_12 : decode cX6_init 12 = .ok (.aload_n 0, 1) := by decide +kernel
theorem dX6_init_13 : decode cX6_init 13 = .ok (.sipush 400, 3) := by decide +kernel
theorem dX6_init_16 : decode cX6_init 16 = .ok (.newarray .int, 2) := by decide +kernel
theorem dX6_init_18 : decode cX6_init 18 = .ok (.putfield 13, 3) := by decide +kernel
theorem dX6_init_21 : decode cX6_init 21 = .ok (.aload_n 0, 1) := by decide +kernel
theorem dX6_init_22 : decode cX6_init 22 = .ok (.bipush 100, 2) := by decide +kernel
theorem dX6_init_24 : decode cX6_init 24 = .ok (.newarray .int, 2) := by decide +kernel
theorem dX6_init_26 : decode cX6_init 26 = .ok (.putfield 16, 3) := by decide +kernel
theorem dX6_init_29 : decode cX6_init 29 = .ok (.aload_n 0, 1) := by decide +kernel
theorem dX6_init_30 : decode cX6_init 30 = .ok (.bipush 100, 2) := by decide +kernel
theorem dX6_init_32 : decode cX6_init 32 = .ok (.newarray .int, 2) := by decide +kernel
theorem dX6_init_34 : decode cX6_init 34 = .ok (.putfield 19, 3) := by decide +kernel
theorem dX6_init_37 : decode cX6_init 37 = .ok (.aload_n 0, 1) := by decide +kernel
theorem dX6_init_38 : decode cX6_init 38 = .ok (.iconst 2, 1) := by decide +kernel
theorem dX6_init_39 : decode cX6_init 39 = .ok (.newarray .long, 2) := by decide +kernel
theorem dX6_init_41 : decode cX6_init 41 = .ok (.putfield 22, 3) := by decide +kernel
theorem dX6_init_44 : decode cX6_init 44 = .ok (.aload_n 0, 1) := by decide +kernel
theorem dX6_init_45 : decode cX6_init 45 = .ok (.bipush 8, 2) := by decide +kernel
theorem dX6_init_47 : decode cX6_init 47 = .ok (.newarray .long, 2) := by decide +kernel
theorem dX6_init_49 : decode cX6_init 49 = .ok (.putfield 26, 3) := by decide +kernel
theorem dX6_init_52 : decode cX6_init 52 = .ok (.aload_n 0, 1) := by decide +kernel
theorem dX6_init_53 : decode cX6_init 53 = .ok (.iconst 2, 1) := by decide +kernel
theorem dX6_init_54 : decode cX6_init 54 = .ok (.newarray .long, 2) := by decide +kernel
theorem dX6_init_56 : decode cX6_init 56 = .ok (.putfield 29, 3) := by decide +kernel
theorem dX6_init_59 : decode cX6_init 59 = .ok (.aload_n 0, 1) := by decide +kernel
theorem dX6_init_60 : decode cX6_init 60 = .ok (.iconst 2, 1) := by decide +kernel
theorem dX6_init_61 : decode cX6_init 61 = .ok (.newarray .long, 2) := by decide +kernel
theorem dX6_init_63 : decode cX6_init 63 = .ok (.putfield 32, 3) := by decide +kernel
theorem dX6_init_66 : decode cX6_init 66 = .ok (.aload_n 0, 1) := by decide +kernel
theorem dX6_init_67 : decode cX6_init 67 = .ok (.bipush 60, 2) := by decide +kernel
theorem dX6_init_69 : decode cX6_init 69 = .ok (.newarray .int, 2) := by decide +kernel
theorem dX6_init_71 : decode cX6_init 71 = .ok (.putfield 35, 3) := by decide +kernel
theorem dX6_init_74 : decode cX6_init 74 = .ok (.aload_n 0, 1) := by decide +kernel
theorem dX6_init_75 : decode cX6_init 75 = .ok (.iconst 2, 1) := by decide +kernel
theorem dX6_init_76 : decode cX6_init 76 = .ok (.newarray .int, 2) := by decide +kernel
theorem dX6_init_78 : decode cX6_init 78 = .ok (.putfield 38, 3) := by decide +kernel
theorem dX6_init_81 : decode cX6_init 81 = .ok (.aload_n 0, 1) := by decide +kernel
theorem dX6_init_82 : decode cX6_init 82 = .ok (.iconst 5, 1) := by decide +kernel
theorem dX6_init_83 : decode cX6_init 83 = .ok (.newarray .int, 2) := by decide +kernel
theorem dX6_init_85 : decode cX6_init 85 = .ok (.putfield 41, 3) := by decide +kernel
theorem dX6_init_88 : decode cX6_init 88 = .ok (.aload_n 0, 1) := by decide +kernel
theorem dX6_init_89 : decode cX6_init 89 = .ok (.iconst 5, 1) := by decide +kernel
theorem dX6_init_90 : decode cX6_init 90 = .ok (.newarray .int, 2) := by decide +kernel
theorem dX6_init_92 : decode cX6_init 92 = .ok (.putfield 44, 3) := by decide +kernel
theorem dX6_init_95 : decode cX6_init 95 = .ok (.aload_n 0, 1) := by decide +kernel
theorem dX6_init_96 : decode cX6_init 96 = .ok (.bipush 32, 2) := by decide +kernel
theorem dX6_init_98 : decode cX6_init 98 = .ok (.newarray .long, 2) := by decide +kernel
theorem dX6_init_100 : decode cX6_init 100 = .ok (.putfield 47, 3) := by decide +kernel
theorem dX6_init_103 : decode cX6_init 103 = .ok (.aload_n 0, 1) := by decide +kernel
theorem dX6_init_104 : decode cX6_init 104 = .ok (.bipush 124, 2) := by decide +kernel
theorem dX6_init_106 : decode cX6_init 106 = .ok (.newarray .int, 2) := by decide +kernel
theorem dX6_init_108 : decode cX6_init 108 = .ok (.putfield 50, 3) := by decide +kernel
theorem dX6_init_111 : decode cX6_init 111 = .ok (.iconst 0, 1) := by decide +kernel
theorem dX6_init_112 : decode cX6_init 112 = .ok (.istore_n 1, 1) := by decide +kernel
theorem dX6_init_113 : decode cX6_init 113 = .ok (.iload_n 1, 1) := by decide +kernel
theorem dX6_init_114 : decode cX6_init 114 = .ok (.iconst 5, 1) := by decide +kernel
theorem dX6_init_115 : decode cX6_init 115 = .ok (.if_icmp .ge 29, 3) := by decide +kernel
theorem dX6_init_118 : decode cX6_init 118 = .ok (.aload_n 0, 1) := by decide +kernel
theorem dX6_init_119 : decode cX6_init 119 = .ok (.getfield 7, 3) := by decide +kernel
theorem dX6_init_122 : decode cX6_init 122 = .ok (.iconst 0, 1) := by decide +kernel
theorem dX6_init_123 : decode cX6_init 123 = .ok (.iload_n 1, 1) := by decide +kernel
theorem dX6_init_124 : decode cX6_init 124 = .ok (.iadd, 1) := by decide +kernel
theorem dX6_init_125 : decode cX6_init 125 = .ok (.bipush 10, 2) := by decide +kernel
theorem dX6_init_127 : decode cX6_init 127 = .ok (.iastore, 1) := by decide +kernel
theorem dX6_init_128 : decode cX6_init 128 = .ok (.aload_n 0, 1) := by decide +kernel
theorem dX6_init_129 : decode cX6_init 129 = .ok (.getfield 7, 3) := by decide +kernel
theorem dX6_init_132 : decode cX6_init 132 = .ok (.iconst 5, 1) := by decide +kernel
theorem dX6_init_133 : decode cX6_init 133 = .ok (.iload_n 1, 1) := by decide +kernel
theorem dX6_init_134 : decode cX6_init 134 = .ok (.iadd, 1) := by decide +kernel
theorem dX6_init_135 : decode cX6_init 135 = .ok (.bipush 10, 2) := by decide +kernel
theorem dX6_init_137 : decode cX6_init 137 = .ok (.iastore, 1) := by decide +kernel
theorem dX6_init_138 : decode cX6_init 138 = .ok (.iinc 1 1, 3) := by decide +kernel
theorem dX6_init_141 : decode cX6_init 141 = .ok (.goto (-28), 3) := by decide +kernel
theorem dX6_init_144 : decode cX6_init 144 = .ok (.iconst 0, 1) := by decide +kernel
theorem dX6_init_145 : decode cX6_init 145 = .ok (.istore_n 1, 1) := by decide +kernel
theorem dX6_init_146 : decode cX6_init 146 = .ok (.iload_n 1, 1) := by decide +kernel
theorem dX6_init_147 : decode cX6_init 147 = .ok (.bipush 25, 2) := by decide +kernel
theorem dX6_init_149 : decode cX6_init 149 = .ok (.if_icmp .ge 20, 3) := by decide +kernel
theorem dX6_init_152 : decode cX6_init 152 = .ok (.aload_n 0, 1) := by decide +kernel
theorem dX6_init_153 : decode cX6_init 153 = .ok (.getfield 7, 3) := by decide +kernel
theorem dX6_init_156 : decode cX6_init 156 = .ok (.bipush 10, 2) := by decide +kernel
theorem dX6_init_158 : decode cX6_init 158 = .ok (.iload_n 1, 1) := by decide +kernel
theorem dX6_init_159 : decode cX6_init 159 = .ok (.iadd, 1) := by decide +kernel
theorem dX6_init_160 : decode cX6_init 160 = .ok (.bipush 100, 2) := by decide +kernel
theorem dX6_init_162 : decode cX6_init 162 = .ok (.iastore, 1) := by decide +kernel
theorem dX6_init_163 : decode cX6_init 163 = .ok (.iinc 1 1, 3) := by decide +kernel
theorem dX6_init_166 : decode cX6_init 166 = .ok (.goto (-20), 3) := by decide +kernel
theorem dX6_init_169 : decode cX6_init 169 = .ok (.aload_n 0, 1) := by decide +kernel
theorem dX6_init_170 : decode cX6_init 170 = .ok (.getfield 7, 3) := by decide +kernel
theorem dX6_init_173 : decode cX6_init 173 = .ok (.bipush 35, 2) := by decide +kernel
theorem dX6_init_175 : decode cX6_init 175 = .ok (.sipush 200, 3) := by decide +kernel
theorem dX6_init_178 : decode cX6_init 178 = .ok (.iastore, 1) := by decide +kernel
theorem dX6_init_179 : decode cX6_init 179 = .ok (.return_, 1) := by decide +kernel
theorem dX6_in_0 : decode cX6_in 0 = .ok (.iload_n 0, 1) := by decide +kernel
theorem dX6_in_1 : decode cX6_in 1 = .ok (.iload_n 1, 1) := by decide +kernel
theorem dX6_in_2 : decode cX6_in 2 = .ok (.if_icmp .lt 12, 3) := by decide +kernel
theorem dX6_in_5 : decode cX6_in 5 = .ok (.iload_n 0, 1) := by decide +kernel
theorem dX6_in_6 : decode cX6_in 6 = .ok (.iload_n 2, 1) := by decide +kernel
theorem dX6_in_7 : decode cX6_in 7 = .ok (.if_icmp .gt 7, 3) := by decide +kernel
theorem dX6_in_10 : decode cX6_in 10 = .ok (.iconst 1, 1) := by decide +kernel
theorem dX6_in_11 : decode cX6_in 11 = .ok (.goto 4, 3) := by decide +kernel
theorem dX6_in_14 : decode cX6_in 14 = .ok (.iconst 0, 1) := by decide +kernel
theorem dX6_in_15 : decode cX6_in 15 = .ok (.ireturn, 1) := by decide +kernel
theorem dX6_cut_0 : decode cX6_cut 0 = .ok (.lload_n 0, 1) := by decide +kernel
theorem dX6_cut_1 : decode cX6_cut 1 = .ok (.ldc2_w 53, 3) := by decide +kernel
theorem dX6_cut_4 : decode cX6_cut 4 = .ok (.lcmp, 1) := by decide +kernel
theorem dX6_cut_5 : decode cX6_cut 5 = .ok (.ifCond .le 9, 3) := by decide +kernel
theorem dX6_cut_8 : decode cX6_cut 8 = .ok (.ldc2_w 53, 3) := by decide +kernel
theorem dX6_cut_11 : decode cX6_cut 11 = .ok (.goto 4, 3) := by decide +kernel
theorem dX6_cut_14 : decode cX6_cut 14 = .ok (.lload_n 0, 1) := by decide +kernel
theorem dX6_cut_15 : decode cX6_cut 15 = .ok (.l2i, 1) := by decide +kernel
theorem dX6_cut_16 : decode cX6_cut 16 = .ok (.ireturn, 1) := by decide +kernel
theorem dX6_changes_0 : decode cX6_changes 0 = .ok (.aload_n 0, 1) := by decide +kernel
theorem dX6_changes_1 : decode cX6_changes 1 = .ok (.getfield 55, 3) := by decide +kernel
theorem dX6_changes_4 : decode cX6_changes 4 = .ok (.ifCond .eq 4, 3) := by decide +kernel
theorem dX6_changes_7 : decode cX6_changes 7 = .ok (.return_, 1) := by decide +kernel
theorem dX6_changes_8 : decode cX6_changes 8 = .ok (.aload_n 0, 1) := by decide +kernel
theorem dX6_changes_9 : decode cX6_changes 9 = .ok (.getfield 59, 3) := by decide +kernel
theorem dX6_changes_12 : decode cX6_changes 12 = .ok (.iconst 4, 1) := by decide +kernel
theorem dX6_changes_13 : decode cX6_changes 13 = .ok (.if_icmp .ne 71, 3) := by decide +kernel
theorem dX6_changes_16 : decode cX6_changes 16 = .ok (.iconst 0, 1) := by decide +kernel
theorem dX6_changes_17 : decode cX6_changes 17 = .ok (.istore_n 1, 1) := by decide +kernel
theorem dX6_changes_18 : decode cX6_changes 18 = .ok (.iload_n 1, 1) := by decide +kernel
theorem dX6_changes_19 : decode cX6_changes 19 = .ok (.sipush 300, 3) := by decide +kernel
theorem dX6_changes_22 : decode cX6_changes 22 = .ok (.if_icmp .ge 24, 3) := by decide +kernel
theorem dX6_changes_25 : decode cX6_changes 25 = .ok (.aload_n 0, 1) := by decide +kernel
theorem dX6_changes_26 : decode cX6_changes 26 = .ok (.getfield 13, 3) := by decide +kernel
theorem dX6_changes_29 : decode cX6_changes 29 = .ok (.iload_n 1, 1) := by decide +kernel
theorem dX6_changes_30 : decode cX6_changes 30 = .ok (.aload_n 0, 1) := by decide +kernel
theorem dX6_changes_31 : decode cX6_changes 31 = .ok (.getfield 13, 3) := by decide +kernel
theorem dX6_changes_34 : decode cX6_changes 34 = .ok (.iload_n 1, 1) := by decide +kernel
theorem dX6_changes_35 : decode cX6_changes 35 = .ok (.bipush 100, 2) := by decide +kernel
theorem dX6_changes_37 : decode cX6_changes 37 = .ok (.iadd, 1) := by decide +kernel
theorem dX6_changes_38 : decode cX6_changes 38 = .ok (.iaload, 1) := by decide +kernel
theorem dX6_changes_39 : decode cX6_changes 39 = .ok (.iastore, 1) := by decide +kernel
theorem dX6_changes_40 : decode cX6_changes 40 = .ok (.iinc 1 1, 3) := by decide +kernel
theorem dX6_changes_43 : decode cX6_changes 43 = .ok (.goto (-25), 3) := by decide +kernel
theorem dX6_changes_46 : decode cX6_changes 46 = .ok (.iconst 0, 1) := by decide +kernel
theorem dX6_changes_47 : decode cX6_changes 47 = .ok (.istore_n 1, 1) := by decide +kernel
theorem dX6_changes_48 : decode cX6_changes 48 = .ok (.iload_n 1, 1) := by decide +kernel
theorem dX6_changes_49 : decode cX6_changes 49 = .ok (.bipush 6, 2) := by decide +kernel
theorem dX6_changes_51 : decode cX6_changes 51 = .ok (.if_icmp .ge 23, 3) := by decide +kernel
theorem dX6_changes_54 : decode cX6_changes 54 = .ok (.aload_n 0, 1) := by decide +kernel
theorem dX6_changes_55 : decode cX6_changes 55 = .ok (.getfield 26, 3) := by decide +kernel
theorem dX6_changes_58 : decode cX6_changes 58 = .ok (.iload_n 1, 1) := by decide +kernel
theorem dX6_changes_59 : decode cX6_changes 59 = .ok (.aload_n 0, 1) := by decide +kernel
theorem dX6_changes_60 : decode cX6_changes 60 = .ok (.getfield 26, 3) := by decide +kernel
theorem dX6_changes_63 : decode cX6_changes 63 = .ok (.iload_n 1, 1) := by decide +kernel
theorem dX6_changes_64 : decode cX6_changes 64 = .ok (.iconst 2, 1) := by decide +kernel
theorem dX6_changes_65 : decode cX6_changes 65 = .ok (.iadd, 1) := by decide +kernel
theorem dX6_changes_66 : decode cX6_changes 66 = .ok (.laload, 1) := by decide +kernel
theorem dX6_changes_67 : decode cX6_changes 67 = .ok (.lastore, 1) := by decide +kernel
theorem dX6_changes_68 : decode cX6_changes 68 = .ok (.iinc 1 1, 3) := by decide +kernel
theorem dX6_changes_71 : decode cX6_changes 71 = .ok (.goto (-23), 3) := by decide +kernel
theorem dX6_changes_74 : decode cX6_changes 74 = .ok (.aload_n 0, 1) := by decide +kernel
theorem dX6_changes_75 : decode cX6_changes 75 = .ok (.dup, 1) := by decide +kernel
theorem dX6_changes_76 : decode cX6_changes 76 = .ok (.getfield 59, 3) := by decide +kernel
theorem dX6_changes_79 : decode cX6_changes 79 = .ok (.iconst 1, 1) := by decide +kernel
theorem dX6_changes_80 : decode cX6_changes 80 = .ok (.isub, 1) := by decide +kernel
theorem dX6_changes_81 : decode cX6_changes 81 = .ok (.putfield 59, 3) := by decide +kernel
theorem dX6_changes_84 : decode cX6_changes 84 = .ok (.iconst 0, 1) := by decide +kernel
theorem dX6_changes_85 : decode cX6_changes 85 = .ok (.istore_n 1, 1) := by decide +kernel
theorem dX6_changes_86 : decode cX6_changes 86 = .ok (.iload_n 1, 1) := by decide +kernel
theorem dX6_changes_87 : decode cX6_changes 87 = .ok (.bipush 100, 2) := by decide +kernel
theorem dX6_changes_89 : decode cX6_changes 89 = .ok (.if_icmp .ge 29, 3) := by decide +kernel
theorem dX6_changes_92 : decode cX6_changes 92 = .ok (.aload_n 0, 1) := by decide +kernel
theorem dX6_changes_93 : decode cX6_changes 93 = .ok (.getfield 13, 3) := by decide +kernel
theorem dX6_changes_96 : decode cX6_changes 96 = .ok (.bipush 100, 2) := by decide +kernel
theorem dX6_changes_98 : decode cX6_changes 98 = .ok (.aload_n 0, 1) := by decide +kernel
theorem dX6_changes_99 : decode cX6_changes 99 = .ok (.getfield 59, 3) := by decide +kernel
theorem dX6_changes_102 : decode cX6_changes 102 = .ok (.imul, 1) := by decide +kernel
theorem dX6_changes_103 : decode cX6_changes 103 = .ok (.iload_n 1, 1) := by decide +kernel
theorem dX6_changes_104 : decode cX6_changes 104 = .ok (.iadd, 1) := by decide +kernel
theorem dX6_changes_105 : decode cX6_changes 105 = .ok (.aload_n 0, 1) := by decide +kernel
theorem dX6_changes_106 : decode cX6_changes 106 = .ok (.getfield 7, 3) := by decide +kernel
theorem dX6_changes_109 : decode cX6_changes 109 = .ok (.iload_n 1, 1) := by decide +kernel
theorem dX6_changes_110 : decode cX6_changes 110 = .ok (.iaload, 1) := by decide +kernel
theorem dX6_changes_111 : decode cX6_changes 111 = .ok (.iastore, 1) := by decide +kernel
theorem dX6_changes_112 : decode cX6_changes 112 = .ok (.iinc 1 1, 3) := by decide +kernel
theorem dX6_changes_115 : decode cX6_changes 115 = .ok (.goto (-29), 3) := by decide +kernel
theorem dX6_changes_118 : decode cX6_changes 118 = .ok (.aload_n 0, 1) := by decide +kernel
theorem dX6_changes_119 : decode cX6_changes 119 = .ok (.getfield 26, 3) := by decide +kernel
theorem dX6_changes_122 : decode cX6_changes 122 = .ok (.iconst 2, 1) := by decide +kernel
theorem dX6_changes_123 : decode cX6_changes 123 = .ok (.aload_n 0, 1) := by decide +kernel
theorem dX6_changes_124 : decode cX6_changes 124 = .ok (.getfield 59, 3) := by decide +kernel
theorem dX6_changes_127 : decode cX6_changes 127 = .ok (.imul, 1) := by decide +kernel
theorem dX6_changes_128 : decode cX6_changes 128 = .ok (.aload_n 0, 1) := by decide +kernel
theorem dX6_changes_129 : decode cX6_changes 129 = .ok (.getfield 22, 3) := by decide +kernel
theorem dX6_changes_132 : decode cX6_changes 132 = .ok (.iconst 0, 1) := by decide +kernel
theorem dX6_changes_133 : decode cX6_changes 133 = .ok (.laload, 1) := by decide +kernel
theorem dX6_changes_134 : decode cX6_changes 134 = .ok (.lastore, 1) := by decide +kernel
theorem dX6_changes_135 : decode cX6_changes 135 = .ok (.aload_n 0, 1) := by decide +kernel
theorem dX6_changes_136 : decode cX6_changes 136 = .ok (.getfield 26, 3) := by decide +kernel
theorem dX6_changes_139 : decode cX6_changes 139 = .ok (.iconst 2, 1) := by decide +kernel
theorem dX6_changes_140 : decode cX6_changes 140 = .ok (.aload_n 0, 1) := by decide +kernel
theorem dX6_changes_141 : decode cX6_changes 141 = .ok (.getfield 59, 3) := by decide +kernel
theorem dX6_changes_144 : decode cX6_changes 144 = .ok (.imul, 1) := by decide +kernel
theorem dX6_changes_145 : decode cX6_changes 145 = .ok (.iconst 1, 1) := by decide +kernel
theorem dX6_changes_146 : decode cX6_changes 146 = .ok (.iadd, 1) := by decide +kernel
theorem dX6_changes_147 : decode cX6_changes 147 = .ok (.aload_n 0, 1) := by decide +kernel
theorem dX6_changes_148 : decode cX6_changes 148 = .ok (.getfield 22, 3) := by decide +kernel
theorem dX6_changes_151 : decode cX6_changes 151 = .ok (.iconst 1, 1) := by decide +kernel
theorem dX6_changes_152 : decode cX6_changes 152 = .ok (.laload, 1) := by decide +kernel
theorem dX6_changes_153 : decode cX6_changes 153 = .ok (.lastore, 1) := by decide +kernel
theorem dX6_changes_154 : decode cX6_changes 154 = .ok (.aload_n 0, 1) := by decide +kernel
theorem dX6_changes_155 : decode cX6_changes 155 = .ok (.dup, 1) := by decide +kernel
theorem dX6_changes_156 : decode cX6_changes 156 = .ok (.getfield 59, 3) := by decide +kernel
theorem dX6_changes_159 : decode cX6_changes 159 = .ok (.iconst 1, 1) := by decide +kernel
theorem dX6_changes_160 : decode cX6_changes 160 = .ok (.iadd, 1) := by decide +kernel
theorem dX6_changes_161 : decode cX6_changes 161 = .ok (.putfield 59, 3) := by decide +kernel
theorem dX6_changes_164 : decode cX6_changes 164 = .ok (.return_, 1) := by decide +kernel
theorem dX6_putsAside_0 : decode cX6_putsAside 0 = .ok (.iconst 0, 1) := by decide +kernel
theorem dX6_putsAside_1 : decode cX6_putsAside 1 = .ok (.istore_n 1, 1) := by decide +kernel
theorem dX6_putsAside_2 : decode cX6_putsAside 2 = .ok (.iload_n 1, 1) := by decide +kernel
theorem dX6_putsAside_3 : decode cX6_putsAside 3 = .ok (.bipush 100, 2) := by decide +kernel
theorem dX6_putsAside_5 : decode cX6_putsAside 5 = .ok (.if_icmp .ge 21, 3) := by decide +kernel
theorem dX6_putsAside_8 : decode cX6_putsAside 8 = .ok (.aload_n 0, 1) := by decide +kernel
theorem dX6_putsAside_9 : decode cX6_putsAside 9 = .ok (.getfield 19, 3) := by decide +kernel
theorem dX6_putsAside_12 : decode cX6_putsAside 12 = .ok (.iload_n 1, 1) := by decide +kernel
theorem dX6_putsAside_13 : decode cX6_putsAside 13 = .ok (.aload_n 0, 1) := by decide +kernel
theorem dX6_putsAside_14 : decode cX6_putsAside 14 = .ok (.getfield 7, 3) := by decide +kernel
theorem dX6_putsAside_17 : decode cX6_putsAside 17 = .ok (.iload_n 1, 1) := by decide +kernel
theorem dX6_putsAside_18 : decode cX6_putsAside 18 = .ok (.iaload, 1) := by decide +kernel
theorem dX6_putsAside_19 : decode cX6_putsAside 19 = .ok (.iastore, 1) := by decide +kernel
theorem dX6_putsAside_20 : decode cX6_putsAside 20 = .ok (.iinc 1 1, 3) := by decide +kernel
theorem dX6_putsAside_23 : decode cX6_putsAside 23 = .ok (.goto (-21), 3) := by decide +kernel
theorem dX6_putsAside_26 : decode cX6_putsAside 26 = .ok (.aload_n 0, 1) := by decide +kernel
theorem dX6_putsAside_27 : decode cX6_putsAside 27 = .ok (.getfield 32, 3) := by decide +kernel
theorem dX6_putsAside_30 : decode cX6_putsAside 30 = .ok (.iconst 0, 1) := by decide +kernel
theorem dX6_putsAside_31 : decode cX6_putsAside 31 = .ok (.aload_n 0, 1) := by decide +kernel
theorem dX6_putsAside_32 : decode cX6_putsAside 32 = .ok (.getfield 22, 3) := by decide +kernel
theorem dX6_putsAside_35 : decode cX6_putsAside 35 = .ok (.iconst 0, 1) := by decide +kernel
theorem dX6_putsAside_36 : decode cX6_putsAside 36 = .ok (.laload, 1) := by decide +kernel
theorem dX6_putsAside_37 : decode cX6_putsAside 37 = .ok (.lastore, 1) := by decide +kernel
theorem dX6_putsAside_38 : decode cX6_putsAside 38 = .ok (.aload_n 0, 1) := by decide +kernel
theorem dX6_putsAside_39 : decode cX6_putsAside 39 = .ok (.getfield 32, 3) := by decide +kernel
theorem dX6_putsAside_42 : decode cX6_putsAside 42 = .ok (.iconst 1, 1) := by decide +kernel
theorem dX6_putsAside_43 : decode cX6_putsAside 43 = .ok (.aload_n 0, 1) := by decide +kernel
theorem dX6_putsAside_44 : decode cX6_putsAside 44 = .ok (.getfield 22, 3) := by decide +kernel
theorem dX6_putsAside_47 : decode cX6_putsAside 47 = .ok (.iconst 1, 1) := by decide +kernel
theorem dX6_putsAside_48 : decode cX6_putsAside 48 = .ok (.laload, 1) := by decide +kernel
theorem dX6_putsAside_49 : decode cX6_putsAside 49 = .ok (.lastore, 1) := by decide +kernel
theorem dX6_putsAside_50 : decode cX6_putsAside 50 = .ok (.return_, 1) := by decide +kernel
theorem dX6_putsBack_0 : decode cX6_putsBack 0 = .ok (.iconst 0, 1) := by decide +kernel
theorem dX6_putsBack_1 : decode cX6_putsBack 1 = .ok (.istore_n 1, 1) := by decide +kernel
theorem dX6_putsBack_2 : decode cX6_putsBack 2 = .ok (.iload_n 1, 1) := by decide +kernel
theorem dX6_putsBack_3 : decode cX6_putsBack 3 = .ok (.bipush 100, 2) := by decide +kernel
theorem dX6_putsBack_5 : decode cX6_putsBack 5 = .ok (.if_icmp .ge 21, 3) := by decide +kernel
theorem dX6_putsBack_8 : decode cX6_putsBack 8 = .ok (.aload_n 0, 1) := by decide +kernel
theorem dX6_putsBack_9 : decode cX6_putsBack 9 = .ok (.getfield 7, 3) := by decide +kernel
theorem dX6_putsBack_12 : decode cX6_putsBack 12 = .ok (.iload_n 1, 1) := by decide +kernel
theorem dX6_putsBack_13 : decode cX6_putsBack 13 = .ok (.aload_n 0, 1) := by decide +kernel
theorem dX6_putsBack_14 : decode cX6_putsBack 14 = .ok (.getfield 19, 3) := by decide +kernel
theorem dX6_putsBack_17 : decode cX6_putsBack 17 = .ok (.iload_n 1, 1) := by decide +kernel
theorem dX6_putsBack_18 : decode cX6_putsBack 18 = .ok (.iaload, 1) := by decide +kernel
theorem dX6_putsBack_19 : decode cX6_putsBack 19 = .ok (.iastore, 1) := by decide +kernel
theorem dX6_putsBack_20 : decode cX6_putsBack 20 = .ok (.iinc 1 1, 3) := by decide +kernel
theorem dX6_putsBack_23 : decode cX6_putsBack 23 = .ok (.goto (-21), 3) := by decide +kernel
theorem dX6_putsBack_26 : decode cX6_putsBack 26 = .ok (.aload_n 0, 1) := by decide +kernel
theorem dX6_putsBack_27 : decode cX6_putsBack 27 = .ok (.getfield 22, 3) := by decide +kernel
theorem dX6_putsBack_30 : decode cX6_putsBack 30 = .ok (.iconst 0, 1) := by decide +kernel
theorem dX6_putsBack_31 : decode cX6_putsBack 31 = .ok (.aload_n 0, 1) := by decide +kernel
theorem dX6_putsBack_32 : decode cX6_putsBack 32 = .ok (.getfield 32, 3) := by decide +kernel
theorem dX6_putsBack_35 : decode cX6_putsBack 35 = .ok (.iconst 0, 1) := by decide +kernel
theorem dX6_putsBack_36 : decode cX6_putsBack 36 = .ok (.laload, 1) := by decide +kernel
theorem dX6_putsBack_37 : decode cX6_putsBack 37 = .ok (.lastore, 1) := by decide +kernel
theorem dX6_putsBack_38 : decode cX6_putsBack 38 = .ok (.aload_n 0, 1) := by decide +kernel
theorem dX6_putsBack_39 : decode cX6_putsBack 39 = .ok (.getfield 22, 3) := by decide +kernel
theorem dX6_putsBack_42 : decode cX6_putsBack 42 = .ok (.iconst 1, 1) := by decide +kernel
theorem dX6_putsBack_43 : decode cX6_putsBack 43 = .ok (.aload_n 0, 1) := by decide +kernel
theorem dX6_putsBack_44 : decode cX6_putsBack 44 = .ok (.getfield 32, 3) := by decide +kernel
theorem dX6_putsBack_47 : decode cX6_putsBack 47 = .ok (.iconst 1, 1) := by decide +kernel
theorem dX6_putsBack_48 : decode cX6_putsBack 48 = .ok (.laload, 1) := by decide +kernel
theorem dX6_putsBack_49 : decode cX6_putsBack 49 = .ok (.lastore, 1) := by decide +kernel
theorem dX6_putsBack_50 : decode cX6_putsBack 50 = .ok (.return_, 1) := by decide +kernel
theorem dX6_isTable_0 : decode cX6_isTable 0 = .ok (.iload_n 0, 1) := by decide +kernel
theorem dX6_isTable_1 : decode cX6_isTable 1 = .ok (.iconst 0, 1) := by decide +kernel
theorem dX6_isTable_2 : decode cX6_isTable 2 = .ok (.iconst 4, 1) := by decide +kernel
theorem dX6_isTable_3 : decode cX6_isTable 3 = .ok (.invokestatic 63, 3) := by decide +kernel
theorem dX6_isTable_6 : decode cX6_isTable 6 = .ok (.ireturn, 1) := by decide +kernel
theorem dX6_isSet_0 : decode cX6_isSet 0 = .ok (.iload_n 0, 1) := by decide +kernel
theorem dX6_isSet_1 : decode cX6_isSet 1 = .ok (.iconst 1, 1) := by decide +kernel
theorem dX6_isSet_2 : decode cX6_isSet 2 = .ok (.bipush 31, 2) := by decide +kernel
theorem dX6_isSet_4 : decode cX6_isSet 4 = .ok (.invokestatic 63, 3) := by decide +kernel
theorem dX6_isSet_7 : decode cX6_isSet 7 = .ok (.ireturn, 1) := by decide +kernel
theorem dX6_sizeOf_0 : decode cX6_sizeOf 0 = .ok (.lconst 1, 1) := by decide +kernel
theorem dX6_sizeOf_1 : decode cX6_sizeOf 1 = .ok (.lstore_n 3, 1) := by decide +kernel
theorem dX6_sizeOf_2 : decode cX6_sizeOf 2 = .ok (.iconst 0, 1) := by decide +kernel
theorem dX6_sizeOf_3 : decode cX6_sizeOf 3 = .ok (.istore 5, 2) := by decide +kernel
theorem dX6_sizeOf_5 : decode cX6_sizeOf 5 = .ok (.iload 5, 2) := by decide +kernel
theorem dX6_sizeOf_7 : decode cX6_sizeOf 7 = .ok (.iconst 5, 1) := by decide +kernel
theorem dX6_sizeOf_8 : decode cX6_sizeOf 8 = .ok (.if_icmp .ge 85, 3) := by decide +kernel
theorem dX6_sizeOf_11 : decode cX6_sizeOf 11 = .ok (.iload_n 1, 1) := by decide +kernel
theorem dX6_sizeOf_12 : decode cX6_sizeOf 12 = .ok (.iload 5, 2) := by decide +kernel
theorem dX6_sizeOf_14 : decode cX6_sizeOf 14 = .ok (.ishr, 1) := by decide +kernel
theorem dX6_sizeOf_15 : decode cX6_sizeOf 15 = .ok (.iconst 1, 1) := by decide +kernel
theorem dX6_sizeOf_16 : decode cX6_sizeOf 16 = .ok (.iand, 1) := by decide +kernel
theorem dX6_sizeOf_17 : decode cX6_sizeOf 17 = .ok (.iconst 1, 1) := by decide +kernel
theorem dX6_sizeOf_18 : decode cX6_sizeOf 18 = .ok (.if_icmp .ne 69, 3) := by decide +kernel
theorem dX6_sizeOf_21 : decode cX6_sizeOf 21 = .ok (.lload_n 3, 1) := by decide +kernel
theorem dX6_sizeOf_22 : decode cX6_sizeOf 22 = .ok (.aload_n 0, 1) := by decide +kernel
theorem dX6_sizeOf_23 : decode cX6_sizeOf 23 = .ok (.getfield 7, 3) := by decide +kernel
theorem dX6_sizeOf_26 : decode cX6_sizeOf 26 = .ok (.iload_n 2, 1) := by decide +kernel
theorem dX6_sizeOf_27 : decode cX6_sizeOf 27 = .ok (.iload 5, 2) := by decide +kernel
theorem dX6_sizeOf_29 : decode cX6_sizeOf 29 = .ok (.iadd, 1) := by decide +kernel
theorem dX6_sizeOf_30 : decode cX6_sizeOf 30 = .ok (.iaload, 1) := by decide +kernel
theorem dX6_sizeOf_31 : decode cX6_sizeOf 31 = .ok (.i2l, 1) := by decide +kernel
theorem dX6_sizeOf_32 : decode cX6_sizeOf 32 = .ok (.lmul, 1) := by decide +kernel
theorem dX6_sizeOf_33 : decode cX6_sizeOf 33 = .ok (.lstore_n 3, 1) := by decide +kernel
theorem dX6_sizeOf_34 : decode cX6_sizeOf 34 = .ok (.iconst 0, 1) := by decide +kernel
theorem dX6_sizeOf_35 : decode cX6_sizeOf 35 = .ok (.istore 6, 2) := by decide +kernel
theorem dX6_sizeOf_37 : decode cX6_sizeOf 37 = .ok (.iload 6, 2) := by decide +kernel
theorem dX6_sizeOf_39 : decode cX6_sizeOf 39 = .ok (.iload 5, 2) := by decide +kernel
theorem dX6_sizeOf_41 : decode cX6_sizeOf 41 = .ok (.if_icmp .ge 46, 3) := by decide +kernel
theorem dX6_sizeOf_44 : decode cX6_sizeOf 44 = .ok (.iload_n 1, 1) := by decide +kernel
theorem dX6_sizeOf_45 : decode cX6_sizeOf 45 = .ok (.iload 6, 2) := by decide +kernel
theorem dX6_sizeOf_47 : decode cX6_sizeOf 47 = .ok (.ishr, 1) := by decide +kernel
theorem dX6_sizeOf_48 : decode cX6_sizeOf 48 = .ok (.iconst 1, 1) := by decide +kernel
theorem dX6_sizeOf_49 : decode cX6_sizeOf 49 = .ok (.iand, 1) := by decide +kernel
theorem dX6_sizeOf_50 : decode cX6_sizeOf 50 = .ok (.iconst 1, 1) := by decide +kernel
theorem dX6_sizeOf_51 : decode cX6_sizeOf 51 = .ok (.if_icmp .ne 28, 3) := by decide +kernel
theorem dX6_sizeOf_54 : decode cX6_sizeOf 54 = .ok (.lload_n 3, 1) := by decide +kernel
theorem dX6_sizeOf_55 : decode cX6_sizeOf 55 = .ok (.aload_n 0, 1) := by decide +kernel
theorem dX6_sizeOf_56 : decode cX6_sizeOf 56 = .ok (.getfield 7, 3) := by decide +kernel
theorem dX6_sizeOf_59 : decode cX6_sizeOf 59 = .ok (.bipush 10, 2) := by decide +kernel
theorem dX6_sizeOf_61 : decode cX6_sizeOf 61 = .ok (.iconst 5, 1) := by decide +kernel
theorem dX6_sizeOf_62 : decode cX6_sizeOf 62 = .ok (.iload 6, 2) := by decide +kernel
theorem dX6_sizeOf_64 : decode cX6_sizeOf 64 = .ok (.imul, 1) := by decide +kernel
theorem dX6_sizeOf_65 : decode cX6_sizeOf 65 = .ok (.iadd, 1) := by decide +kernel
theorem dX6_sizeOf_66 : decode cX6_sizeOf 66 = .ok (.iload 5, 2) := by decide +kernel
theorem dX6_sizeOf_68 : decode cX6_sizeOf 68 = .ok (.iadd, 1) := by decide +kernel
theorem dX6_sizeOf_69 : decode cX6_sizeOf 69 = .ok (.iaload, 1) := by decide +kernel
theorem dX6_sizeOf_70 : decode cX6_sizeOf 70 = .ok (.i2l, 1) := by decide +kernel
theorem dX6_sizeOf_71 : decode cX6_sizeOf 71 = .ok (.lmul, 1) := by decide +kernel
theorem dX6_sizeOf_72 : decode cX6_sizeOf 72 = .ok (.ldc2_w 67, 3) := by decide +kernel
theorem dX6_sizeOf_75 : decode cX6_sizeOf 75 = .ok (.ldiv, 1) := by decide +kernel
theorem dX6_sizeOf_76 : decode cX6_sizeOf 76 = .ok (.goto 4, 3) := by decide +kernel
theorem dX6_sizeOf_79 : decode cX6_sizeOf 79 = .ok (.lload_n 3, 1) := by decide +kernel
theorem dX6_sizeOf_80 : decode cX6_sizeOf 80 = .ok (.lstore_n 3, 1) := by decide +kernel
theorem dX6_sizeOf_81 : decode cX6_sizeOf 81 = .ok (.iinc 6 1, 3) := by decide +kernel
theorem dX6_sizeOf_84 : decode cX6_sizeOf 84 = .ok (.goto (-47), 3) := by decide +kernel
theorem dX6_sizeOf_87 : decode cX6_sizeOf 87 = .ok (.iinc 5 1, 3) := by decide +kernel
theorem dX6_sizeOf_90 : decode cX6_sizeOf 90 = .ok (.goto (-85), 3) := by decide +kernel
theorem dX6_sizeOf_93 : decode cX6_sizeOf 93 = .ok (.lload_n 3, 1) := by decide +kernel
theorem dX6_sizeOf_94 : decode cX6_sizeOf 94 = .ok (.lconst 1, 1) := by decide +kernel
theorem dX6_sizeOf_95 : decode cX6_sizeOf 95 = .ok (.lcmp, 1) := by decide +kernel
theorem dX6_sizeOf_96 : decode cX6_sizeOf 96 = .ok (.ifCond .ge 7, 3) := by decide +kernel
theorem dX6_sizeOf_99 : decode cX6_sizeOf 99 = .ok (.lconst 1, 1) := by decide +kernel
theorem dX6_sizeOf_100 : decode cX6_sizeOf 100 = .ok (.goto 4, 3) := by decide +kernel
theorem dX6_sizeOf_103 : decode cX6_sizeOf 103 = .ok (.lload_n 3, 1) := by decide +kernel
theorem dX6_sizeOf_104 : decode cX6_sizeOf 104 = .ok (.lreturn, 1) := by decide +kernel
theorem dX6_base_0 : decode cX6_base 0 = .ok (.iload_n 0, 1) := by decide +kernel
theorem dX6_base_1 : decode cX6_base 1 = .ok (.ifCond .eq 7, 3) := by decide +kernel
theorem dX6_base_4 : decode cX6_base 4 = .ok (.iconst 0, 1) := by decide +kernel
theorem dX6_base_5 : decode cX6_base 5 = .ok (.goto 4, 3) := by decide +kernel
theorem dX6_base_8 : decode cX6_base 8 = .ok (.iconst 5, 1) := by decide +kernel
theorem dX6_base_9 : decode cX6_base 9 = .ok (.ireturn, 1) := by decide +kernel
theorem dX6_costOf_0 : decode cX6_costOf 0 = .ok (.lconst 0, 1) := by decide +kernel
theorem dX6_costOf_1 : decode cX6_costOf 1 = .ok (.lstore_n 2, 1) := by decide +kernel
theorem dX6_costOf_2 : decode cX6_costOf 2 = .ok (.iconst 0, 1) := by decide +kernel
theorem dX6_costOf_3 : decode cX6_costOf 3 = .ok (.istore 4, 2) := by decide +kernel
theorem dX6_costOf_5 : decode cX6_costOf 5 = .ok (.iconst 0, 1) := by decide +kernel
theorem dX6_costOf_6 : decode cX6_costOf 6 = .ok (.istore 5, 2) := by decide +kernel
theorem dX6_costOf_8 : decode cX6_costOf 8 = .ok (.iload 5, 2) := by decide +kernel
theorem dX6_costOf_10 : decode cX6_costOf 10 = .ok (.aload_n 0, 1) := by decide +kernel
theorem dX6_costOf_11 : decode cX6_costOf 11 = .ok (.getfield 69, 3) := by decide +kernel
theorem dX6_costOf_14 : decode cX6_costOf 14 = .ok (.if_icmp .ge 33, 3) := by decide +kernel
theorem dX6_costOf_17 : decode cX6_costOf 17 = .ok (.iload 4, 2) := by decide +kernel
theorem dX6_costOf_19 : decode cX6_costOf 19 = .ok (.iconst 1, 1) := by decide +kernel
theorem dX6_costOf_20 : decode cX6_costOf 20 = .ok (.aload_n 0, 1) := by decide +kernel
theorem dX6_costOf_21 : decode cX6_costOf 21 = .ok (.getfield 41, 3) := by decide +kernel
theorem dX6_costOf_24 : decode cX6_costOf 24 = .ok (.iload 5, 2) := by decide +kernel
theorem dX6_costOf_26 : decode cX6_costOf 26 = .ok (.iaload, 1) := by decide +kernel
theorem dX6_costOf_27 : decode cX6_costOf 27 = .ok (.ishl, 1) := by decide +kernel
theorem dX6_costOf_28 : decode cX6_costOf 28 = .ok (.ior, 1) := by decide +kernel
theorem dX6_costOf_29 : decode cX6_costOf 29 = .ok (.istore 4, 2) := by decide +kernel
theorem dX6_costOf_31 : decode cX6_costOf 31 = .ok (.lload_n 2, 1) := by decide +kernel
theorem dX6_costOf_32 : decode cX6_costOf 32 = .ok (.aload_n 0, 1) := by decide +kernel
theorem dX6_costOf_33 : decode cX6_costOf 33 = .ok (.iload 4, 2) := by decide +kernel
theorem dX6_costOf_35 : decode cX6_costOf 35 = .ok (.iload_n 1, 1) := by decide +kernel
theorem dX6_costOf_36 : decode cX6_costOf 36 = .ok (.invokevirtual 72, 3) := by decide +kernel
theorem dX6_costOf_39 : decode cX6_costOf 39 = .ok (.ladd, 1) := by decide +kernel
theorem dX6_costOf_40 : decode cX6_costOf 40 = .ok (.lstore_n 2, 1) := by decide +kernel
theorem dX6_costOf_41 : decode cX6_costOf 41 = .ok (.iinc 5 1, 3) := by decide +kernel
theorem dX6_costOf_44 : decode cX6_costOf 44 = .ok (.goto (-36), 3) := by decide +kernel
theorem dX6_costOf_47 : decode cX6_costOf 47 = .ok (.lload_n 2, 1) := by decide +kernel
theorem dX6_costOf_48 : decode cX6_costOf 48 = .ok (.lreturn, 1) := by decide +kernel
theorem dX6_hasNext_0 : decode cX6_hasNext 0 = .ok (.aload_n 0, 1) := by decide +kernel
theorem dX6_hasNext_1 : decode cX6_hasNext 1 = .ok (.getfield 69, 3) := by decide +kernel
theorem dX6_hasNext_4 : decode cX6_hasNext 4 = .ok (.iconst 2, 1) := by decide +kernel
theorem dX6_hasNext_5 : decode cX6_hasNext 5 = .ok (.isub, 1) := by decide +kernel
theorem dX6_hasNext_6 : decode cX6_hasNext 6 = .ok (.istore_n 1, 1) := by decide +kernel
theorem dX6_hasNext_7 : decode cX6_hasNext 7 = .ok (.iload_n 1, 1) := by decide +kernel
theorem dX6_hasNext_8 : decode cX6_hasNext 8 = .ok (.ifCond .lt 26, 3) := by decide +kernel
theorem dX6_hasNext_11 : decode cX6_hasNext 11 = .ok (.aload_n 0, 1) := by decide +kernel
theorem dX6_hasNext_12 : decode cX6_hasNext 12 = .ok (.getfield 41, 3) := by decide +kernel
theorem dX6_hasNext_15 : decode cX6_hasNext 15 = .ok (.iload_n 1, 1) := by decide +kernel
theorem dX6_hasNext_16 : decode cX6_hasNext 16 = .ok (.iaload, 1) := by decide +kernel
theorem dX6_hasNext_17 : decode cX6_hasNext 17 = .ok (.aload_n 0, 1) := by decide +kernel
theorem dX6_hasNext_18 : decode cX6_hasNext 18 = .ok (.getfield 41, 3) := by decide +kernel
theorem dX6_hasNext_21 : decode cX6_hasNext 21 = .ok (.iload_n 1, 1) := by decide +kernel
theorem dX6_hasNext_22 : decode cX6_hasNext 22 = .ok (.iconst 1, 1) := by decide +kernel
theorem dX6_hasNext_23 : decode cX6_hasNext 23 = .ok (.iadd, 1) := by decide +kernel
theorem dX6_hasNext_24 : decode cX6_hasNext 24 = .ok (.iaload, 1) := by decide +kernel
theorem dX6_hasNext_25 : decode cX6_hasNext 25 = .ok (.if_icmp .le 9, 3) := by decide +kernel
theorem dX6_hasNext_28 : decode cX6_hasNext 28 = .ok (.iinc 1 (-1), 3) := by decide +kernel
theorem dX6_hasNext_31 : decode cX6_hasNext 31 = .ok (.goto (-24), 3) := by decide +kernel
theorem dX6_hasNext_34 : decode cX6_hasNext 34 = .ok (.iload_n 1, 1) := by decide +kernel
theorem dX6_hasNext_35 : decode cX6_hasNext 35 = .ok (.ifCond .ge 5, 3) := by decide +kernel
theorem dX6_hasNext_38 : decode cX6_hasNext 38 = .ok (.iconst 0, 1) := by decide +kernel
theorem dX6_hasNext_39 : decode cX6_hasNext 39 = .ok (.ireturn, 1) := by decide +kernel
theorem dX6_hasNext_40 : decode cX6_hasNext 40 = .ok (.aload_n 0, 1) := by decide +kernel
theorem dX6_hasNext_41 : decode cX6_hasNext 41 = .ok (.getfield 69, 3) := by decide +kernel
theorem dX6_hasNext_44 : decode cX6_hasNext 44 = .ok (.iconst 1, 1) := by decide +kernel
theorem dX6_hasNext_45 : decode cX6_hasNext 45 = .ok (.isub, 1) := by decide +kernel
theorem dX6_hasNext_46 : decode cX6_hasNext 46 = .ok (.istore_n 2, 1) := by decide +kernel
theorem dX6_hasNext_47 : decode cX6_hasNext 47 = .ok (.aload_n 0, 1) := by decide +kernel
theorem dX6_hasNext_48 : decode cX6_hasNext 48 = .ok (.getfield 41, 3) := by decide +kernel
theorem dX6_hasNext_51 : decode cX6_hasNext 51 = .ok (.iload_n 2, 1) := by decide +kernel
theorem dX6_hasNext_52 : decode cX6_hasNext 52 = .ok (.iaload, 1) := by decide +kernel
theorem dX6_hasNext_53 : decode cX6_hasNext 53 = .ok (.aload_n 0, 1) := by decide +kernel
theorem dX6_hasNext_54 : decode cX6_hasNext 54 = .ok (.getfield 41, 3) := by decide +kernel
theorem dX6_hasNext_57 : decode cX6_hasNext 57 = .ok (.iload_n 1, 1) := by decide +kernel
theorem dX6_hasNext_58 : decode cX6_hasNext 58 = .ok (.iaload, 1) := by decide +kernel
theorem dX6_hasNext_59 : decode cX6_hasNext 59 = .ok (.if_icmp .ge 9, 3) := by decide +kernel
theorem dX6_hasNext_62 : decode cX6_hasNext 62 = .ok (.iinc 2 (-1), 3) := by decide +kernel
theorem dX6_hasNext_65 : decode cX6_hasNext 65 = .ok (.goto (-18), 3) := by decide +kernel
theorem dX6_hasNext_68 : decode cX6_hasNext 68 = .ok (.aload_n 0, 1) := by decide +kernel
theorem dX6_hasNext_69 : decode cX6_hasNext 69 = .ok (.iload_n 1, 1) := by decide +kernel
theorem dX6_hasNext_70 : decode cX6_hasNext 70 = .ok (.iload_n 2, 1) := by decide +kernel
theorem dX6_hasNext_71 : decode cX6_hasNext 71 = .ok (.invokevirtual 76, 3) := by decide +kernel
theorem dX6_hasNext_74 : decode cX6_hasNext 74 = .ok (.iload_n 1, 1) := by decide +kernel
theorem dX6_hasNext_75 : decode cX6_hasNext 75 = .ok (.iconst 1, 1) := by decide +kernel
theorem dX6_hasNext_76 : decode cX6_hasNext 76 = .ok (.iadd, 1) := by decide +kernel
theorem dX6_hasNext_77 : decode cX6_hasNext 77 = .ok (.istore_n 3, 1) := by decide +kernel
theorem dX6_hasNext_78 : decode cX6_hasNext 78 = .ok (.aload_n 0, 1) := by decide +kernel
theorem dX6_hasNext_79 : decode cX6_hasNext 79 = .ok (.getfield 69, 3) := by decide +kernel
theorem dX6_hasNext_82 : decode cX6_hasNext 82 = .ok (.iconst 1, 1) := by decide +kernel
theorem dX6_hasNext_83 : decode cX6_hasNext 83 = .ok (.isub, 1) := by decide +kernel
theorem dX6_hasNext_84 : decode cX6_hasNext 84 = .ok (.istore 4, 2) := by decide +kernel
theorem dX6_hasNext_86 : decode cX6_hasNext 86 = .ok (.iload_n 3, 1) := by decide +kernel
theorem dX6_hasNext_87 : decode cX6_hasNext 87 = .ok (.iload 4, 2) := by decide +kernel
theorem dX6_hasNext_89 : decode cX6_hasNext 89 = .ok (.if_icmp .ge 19, 3) := by decide +kernel
theorem dX6_hasNext_92 : decode cX6_hasNext 92 = .ok (.aload_n 0, 1) := by decide +kernel
theorem dX6_hasNext_93 : decode cX6_hasNext 93 = .ok (.iload_n 3, 1) := by decide +kernel
theorem dX6_hasNext_94 : decode cX6_hasNext 94 = .ok (.iload 4, 2) := by decide +kernel
theorem dX6_hasNext_96 : decode cX6_hasNext 96 = .ok (.invokevirtual 76, 3) := by decide +kernel
theorem dX6_hasNext_99 : decode cX6_hasNext 99 = .ok (.iinc 3 1, 3) := by decide +kernel
theorem dX6_hasNext_102 : decode cX6_hasNext 102 = .ok (.iinc 4 (-1), 3) := by decide +kernel
theorem dX6_hasNext_105 : decode cX6_hasNext 105 = .ok (.goto (-19), 3) := by decide +kernel
theorem dX6_hasNext_108 : decode cX6_hasNext 108 = .ok (.iconst 1, 1) := by decide +kernel
theorem dX6_hasNext_109 : decode cX6_hasNext 109 = .ok (.ireturn, 1) := by decide +kernel
theorem dX6_swaps_0 : decode cX6_swaps 0 = .ok (.aload_n 0, 1) := by decide +kernel
theorem dX6_swaps_1 : decode cX6_swaps 1 = .ok (.getfield 41, 3) := by decide +kernel
theorem dX6_swaps_4 : decode cX6_swaps 4 = .ok (.iload_n 1, 1) := by decide +kernel
theorem dX6_swaps_5 : decode cX6_swaps 5 = .ok (.iaload, 1) := by decide +kernel
theorem dX6_swaps_6 : decode cX6_swaps 6 = .ok (.istore_n 3, 1) := by decide +kernel
theorem dX6_swaps_7 : decode cX6_swaps 7 = .ok (.aload_n 0, 1) := by decide +kernel
theorem dX6_swaps_8 : decode cX6_swaps 8 = .ok (.getfield 41, 3) := by decide +kernel
theorem dX6_swaps_11 : decode cX6_swaps 11 = .ok (.iload_n 1, 1) := by decide +kernel
theorem dX6_swaps_12 : decode cX6_swaps 12 = .ok (.aload_n 0, 1) := by decide +kernel
theorem dX6_swaps_13 : decode cX6_swaps 13 = .ok (.getfield 41, 3) := by decide +kernel
theorem dX6_swaps_16 : decode cX6_swaps 16 = .ok (.iload_n 2, 1) := by decide +kernel
theorem dX6_swaps_17 : decode cX6_swaps 17 = .ok (.iaload, 1) := by decide +kernel
theorem dX6_swaps_18 : decode cX6_swaps 18 = .ok (.iastore, 1) := by decide +kernel
theorem dX6_swaps_19 : decode cX6_swaps 19 = .ok (.aload_n 0, 1) := by decide +kernel
theorem dX6_swaps_20 : decode cX6_swaps 20 = .ok (.getfield 41, 3) := by decide +kernel
theorem dX6_swaps_23 : decode cX6_swaps 23 = .ok (.iload_n 2, 1) := by decide +kernel
theorem dX6_swaps_24 : decode cX6_swaps 24 = .ok (.iload_n 3, 1) := by decide +kernel
theorem dX6_swaps_25 : decode cX6_swaps 25 = .ok (.iastore, 1) := by decide +kernel
theorem dX6_swaps_26 : decode cX6_swaps 26 = .ok (.return_, 1) := by decide +kernel
theorem dX6_finds_0 : decode cX6_finds 0 = .ok (.aload_n 0, 1) := by decide +kernel
theorem dX6_finds_1 : decode cX6_finds 1 = .ok (.iconst 0, 1) := by decide +kernel
theorem dX6_finds_2 : decode cX6_finds 2 = .ok (.putfield 69, 3) := by decide +kernel
theorem dX6_finds_5 : decode cX6_finds 5 = .ok (.iconst 0, 1) := by decide +kernel
theorem dX6_finds_6 : decode cX6_finds 6 = .ok (.istore_n 3, 1) := by decide +kernel
theorem dX6_finds_7 : decode cX6_finds 7 = .ok (.iload_n 3, 1) := by decide +kernel
theorem dX6_finds_8 : decode cX6_finds 8 = .ok (.iconst 5, 1) := by decide +kernel
theorem dX6_finds_9 : decode cX6_finds 9 = .ok (.if_icmp .ge 38, 3) := by decide +kernel
theorem dX6_finds_12 : decode cX6_finds 12 = .ok (.iload_n 1, 1) := by decide +kernel
theorem dX6_finds_13 : decode cX6_finds 13 = .ok (.iload_n 3, 1) := by decide +kernel
theorem dX6_finds_14 : decode cX6_finds 14 = .ok (.ishr, 1) := by decide +kernel
theorem dX6_finds_15 : decode cX6_finds 15 = .ok (.iconst 1, 1) := by decide +kernel
theorem dX6_finds_16 : decode cX6_finds 16 = .ok (.iand, 1) := by decide +kernel
theorem dX6_finds_17 : decode cX6_finds 17 = .ok (.iconst 1, 1) := by decide +kernel
theorem dX6_finds_18 : decode cX6_finds 18 = .ok (.if_icmp .ne 23, 3) := by decide +kernel
theorem dX6_finds_21 : decode cX6_finds 21 = .ok (.aload_n 0, 1) := by decide +kernel
theorem dX6_finds_22 : decode cX6_finds 22 = .ok (.getfield 41, 3) := by decide +kernel
theorem dX6_finds_25 : decode cX6_finds 25 = .ok (.aload_n 0, 1) := by decide +kernel
theorem dX6_finds_26 : decode cX6_finds 26 = .ok (.getfield 69, 3) := by decide +kernel
theorem dX6_finds_29 : decode cX6_finds 29 = .ok (.iload_n 3, 1) := by decide +kernel
theorem dX6_finds_30 : decode cX6_finds 30 = .ok (.iastore, 1) := by decide +kernel
theorem dX6_finds_31 : decode cX6_finds 31 = .ok (.aload_n 0, 1) := by decide +kernel
theorem dX6_finds_32 : decode cX6_finds 32 = .ok (.dup, 1) := by decide +kernel
theorem dX6_finds_33 : decode cX6_finds 33 = .ok (.getfield 69, 3) := by decide +kernel
theorem dX6_finds_36 : decode cX6_finds 36 = .ok (.iconst 1, 1) := by decide +kernel
theorem dX6_finds_37 : decode cX6_finds 37 = .ok (.iadd, 1) := by decide +kernel
theorem dX6_finds_38 : decode cX6_finds 38 = .ok (.putfield 69, 3) := by decide +kernel
theorem dX6_finds_41 : decode cX6_finds 41 = .ok (.iinc 3 1, 3) := by decide +kernel
theorem dX6_finds_44 : decode cX6_finds 44 = .ok (.goto (-37), 3) := by decide +kernel
theorem dX6_finds_47 : decode cX6_finds 47 = .ok (.ldc2_w 80, 3) := by decide +kernel
theorem dX6_finds_50 : decode cX6_finds 50 = .ok (.lstore_n 3, 1) := by decide +kernel
theorem dX6_finds_51 : decode cX6_finds 51 = .ok (.iconst 1, 1) := by decide +kernel
theorem dX6_finds_52 : decode cX6_finds 52 = .ok (.istore 5, 2) := by decide +kernel
theorem dX6_finds_54 : decode cX6_finds 54 = .ok (.iload 5, 2) := by decide +kernel
theorem dX6_finds_56 : decode cX6_finds 56 = .ok (.ifCond .eq 67, 3) := by decide +kernel
theorem dX6_finds_59 : decode cX6_finds 59 = .ok (.aload_n 0, 1) := by decide +kernel
theorem dX6_finds_60 : decode cX6_finds 60 = .ok (.iload_n 2, 1) := by decide +kernel
theorem dX6_finds_61 : decode cX6_finds 61 = .ok (.invokevirtual 82, 3) := by decide +kernel
theorem dX6_finds_64 : decode cX6_finds 64 = .ok (.lstore 6, 2) := by decide +kernel
theorem dX6_finds_66 : decode cX6_finds 66 = .ok (.lload_n 3, 1) := by decide +kernel
theorem dX6_finds_67 : decode cX6_finds 67 = .ok (.lconst 0, 1) := by decide +kernel
theorem dX6_finds_68 : decode cX6_finds 68 = .ok (.lcmp, 1) := by decide +kernel
theorem dX6_finds_69 : decode cX6_finds 69 = .ok (.ifCond .lt 10, 3) := by decide +kernel
theorem dX6_finds_72 : decode cX6_finds 72 = .ok (.lload 6, 2) := by decide +kernel
theorem dX6_finds_74 : decode cX6_finds 74 = .ok (.lload_n 3, 1) := by decide +kernel
theorem dX6_finds_75 : decode cX6_finds 75 = .ok (.lcmp, 1) := by decide +kernel
theorem dX6_finds_76 : decode cX6_finds 76 = .ok (.ifCond .ge 38, 3) := by decide +kernel
theorem dX6_finds_79 : decode cX6_finds 79 = .ok (.lload 6, 2) := by decide +kernel
theorem dX6_finds_81 : decode cX6_finds 81 = .ok (.lstore_n 3, 1) := by decide +kernel
theorem dX6_finds_82 : decode cX6_finds 82 = .ok (.iconst 0, 1) := by decide +kernel
theorem dX6_finds_83 : decode cX6_finds 83 = .ok (.istore 8, 2) := by decide +kernel
theorem dX6_finds_85 : decode cX6_finds 85 = .ok (.iload 8, 2) := by decide +kernel
theorem dX6_finds_87 : decode cX6_finds 87 = .ok (.aload_n 0, 1) := by decide +kernel
theorem dX6_finds_88 : decode cX6_finds 88 = .ok (.getfield 69, 3) := by decide +kernel
theorem dX6_finds_91 : decode cX6_finds 91 = .ok (.if_icmp .ge 23, 3) := by decide +kernel
theorem dX6_finds_94 : decode cX6_finds 94 = .ok (.aload_n 0, 1) := by decide +kernel
theorem dX6_finds_95 : decode cX6_finds 95 = .ok (.getfield 44, 3) := by decide +kernel
theorem dX6_finds_98 : decode cX6_finds 98 = .ok (.iload 8, 2) := by decide +kernel
theorem dX6_finds_100 : decode cX6_finds 100 = .ok (.aload_n 0, 1) := by decide +kernel
theorem dX6_finds_101 : decode cX6_finds 101 = .ok (.getfield 41, 3) := by decide +kernel
theorem dX6_finds_104 : decode cX6_finds 104 = .ok (.iload 8, 2) := by decide +kernel
theorem dX6_finds_106 : decode cX6_finds 106 = .ok (.iaload, 1) := by decide +kernel
theorem dX6_finds_107 : decode cX6_finds 107 = .ok (.iastore, 1) := by decide +kernel
theorem dX6_finds_108 : decode cX6_finds 108 = .ok (.iinc 8 1, 3) := by decide +kernel
theorem dX6_finds_111 : decode cX6_finds 111 = .ok (.goto (-26), 3) := by decide +kernel
theorem dX6_finds_114 : decode cX6_finds 114 = .ok (.aload_n 0, 1) := by decide +kernel
theorem dX6_finds_115 : decode cX6_finds 115 = .ok (.invokevirtual 86, 3) := by decide +kernel
theorem dX6_finds_118 : decode cX6_finds 118 = .ok (.istore 5, 2) := by decide +kernel
theorem dX6_finds_120 : decode cX6_finds 120 = .ok (.goto (-66), 3) := by decide +kernel
theorem dX6_finds_123 : decode cX6_finds 123 = .ok (.lload_n 3, 1) := by decide +kernel
theorem dX6_finds_124 : decode cX6_finds 124 = .ok (.lreturn, 1) := by decide +kernel
theorem dX6_findsBySets_0 : decode cX6_findsBySets 0 = .ok (.aload_n 0, 1) := by decide +kernel
theorem dX6_findsBySets_1 : decode cX6_findsBySets 1 = .ok (.getfield 47, 3) := by decide +kernel
theorem dX6_findsBySets_4 : decode cX6_findsBySets 4 = .ok (.iconst 0, 1) := by decide +kernel
theorem dX6_findsBySets_5 : decode cX6_findsBySets 5 = .ok (.lconst 0, 1) := by decide +kernel
theorem dX6_findsBySets_6 : decode cX6_findsBySets 6 = .ok (.lastore, 1) := by decide +kernel
theorem dX6_findsBySets_7 : decode cX6_findsBySets 7 = .ok (.iconst 1, 1) := by decide +kernel
theorem dX6_findsBySets_8 : decode cX6_findsBySets 8 = .ok (.istore_n 3, 1) := by decide +kernel
theorem dX6_findsBySets_9 : decode cX6_findsBySets 9 = .ok (.iload_n 3, 1) := by decide +kernel
theorem dX6_findsBySets_10 : decode cX6_findsBySets 10 = .ok (.iload_n 1, 1) := by decide +kernel
theorem dX6_findsBySets_11 : decode cX6_findsBySets 11 = .ok (.if_icmp .gt 91, 3) := by decide +kernel
theorem dX6_findsBySets_14 : decode cX6_findsBySets 14 = .ok (.ldc2_w 80, 3) := by decide +kernel
theorem dX6_findsBySets_17 : decode cX6_findsBySets 17 = .ok (.lstore 4, 2) := by decide +kernel
theorem dX6_findsBySets_19 : decode cX6_findsBySets 19 = .ok (.iconst 0, 1) := by decide +kernel
theorem dX6_findsBySets_20 : decode cX6_findsBySets 20 = .ok (.istore 6, 2) := by decide +kernel
theorem dX6_findsBySets_22 : decode cX6_findsBySets 22 = .ok (.iload 6, 2) := by decide +kernel
theorem dX6_findsBySets_24 : decode cX6_findsBySets 24 = .ok (.iconst 5, 1) := by decide +kernel
theorem dX6_findsBySets_25 : decode cX6_findsBySets 25 = .ok (.if_icmp .ge 56, 3) := by decide +kernel
theorem dX6_findsBySets_28 : decode cX6_findsBySets 28 = .ok (.iload_n 3, 1) := by decide +kernel
theorem dX6_findsBySets_29 : decode cX6_findsBySets 29 = .ok (.iload 6, 2) := by decide +kernel
theorem dX6_findsBySets_31 : decode cX6_findsBySets 31 = .ok (.ishr, 1) := by decide +kernel
theorem dX6_findsBySets_32 : decode cX6_findsBySets 32 = .ok (.iconst 1, 1) := by decide +kernel
theorem dX6_findsBySets_33 : decode cX6_findsBySets 33 = .ok (.iand, 1) := by decide +kernel
theorem dX6_findsBySets_34 : decode cX6_findsBySets 34 = .ok (.iconst 1, 1) := by decide +kernel
theorem dX6_findsBySets_35 : decode cX6_findsBySets 35 = .ok (.if_icmp .ne 40, 3) := by decide +kernel
theorem dX6_findsBySets_38 : decode cX6_findsBySets 38 = .ok (.aload_n 0, 1) := by decide +kernel
theorem dX6_findsBySets_39 : decode cX6_findsBySets 39 = .ok (.getfield 47, 3) := by decide +kernel
theorem dX6_findsBySets_42 : decode cX6_findsBySets 42 = .ok (.iload_n 3, 1) := by decide +kernel
theorem dX6_findsBySets_43 : decode cX6_findsBySets 43 = .ok (.iconst 1, 1) := by decide +kernel
theorem dX6_findsBySets_44 : decode cX6_findsBySets 44 = .ok (.iload 6, 2) := by decide +kernel
theorem dX6_findsBySets_46 : decode cX6_findsBySets 46 = .ok (.ishl, 1) := by decide +kernel
theorem dX6_findsBySets_47 : decode cX6_findsBySets 47 = .ok (.isub, 1) := by decide +kernel
theorem dX6_findsBySets_48 : decode cX6_findsBySets 48 = .ok (.laload, 1) := by decide +kernel
theorem dX6_findsBySets_49 : decode cX6_findsBySets 49 = .ok (.lstore 7, 2) := by decide +kernel
theorem dX6_findsBySets_51 : decode cX6_findsBySets 51 = .ok (.lload 4, 2) := by decide +kernel
theorem dX6_findsBySets_53 : decode cX6_findsBySets 53 = .ok (.lconst 0, 1) := by decide +kernel
theorem dX6_findsBySets_54 : decode cX6_findsBySets 54 = .ok (.lcmp, 1) := by decide +kernel
theorem dX6_findsBySets_55 : decode cX6_findsBySets 55 = .ok (.ifCond .lt 11, 3) := by decide +kernel
theorem dX6_findsBySets_58 : decode cX6_findsBySets 58 = .ok (.lload 7, 2) := by decide +kernel
theorem dX6_findsBySets_60 : decode cX6_findsBySets 60 = .ok (.lload 4, 2) := by decide +kernel
theorem dX6_findsBySets_62 : decode cX6_findsBySets 62 = .ok (.lcmp, 1) := by decide +kernel
theorem dX6_findsBySets_63 : decode cX6_findsBySets 63 = .ok (.ifCond .ge 8, 3) := by decide +kernel
theorem dX6_findsBySets_66 : decode cX6_findsBySets 66 = .ok (.lload 7, 2) := by decide +kernel
theorem dX6_findsBySets_68 : decode cX6_findsBySets 68 = .ok (.goto 5, 3) := by decide +kernel
theorem dX6_findsBySets_71 : decode cX6_findsBySets 71 = .ok (.lload 4, 2) := by decide +kernel
theorem dX6_findsBySets_73 : decode cX6_findsBySets 73 = .ok (.lstore 4, 2) := by decide +kernel
theorem dX6_findsBySets_75 : decode cX6_findsBySets 75 = .ok (.iinc 6 1, 3) := by decide +kernel
theorem dX6_findsBySets_78 : decode cX6_findsBySets 78 = .ok (.goto (-56), 3) := by decide +kernel
theorem dX6_findsBySets_81 : decode cX6_findsBySets 81 = .ok (.aload_n 0, 1) := by decide +kernel
theorem dX6_findsBySets_82 : decode cX6_findsBySets 82 = .ok (.getfield 47, 3) := by decide +kernel
theorem dX6_findsBySets_85 : decode cX6_findsBySets 85 = .ok (.iload_n 3, 1) := by decide +kernel
theorem dX6_findsBySets_86 : decode cX6_findsBySets 86 = .ok (.lload 4, 2) := by decide +kernel
theorem dX6_findsBySets_88 : decode cX6_findsBySets 88 = .ok (.aload_n 0, 1) := by decide +kernel
theorem dX6_findsBySets_89 : decode cX6_findsBySets 89 = .ok (.iload_n 3, 1) := by decide +kernel
theorem dX6_findsBySets_90 : decode cX6_findsBySets 90 = .ok (.iload_n 2, 1) := by decide +kernel
theorem dX6_findsBySets_91 : decode cX6_findsBySets 91 = .ok (.invokevirtual 72, 3) := by decide +kernel
theorem dX6_findsBySets_94 : decode cX6_findsBySets 94 = .ok (.ladd, 1) := by decide +kernel
theorem dX6_findsBySets_95 : decode cX6_findsBySets 95 = .ok (.lastore, 1) := by decide +kernel
theorem dX6_findsBySets_96 : decode cX6_findsBySets 96 = .ok (.iinc 3 1, 3) := by decide +kernel
theorem dX6_findsBySets_99 : decode cX6_findsBySets 99 = .ok (.goto (-90), 3) := by decide +kernel
theorem dX6_findsBySets_102 : decode cX6_findsBySets 102 = .ok (.aload_n 0, 1) := by decide +kernel
theorem dX6_findsBySets_103 : decode cX6_findsBySets 103 = .ok (.getfield 47, 3) := by decide +kernel
theorem dX6_findsBySets_106 : decode cX6_findsBySets 106 = .ok (.iload_n 1, 1) := by decide +kernel
theorem dX6_findsBySets_107 : decode cX6_findsBySets 107 = .ok (.laload, 1) := by decide +kernel
theorem dX6_findsBySets_108 : decode cX6_findsBySets 108 = .ok (.lreturn, 1) := by decide +kernel
theorem dX6_at_0 : decode cX6_at 0 = .ok (.bipush 36, 2) := by decide +kernel
theorem dX6_at_2 : decode cX6_at 2 = .ok (.bipush 14, 2) := by decide +kernel
theorem dX6_at_4 : decode cX6_at 4 = .ok (.iload_n 0, 1) := by decide +kernel
theorem dX6_at_5 : decode cX6_at 5 = .ok (.imul, 1) := by decide +kernel
theorem dX6_at_6 : decode cX6_at 6 = .ok (.iadd, 1) := by decide +kernel
theorem dX6_at_7 : decode cX6_at 7 = .ok (.ireturn, 1) := by decide +kernel
theorem dX6_slotOf_0 : decode cX6_slotOf 0 = .ok (.iconst 0, 1) := by decide +kernel
theorem dX6_slotOf_1 : decode cX6_slotOf 1 = .ok (.istore_n 2, 1) := by decide +kernel
theorem dX6_slotOf_2 : decode cX6_slotOf 2 = .ok (.iload_n 2, 1) := by decide +kernel
theorem dX6_slotOf_3 : decode cX6_slotOf 3 = .ok (.iconst 4, 1) := by decide +kernel
theorem dX6_slotOf_4 : decode cX6_slotOf 4 = .ok (.if_icmp .ge 24, 3) := by decide +kernel
theorem dX6_slotOf_7 : decode cX6_slotOf 7 = .ok (.aload_n 0, 1) := by decide +kernel
theorem dX6_slotOf_8 : decode cX6_slotOf 8 = .ok (.getfield 7, 3) := by decide +kernel
theorem dX6_slotOf_11 : decode cX6_slotOf 11 = .ok (.iload_n 2, 1) := by decide +kernel
theorem dX6_slotOf_12 : decode cX6_slotOf 12 = .ok (.invokestatic 90, 3) := by decide +kernel
theorem dX6_slotOf_15 : decode cX6_slotOf 15 = .ok (.iaload, 1) := by decide +kernel
theorem dX6_slotOf_16 : decode cX6_slotOf 16 = .ok (.iload_n 1, 1) := by decide +kernel
theorem dX6_slotOf_17 : decode cX6_slotOf 17 = .ok (.if_icmp .ne 5, 3) := by decide +kernel
theorem dX6_slotOf_20 : decode cX6_slotOf 20 = .ok (.iload_n 2, 1) := by decide +kernel
theorem dX6_slotOf_21 : decode cX6_slotOf 21 = .ok (.ireturn, 1) := by decide +kernel
theorem dX6_slotOf_22 : decode cX6_slotOf 22 = .ok (.iinc 2 1, 3) := by decide +kernel
theorem dX6_slotOf_25 : decode cX6_slotOf 25 = .ok (.goto (-23), 3) := by decide +kernel
theorem dX6_slotOf_28 : decode cX6_slotOf 28 = .ok (.bipush (-4), 2) := by decide +kernel
theorem dX6_slotOf_30 : decode cX6_slotOf 30 = .ok (.ireturn, 1) := by decide +kernel
theorem dX6_tablesIn_0 : decode cX6_tablesIn 0 = .ok (.iconst 0, 1) := by decide +kernel
theorem dX6_tablesIn_1 : decode cX6_tablesIn 1 = .ok (.istore_n 1, 1) := by decide +kernel
theorem dX6_tablesIn_2 : decode cX6_tablesIn 2 = .ok (.iconst 0, 1) := by decide +kernel
theorem dX6_tablesIn_3 : decode cX6_tablesIn 3 = .ok (.istore_n 2, 1) := by decide +kernel
theorem dX6_tablesIn_4 : decode cX6_tablesIn 4 = .ok (.iload_n 2, 1) := by decide +kernel
theorem dX6_tablesIn_5 : decode cX6_tablesIn 5 = .ok (.iconst 5, 1) := by decide +kernel
theorem dX6_tablesIn_6 : decode cX6_tablesIn 6 = .ok (.if_icmp .ge 17, 3) := by decide +kernel
theorem dX6_tablesIn_9 : decode cX6_tablesIn 9 = .ok (.iload_n 1, 1) := by decide +kernel
theorem dX6_tablesIn_10 : decode cX6_tablesIn 10 = .ok (.iload_n 0, 1) := by decide +kernel
theorem dX6_tablesIn_11 : decode cX6_tablesIn 11 = .ok (.iload_n 2, 1) := by decide +kernel
theorem dX6_tablesIn_12 : decode cX6_tablesIn 12 = .ok (.ishr, 1) := by decide +kernel
theorem dX6_tablesIn_13 : decode cX6_tablesIn 13 = .ok (.iconst 1, 1) := by decide +kernel
theorem dX6_tablesIn_14 : decode cX6_tablesIn 14 = .ok (.iand, 1) := by decide +kernel
theorem dX6_tablesIn_15 : decode cX6_tablesIn 15 = .ok (.iadd, 1) := by decide +kernel
theorem dX6_tablesIn_16 : decode cX6_tablesIn 16 = .ok (.istore_n 1, 1) := by decide +kernel
theorem dX6_tablesIn_17 : decode cX6_tablesIn 17 = .ok (.iinc 2 1, 3) := by decide +kernel
theorem dX6_tablesIn_20 : decode cX6_tablesIn 20 = .ok (.goto (-16), 3) := by decide +kernel
theorem dX6_tablesIn_23 : decode cX6_tablesIn 23 = .ok (.iload_n 1, 1) := by decide +kernel
theorem dX6_tablesIn_24 : decode cX6_tablesIn 24 = .ok (.ireturn, 1) := by decide +kernel
theorem dX6_costAt_0 : decode cX6_costAt 0 = .ok (.aload_n 0, 1) := by decide +kernel
theorem dX6_costAt_1 : decode cX6_costAt 1 = .ok (.aload_n 0, 1) := by decide +kernel
theorem dX6_costAt_2 : decode cX6_costAt 2 = .ok (.getfield 7, 3) := by decide +kernel
theorem dX6_costAt_5 : decode cX6_costAt 5 = .ok (.iload_n 1, 1) := by decide +kernel
theorem dX6_costAt_6 : decode cX6_costAt 6 = .ok (.invokestatic 90, 3) := by decide +kernel
theorem dX6_costAt_9 : decode cX6_costAt 9 = .ok (.iaload, 1) := by decide +kernel
theorem dX6_costAt_10 : decode cX6_costAt 10 = .ok (.invokestatic 94, 3) := by decide +kernel
theorem dX6_costAt_13 : decode cX6_costAt 13 = .ok (.putfield 69, 3) := by decide +kernel
theorem dX6_costAt_16 : decode cX6_costAt 16 = .ok (.iconst 0, 1) := by decide +kernel
theorem dX6_costAt_17 : decode cX6_costAt 17 = .ok (.istore_n 3, 1) := by decide +kernel
theorem dX6_costAt_18 : decode cX6_costAt 18 = .ok (.iload_n 3, 1) := by decide +kernel
theorem dX6_costAt_19 : decode cX6_costAt 19 = .ok (.aload_n 0, 1) := by decide +kernel
theorem dX6_costAt_20 : decode cX6_costAt 20 = .ok (.getfield 69, 3) := by decide +kernel
theorem dX6_costAt_23 : decode cX6_costAt 23 = .ok (.if_icmp .ge 28, 3) := by decide +kernel
theorem dX6_costAt_26 : decode cX6_costAt 26 = .ok (.aload_n 0, 1) := by decide +kernel
theorem dX6_costAt_27 : decode cX6_costAt 27 = .ok (.getfield 41, 3) := by decide +kernel
theorem dX6_costAt_30 : decode cX6_costAt 30 = .ok (.iload_n 3, 1) := by decide +kernel
theorem dX6_costAt_31 : decode cX6_costAt 31 = .ok (.aload_n 0, 1) := by decide +kernel
theorem dX6_costAt_32 : decode cX6_costAt 32 = .ok (.getfield 7, 3) := by decide +kernel
theorem dX6_costAt_35 : decode cX6_costAt 35 = .ok (.iload_n 1, 1) := by decide +kernel
theorem dX6_costAt_36 : decode cX6_costAt 36 = .ok (.invokestatic 90, 3) := by decide +kernel
theorem dX6_costAt_39 : decode cX6_costAt 39 = .ok (.iconst 1, 1) := by decide +kernel
theorem dX6_costAt_40 : decode cX6_costAt 40 = .ok (.iadd, 1) := by decide +kernel
theorem dX6_costAt_41 : decode cX6_costAt 41 = .ok (.iload_n 3, 1) := by decide +kernel
theorem dX6_costAt_42 : decode cX6_costAt 42 = .ok (.iadd, 1) := by decide +kernel
theorem dX6_costAt_43 : decode cX6_costAt 43 = .ok (.iaload, 1) := by decide +kernel
theorem dX6_costAt_44 : decode cX6_costAt 44 = .ok (.iastore, 1) := by decide +kernel
theorem dX6_costAt_45 : decode cX6_costAt 45 = .ok (.iinc 3 1, 3) := by decide +kernel
theorem dX6_costAt_48 : decode cX6_costAt 48 = .ok (.goto (-30), 3) := by decide +kernel
theorem dX6_costAt_51 : decode cX6_costAt 51 = .ok (.aload_n 0, 1) := by decide +kernel
theorem dX6_costAt_52 : decode cX6_costAt 52 = .ok (.iload_n 2, 1) := by decide +kernel
theorem dX6_costAt_53 : decode cX6_costAt 53 = .ok (.invokevirtual 82, 3) := by decide +kernel
theorem dX6_costAt_56 : decode cX6_costAt 56 = .ok (.lreturn, 1) := by decide +kernel
theorem dX6_hasDrifted_0 : decode cX6_hasDrifted 0 = .ok (.iconst 0, 1) := by decide +kernel
theorem dX6_hasDrifted_1 : decode cX6_hasDrifted 1 = .ok (.istore_n 3, 1) := by decide +kernel
theorem dX6_hasDrifted_2 : decode cX6_hasDrifted 2 = .ok (.iconst 0, 1) := by decide +kernel
theorem dX6_hasDrifted_3 : decode cX6_hasDrifted 3 = .ok (.istore 4, 2) := by decide +kernel
theorem dX6_hasDrifted_5 : decode cX6_hasDrifted 5 = .ok (.iload 4, 2) := by decide +kernel
theorem dX6_hasDrifted_7 : decode cX6_hasDrifted 7 = .ok (.iconst 5, 1) := by decide +kernel
theorem dX6_hasDrifted_8 : decode cX6_hasDrifted 8 = .ok (.if_icmp .ge 109, 3) := by decide +kernel
theorem dX6_hasDrifted_11 : decode cX6_hasDrifted 11 = .ok (.aload_n 0, 1) := by decide +kernel
theorem dX6_hasDrifted_12 : decode cX6_hasDrifted 12 = .ok (.getfield 7, 3) := by decide +kernel
theorem dX6_hasDrifted_15 : decode cX6_hasDrifted 15 = .ok (.iconst 5, 1) := by decide +kernel
theorem dX6_hasDrifted_16 : decode cX6_hasDrifted 16 = .ok (.iload 4, 2) := by decide +kernel
theorem dX6_hasDrifted_18 : decode cX6_hasDrifted 18 = .ok (.iadd, 1) := by decide +kernel
theorem dX6_hasDrifted_19 : decode cX6_hasDrifted 19 = .ok (.iaload, 1) := by decide +kernel
theorem dX6_hasDrifted_20 : decode cX6_hasDrifted 20 = .ok (.istore 5, 2) := by decide +kernel
theorem dX6_hasDrifted_22 : decode cX6_hasDrifted 22 = .ok (.aload_n 0, 1) := by decide +kernel
theorem dX6_hasDrifted_23 : decode cX6_hasDrifted 23 = .ok (.getfield 7, 3) := by decide +kernel
theorem dX6_hasDrifted_26 : decode cX6_hasDrifted 26 = .ok (.iload_n 1, 1) := by decide +kernel
theorem dX6_hasDrifted_27 : decode cX6_hasDrifted 27 = .ok (.invokestatic 90, 3) := by decide +kernel
theorem dX6_hasDrifted_30 : decode cX6_hasDrifted 30 = .ok (.bipush 6, 2) := by decide +kernel
theorem dX6_hasDrifted_32 : decode cX6_hasDrifted 32 = .ok (.iadd, 1) := by decide +kernel
theorem dX6_hasDrifted_33 : decode cX6_hasDrifted 33 = .ok (.iload 4, 2) := by decide +kernel
theorem dX6_hasDrifted_35 : decode cX6_hasDrifted 35 = .ok (.iadd, 1) := by decide +kernel
theorem dX6_hasDrifted_36 : decode cX6_hasDrifted 36 = .ok (.iaload, 1) := by decide +kernel
theorem dX6_hasDrifted_37 : decode cX6_hasDrifted 37 = .ok (.istore 6, 2) := by decide +kernel
theorem dX6_hasDrifted_39 : decode cX6_hasDrifted 39 = .ok (.iload 5, 2) := by decide +kernel
theorem dX6_hasDrifted_41 : decode cX6_hasDrifted 41 = .ok (.iload 6, 2) := by decide +kernel
theorem dX6_hasDrifted_43 : decode cX6_hasDrifted 43 = .ok (.if_icmp .ge 8, 3) := by decide +kernel
theorem dX6_hasDrifted_46 : decode cX6_hasDrifted 46 = .ok (.iload 5, 2) := by decide +kernel
theorem dX6_hasDrifted_48 : decode cX6_hasDrifted 48 = .ok (.goto 5, 3) := by decide +kernel
theorem dX6_hasDrifted_51 : decode cX6_hasDrifted 51 = .ok (.iload 6, 2) := by decide +kernel
theorem dX6_hasDrifted_53 : decode cX6_hasDrifted 53 = .ok (.istore 7, 2) := by decide +kernel
theorem dX6_hasDrifted_55 : decode cX6_hasDrifted 55 = .ok (.iload 5, 2) := by decide +kernel
theorem dX6_hasDrifted_57 : decode cX6_hasDrifted 57 = .ok (.iload 6, 2) := by decide +kernel
theorem dX6_hasDrifted_59 : decode cX6_hasDrifted 59 = .ok (.if_icmp .ge 8, 3) := by decide +kernel
theorem dX6_hasDrifted_62 : decode cX6_hasDrifted 62 = .ok (.iload 6, 2) := by decide +kernel
theorem dX6_hasDrifted_64 : decode cX6_hasDrifted 64 = .ok (.goto 5, 3) := by decide +kernel
theorem dX6_hasDrifted_67 : decode cX6_hasDrifted 67 = .ok (.iload 5, 2) := by decide +kernel
theorem dX6_hasDrifted_69 : decode cX6_hasDrifted 69 = .ok (.istore 8, 2) := by decide +kernel
theorem dX6_hasDrifted_71 : decode cX6_hasDrifted 71 = .ok (.iload_n 3, 1) := by decide +kernel
theorem dX6_hasDrifted_72 : decode cX6_hasDrifted 72 = .ok (.ifCond .ne 33, 3) := by decide +kernel
theorem dX6_hasDrifted_75 : decode cX6_hasDrifted 75 = .ok (.aload_n 0, 1) := by decide +kernel
theorem dX6_hasDrifted_76 : decode cX6_hasDrifted 76 = .ok (.getfield 7, 3) := by decide +kernel
theorem dX6_hasDrifted_79 : decode cX6_hasDrifted 79 = .ok (.iload_n 1, 1) := by decide +kernel
theorem dX6_hasDrifted_80 : decode cX6_hasDrifted 80 = .ok (.invokestatic 90, 3) := by decide +kernel
theorem dX6_hasDrifted_83 : decode cX6_hasDrifted 83 = .ok (.iaload, 1) := by decide +kernel
theorem dX6_hasDrifted_84 : decode cX6_hasDrifted 84 = .ok (.iload 4, 2) := by decide +kernel
theorem dX6_hasDrifted_86 : decode cX6_hasDrifted 86 = .ok (.ishr, 1) := by decide +kernel
theorem dX6_hasDrifted_87 : decode cX6_hasDrifted 87 = .ok (.iconst 1, 1) := by decide +kernel
theorem dX6_hasDrifted_88 : decode cX6_hasDrifted 88 = .ok (.iand, 1) := by decide +kernel
theorem dX6_hasDrifted_89 : decode cX6_hasDrifted 89 = .ok (.iconst 1, 1) := by decide +kernel
theorem dX6_hasDrifted_90 : decode cX6_hasDrifted 90 = .ok (.if_icmp .ne 19, 3) := by decide +kernel
theorem dX6_hasDrifted_93 : decode cX6_hasDrifted 93 = .ok (.iload 8, 2) := by decide +kernel
theorem dX6_hasDrifted_95 : decode cX6_hasDrifted 95 = .ok (.bipush 100, 2) := by decide +kernel
theorem dX6_hasDrifted_97 : decode cX6_hasDrifted 97 = .ok (.imul, 1) := by decide +kernel
theorem dX6_hasDrifted_98 : decode cX6_hasDrifted 98 = .ok (.iload 7, 2) := by decide +kernel
theorem dX6_hasDrifted_100 : decode cX6_hasDrifted 100 = .ok (.iload_n 2, 1) := by decide +kernel
theorem dX6_hasDrifted_101 : decode cX6_hasDrifted 101 = .ok (.imul, 1) := by decide +kernel
theorem dX6_hasDrifted_102 : decode cX6_hasDrifted 102 = .ok (.if_icmp .le 7, 3) := by decide +kernel
theorem dX6_hasDrifted_105 : decode cX6_hasDrifted 105 = .ok (.iconst 1, 1) := by decide +kernel
theorem dX6_hasDrifted_106 : decode cX6_hasDrifted 106 = .ok (.goto 4, 3) := by decide +kernel
theorem dX6_hasDrifted_109 : decode cX6_hasDrifted 109 = .ok (.iconst 0, 1) := by decide +kernel
theorem dX6_hasDrifted_110 : decode cX6_hasDrifted 110 = .ok (.istore_n 3, 1) := by decide +kernel
theorem dX6_hasDrifted_111 : decode cX6_hasDrifted 111 = .ok (.iinc 4 1, 3) := by decide +kernel
theorem dX6_hasDrifted_114 : decode cX6_hasDrifted 114 = .ok (.goto (-109), 3) := by decide +kernel
theorem dX6_hasDrifted_117 : decode cX6_hasDrifted 117 = .ok (.iload_n 3, 1) := by decide +kernel
theorem dX6_hasDrifted_118 : decode cX6_hasDrifted 118 = .ok (.ireturn, 1) := by decide +kernel
theorem dX6_isLoose_0 : decode cX6_isLoose 0 = .ok (.aload_n 0, 1) := by decide +kernel
theorem dX6_isLoose_1 : decode cX6_isLoose 1 = .ok (.getfield 7, 3) := by decide +kernel
theorem dX6_isLoose_4 : decode cX6_isLoose 4 = .ok (.iload_n 1, 1) := by decide +kernel
theorem dX6_isLoose_5 : decode cX6_isLoose 5 = .ok (.invokestatic 90, 3) := by decide +kernel
theorem dX6_isLoose_8 : decode cX6_isLoose 8 = .ok (.iaload, 1) := by decide +kernel
theorem dX6_isLoose_9 : decode cX6_isLoose 9 = .ok (.ifCond .le 22, 3) := by decide +kernel
theorem dX6_isLoose_12 : decode cX6_isLoose 12 = .ok (.aload_n 0, 1) := by decide +kernel
theorem dX6_isLoose_13 : decode cX6_isLoose 13 = .ok (.getfield 7, 3) := by decide +kernel
theorem dX6_isLoose_16 : decode cX6_isLoose 16 = .ok (.iload_n 1, 1) := by decide +kernel
theorem dX6_isLoose_17 : decode cX6_isLoose 17 = .ok (.invokestatic 90, 3) := by decide +kernel
theorem dX6_isLoose_20 : decode cX6_isLoose 20 = .ok (.bipush 13, 2) := by decide +kernel
theorem dX6_isLoose_22 : decode cX6_isLoose 22 = .ok (.iadd, 1) := by decide +kernel
theorem dX6_isLoose_23 : decode cX6_isLoose 23 = .ok (.iaload, 1) := by decide +kernel
theorem dX6_isLoose_24 : decode cX6_isLoose 24 = .ok (.ifCond .ne 7, 3) := by decide +kernel
theorem dX6_isLoose_27 : decode cX6_isLoose 27 = .ok (.iconst 1, 1) := by decide +kernel
theorem dX6_isLoose_28 : decode cX6_isLoose 28 = .ok (.goto 4, 3) := by decide +kernel
theorem dX6_isLoose_31 : decode cX6_isLoose 31 = .ok (.iconst 0, 1) := by decide +kernel
theorem dX6_isLoose_32 : decode cX6_isLoose 32 = .ok (.ireturn, 1) := by decide +kernel
theorem dX6_empties_0 : decode cX6_empties 0 = .ok (.iconst 0, 1) := by decide +kernel
theorem dX6_empties_1 : decode cX6_empties 1 = .ok (.istore_n 2, 1) := by decide +kernel
theorem dX6_empties_2 : decode cX6_empties 2 = .ok (.iload_n 2, 1) := by decide +kernel
theorem dX6_empties_3 : decode cX6_empties 3 = .ok (.bipush 14, 2) := by decide +kernel
theorem dX6_empties_5 : decode cX6_empties 5 = .ok (.if_icmp .ge 21, 3) := by decide +kernel
theorem dX6_empties_8 : decode cX6_empties 8 = .ok (.aload_n 0, 1) := by decide +kernel
theorem dX6_empties_9 : decode cX6_empties 9 = .ok (.getfield 7, 3) := by decide +kernel
theorem dX6_empties_12 : decode cX6_empties 12 = .ok (.iload_n 1, 1) := by decide +kernel
theorem dX6_empties_13 : decode cX6_empties 13 = .ok (.invokestatic 90, 3) := by decide +kernel
theorem dX6_empties_16 : decode cX6_empties 16 = .ok (.iload_n 2, 1) := by decide +kernel
theorem dX6_empties_17 : decode cX6_empties 17 = .ok (.iadd, 1) := by decide +kernel
theorem dX6_empties_18 : decode cX6_empties 18 = .ok (.iconst 0, 1) := by decide +kernel
theorem dX6_empties_19 : decode cX6_empties 19 = .ok (.iastore, 1) := by decide +kernel
theorem dX6_empties_20 : decode cX6_empties 20 = .ok (.iinc 2 1, 3) := by decide +kernel
theorem dX6_empties_23 : decode cX6_empties 23 = .ok (.goto (-21), 3) := by decide +kernel
theorem dX6_empties_26 : decode cX6_empties 26 = .ok (.return_, 1) := by decide +kernel
theorem dX6_throwsOut_0 : decode cX6_throwsOut 0 = .ok (.iconst 0, 1) := by decide +kernel
theorem dX6_throwsOut_1 : decode cX6_throwsOut 1 = .ok (.istore_n 1, 1) := by decide +kernel
theorem dX6_throwsOut_2 : decode cX6_throwsOut 2 = .ok (.iconst 0, 1) := by decide +kernel
theorem dX6_throwsOut_3 : decode cX6_throwsOut 3 = .ok (.istore_n 2, 1) := by decide +kernel
theorem dX6_throwsOut_4 : decode cX6_throwsOut 4 = .ok (.iload_n 2, 1) := by decide +kernel
theorem dX6_throwsOut_5 : decode cX6_throwsOut 5 = .ok (.iconst 4, 1) := by decide +kernel
theorem dX6_throwsOut_6 : decode cX6_throwsOut 6 = .ok (.if_icmp .ge 40, 3) := by decide +kernel
theorem dX6_throwsOut_9 : decode cX6_throwsOut 9 = .ok (.aload_n 0, 1) := by decide +kernel
theorem dX6_throwsOut_10 : decode cX6_throwsOut 10 = .ok (.iload_n 2, 1) := by decide +kernel
theorem dX6_throwsOut_11 : decode cX6_throwsOut 11 = .ok (.invokevirtual 97, 3) := by decide +kernel
theorem dX6_throwsOut_14 : decode cX6_throwsOut 14 = .ok (.ifCond .eq 26, 3) := by decide +kernel
theorem dX6_throwsOut_17 : decode cX6_throwsOut 17 = .ok (.aload_n 0, 1) := by decide +kernel
theorem dX6_throwsOut_18 : decode cX6_throwsOut 18 = .ok (.iload_n 2, 1) := by decide +kernel
theorem dX6_throwsOut_19 : decode cX6_throwsOut 19 = .ok (.aload_n 0, 1) := by decide +kernel
theorem dX6_throwsOut_20 : decode cX6_throwsOut 20 = .ok (.getfield 7, 3) := by decide +kernel
theorem dX6_throwsOut_23 : decode cX6_throwsOut 23 = .ok (.bipush 35, 2) := by decide +kernel
theorem dX6_throwsOut_25 : decode cX6_throwsOut 25 = .ok (.iaload, 1) := by decide +kernel
theorem dX6_throwsOut_26 : decode cX6_throwsOut 26 = .ok (.invokevirtual 101, 3) := by decide +kernel
theorem dX6_throwsOut_29 : decode cX6_throwsOut 29 = .ok (.ifCond .eq 11, 3) := by decide +kernel
theorem dX6_throwsOut_32 : decode cX6_throwsOut 32 = .ok (.aload_n 0, 1) := by decide +kernel
theorem dX6_throwsOut_33 : decode cX6_throwsOut 33 = .ok (.iload_n 2, 1) := by decide +kernel
theorem dX6_throwsOut_34 : decode cX6_throwsOut 34 = .ok (.invokevirtual 105, 3) := by decide +kernel
theorem dX6_throwsOut_37 : decode cX6_throwsOut 37 = .ok (.iinc 1 1, 3) := by decide +kernel
theorem dX6_throwsOut_40 : decode cX6_throwsOut 40 = .ok (.iinc 2 1, 3) := by decide +kernel
theorem dX6_throwsOut_43 : decode cX6_throwsOut 43 = .ok (.goto (-39), 3) := by decide +kernel
theorem dX6_throwsOut_46 : decode cX6_throwsOut 46 = .ok (.aload_n 0, 1) := by decide +kernel
theorem dX6_throwsOut_47 : decode cX6_throwsOut 47 = .ok (.getfield 7, 3) := by decide +kernel
theorem dX6_throwsOut_50 : decode cX6_throwsOut 50 = .ok (.bipush 95, 2) := by decide +kernel
theorem dX6_throwsOut_52 : decode cX6_throwsOut 52 = .ok (.dup2, 1) := by decide +kernel
theorem dX6_throwsOut_53 : decode cX6_throwsOut 53 = .ok (.iaload, 1) := by decide +kernel
theorem dX6_throwsOut_54 : decode cX6_throwsOut 54 = .ok (.iload_n 1, 1) := by decide +kernel
theorem dX6_throwsOut_55 : decode cX6_throwsOut 55 = .ok (.iadd, 1) := by decide +kernel
theorem dX6_throwsOut_56 : decode cX6_throwsOut 56 = .ok (.iastore, 1) := by decide +kernel
theorem dX6_throwsOut_57 : decode cX6_throwsOut 57 = .ok (.iload_n 1, 1) := by decide +kernel
theorem dX6_throwsOut_58 : decode cX6_throwsOut 58 = .ok (.ireturn, 1) := by decide +kernel
theorem dX6_counts_0 : decode cX6_counts 0 = .ok (.aload_n 0, 1) := by decide +kernel
theorem dX6_counts_1 : decode cX6_counts 1 = .ok (.getfield 7, 3) := by decide +kernel
theorem dX6_counts_4 : decode cX6_counts 4 = .ok (.iconst 5, 1) := by decide +kernel
theorem dX6_counts_5 : decode cX6_counts 5 = .ok (.iload_n 1, 1) := by decide +kernel
theorem dX6_counts_6 : decode cX6_counts 6 = .ok (.iadd, 1) := by decide +kernel
theorem dX6_counts_7 : decode cX6_counts 7 = .ok (.aload_n 0, 1) := by decide +kernel
theorem dX6_counts_8 : decode cX6_counts 8 = .ok (.getfield 7, 3) := by decide +kernel
theorem dX6_counts_11 : decode cX6_counts 11 = .ok (.iconst 0, 1) := by decide +kernel
theorem dX6_counts_12 : decode cX6_counts 12 = .ok (.iload_n 1, 1) := by decide +kernel
theorem dX6_counts_13 : decode cX6_counts 13 = .ok (.iadd, 1) := by decide +kernel
theorem dX6_counts_14 : decode cX6_counts 14 = .ok (.iaload, 1) := by decide +kernel
theorem dX6_counts_15 : decode cX6_counts 15 = .ok (.iastore, 1) := by decide +kernel
theorem dX6_counts_16 : decode cX6_counts 16 = .ok (.aload_n 0, 1) := by decide +kernel
theorem dX6_counts_17 : decode cX6_counts 17 = .ok (.invokevirtual 109, 3) := by decide +kernel
theorem dX6_counts_20 : decode cX6_counts 20 = .ok (.ireturn, 1) := by decide +kernel
theorem dX6_rows_0 : decode cX6_rows 0 = .ok (.iload_n 1, 1) := by decide +kernel
theorem dX6_rows_1 : decode cX6_rows 1 = .ok (.invokestatic 113, 3) := by decide +kernel
theorem dX6_rows_4 : decode cX6_rows 4 = .ok (.ifCond .eq 14, 3) := by decide +kernel
theorem dX6_rows_7 : decode cX6_rows 7 = .ok (.iload_n 2, 1) := by decide +kernel
theorem dX6_rows_8 : decode cX6_rows 8 = .ok (.iconst 1, 1) := by decide +kernel
theorem dX6_rows_9 : decode cX6_rows 9 = .ok (.sipush 500, 3) := by decide +kernel
theorem dX6_rows_12 : decode cX6_rows 12 = .ok (.invokestatic 63, 3) := by decide +kernel
theorem dX6_rows_15 : decode cX6_rows 15 = .ok (.ifCond .ne 5, 3) := by decide +kernel
theorem dX6_rows_18 : decode cX6_rows 18 = .ok (.iconst (-1), 1) := by decide +kernel
theorem dX6_rows_19 : decode cX6_rows 19 = .ok (.ireturn, 1) := by decide +kernel
theorem dX6_rows_20 : decode cX6_rows 20 = .ok (.aload_n 0, 1) := by decide +kernel
theorem dX6_rows_21 : decode cX6_rows 21 = .ok (.invokevirtual 116, 3) := by decide +kernel
theorem dX6_rows_24 : decode cX6_rows 24 = .ok (.aload_n 0, 1) := by decide +kernel
theorem dX6_rows_25 : decode cX6_rows 25 = .ok (.getfield 7, 3) := by decide +kernel
theorem dX6_rows_28 : decode cX6_rows 28 = .ok (.iconst 0, 1) := by decide +kernel
theorem dX6_rows_29 : decode cX6_rows 29 = .ok (.iload_n 1, 1) := by decide +kernel
theorem dX6_rows_30 : decode cX6_rows 30 = .ok (.iadd, 1) := by decide +kernel
theorem dX6_rows_31 : decode cX6_rows 31 = .ok (.iaload, 1) := by decide +kernel
theorem dX6_rows_32 : decode cX6_rows 32 = .ok (.istore_n 3, 1) := by decide +kernel
theorem dX6_rows_33 : decode cX6_rows 33 = .ok (.aload_n 0, 1) := by decide +kernel
theorem dX6_rows_34 : decode cX6_rows 34 = .ok (.getfield 7, 3) := by decide +kernel
theorem dX6_rows_37 : decode cX6_rows 37 = .ok (.iconst 0, 1) := by decide +kernel
theorem dX6_rows_38 : decode cX6_rows 38 = .ok (.iload_n 1, 1) := by decide +kernel
theorem dX6_rows_39 : decode cX6_rows 39 = .ok (.iadd, 1) := by decide +kernel
theorem dX6_rows_40 : decode cX6_rows 40 = .ok (.iload_n 2, 1) := by decide +kernel
theorem dX6_rows_41 : decode cX6_rows 41 = .ok (.iastore, 1) := by decide +kernel
theorem dX6_rows_42 : decode cX6_rows 42 = .ok (.iload_n 3, 1) := by decide +kernel
theorem dX6_rows_43 : decode cX6_rows 43 = .ok (.ireturn, 1) := by decide +kernel
theorem dX6_part_0 : decode cX6_part 0 = .ok (.iload_n 1, 1) := by decide +kernel
theorem dX6_part_1 : decode cX6_part 1 = .ok (.invokestatic 113, 3) := by decide +kernel
theorem dX6_part_4 : decode cX6_part 4 = .ok (.ifCond .eq 25, 3) := by decide +kernel
theorem dX6_part_7 : decode cX6_part 7 = .ok (.iload_n 2, 1) := by decide +kernel
theorem dX6_part_8 : decode cX6_part 8 = .ok (.invokestatic 113, 3) := by decide +kernel
theorem dX6_part_11 : decode cX6_part 11 = .ok (.ifCond .eq 18, 3) := by decide +kernel
theorem dX6_part_14 : decode cX6_part 14 = .ok (.iload_n 1, 1) := by decide +kernel
theorem dX6_part_15 : decode cX6_part 15 = .ok (.iload_n 2, 1) := by decide +kernel
theorem dX6_part_16 : decode cX6_part 16 = .ok (.if_icmp .eq 13, 3) := by decide +kernel
theorem dX6_part_19 : decode cX6_part 19 = .ok (.iload_n 3, 1) := by decide +kernel
theorem dX6_part_20 : decode cX6_part 20 = .ok (.iconst 1, 1) := by decide +kernel
theorem dX6_part_21 : decode cX6_part 21 = .ok (.bipush 100, 2) := by decide +kernel
theorem dX6_part_23 : decode cX6_part 23 = .ok (.invokestatic 63, 3) := by decide +kernel
theorem dX6_part_26 : decode cX6_part 26 = .ok (.ifCond .ne 5, 3) := by decide +kernel
theorem dX6_part_29 : decode cX6_part 29 = .ok (.iconst (-1), 1) := by decide +kernel
theorem dX6_part_30 : decode cX6_part 30 = .ok (.ireturn, 1) := by decide +kernel
theorem dX6_part_31 : decode cX6_part 31 = .ok (.aload_n 0, 1) := by decide +kernel
theorem dX6_part_32 : decode cX6_part 32 = .ok (.invokevirtual 116, 3) := by decide +kernel
theorem dX6_part_35 : decode cX6_part 35 = .ok (.aload_n 0, 1) := by decide +kernel
theorem dX6_part_36 : decode cX6_part 36 = .ok (.getfield 7, 3) := by decide +kernel
theorem dX6_part_39 : decode cX6_part 39 = .ok (.bipush 10, 2) := by decide +kernel
theorem dX6_part_41 : decode cX6_part 41 = .ok (.iconst 5, 1) := by decide +kernel
theorem dX6_part_42 : decode cX6_part 42 = .ok (.iload_n 1, 1) := by decide +kernel
theorem dX6_part_43 : decode cX6_part 43 = .ok (.imul, 1) := by decide +kernel
theorem dX6_part_44 : decode cX6_part 44 = .ok (.iadd, 1) := by decide +kernel
theorem dX6_part_45 : decode cX6_part 45 = .ok (.iload_n 2, 1) := by decide +kernel
theorem dX6_part_46 : decode cX6_part 46 = .ok (.iadd, 1) := by decide +kernel
theorem dX6_part_47 : decode cX6_part 47 = .ok (.iload_n 3, 1) := by decide +kernel
theorem dX6_part_48 : decode cX6_part 48 = .ok (.iastore, 1) := by decide +kernel
theorem dX6_part_49 : decode cX6_part 49 = .ok (.aload_n 0, 1) := by decide +kernel
theorem dX6_part_50 : decode cX6_part 50 = .ok (.getfield 7, 3) := by decide +kernel
theorem dX6_part_53 : decode cX6_part 53 = .ok (.bipush 10, 2) := by decide +kernel
theorem dX6_part_55 : decode cX6_part 55 = .ok (.iconst 5, 1) := by decide +kernel
theorem dX6_part_56 : decode cX6_part 56 = .ok (.iload_n 2, 1) := by decide +kernel
theorem dX6_part_57 : decode cX6_part 57 = .ok (.imul, 1) := by decide +kernel
theorem dX6_part_58 : decode cX6_part 58 = .ok (.iadd, 1) := by decide +kernel
theorem dX6_part_59 : decode cX6_part 59 = .ok (.iload_n 1, 1) := by decide +kernel
theorem dX6_part_60 : decode cX6_part 60 = .ok (.iadd, 1) := by decide +kernel
theorem dX6_part_61 : decode cX6_part 61 = .ok (.iload_n 3, 1) := by decide +kernel
theorem dX6_part_62 : decode cX6_part 62 = .ok (.iastore, 1) := by decide +kernel
theorem dX6_part_63 : decode cX6_part 63 = .ok (.iconst 1, 1) := by decide +kernel
theorem dX6_part_64 : decode cX6_part 64 = .ok (.iload_n 1, 1) := by decide +kernel
theorem dX6_part_65 : decode cX6_part 65 = .ok (.ishl, 1) := by decide +kernel
theorem dX6_part_66 : decode cX6_part 66 = .ok (.iconst 1, 1) := by decide +kernel
theorem dX6_part_67 : decode cX6_part 67 = .ok (.iload_n 2, 1) := by decide +kernel
theorem dX6_part_68 : decode cX6_part 68 = .ok (.ishl, 1) := by decide +kernel
theorem dX6_part_69 : decode cX6_part 69 = .ok (.ior, 1) := by decide +kernel
theorem dX6_part_70 : decode cX6_part 70 = .ok (.istore 4, 2) := by decide +kernel
theorem dX6_part_72 : decode cX6_part 72 = .ok (.iconst 0, 1) := by decide +kernel
theorem dX6_part_73 : decode cX6_part 73 = .ok (.istore 5, 2) := by decide +kernel
theorem dX6_part_75 : decode cX6_part 75 = .ok (.iconst 0, 1) := by decide +kernel
theorem dX6_part_76 : decode cX6_part 76 = .ok (.istore 6, 2) := by decide +kernel
theorem dX6_part_78 : decode cX6_part 78 = .ok (.iload 6, 2) := by decide +kernel
theorem dX6_part_80 : decode cX6_part 80 = .ok (.iconst 4, 1) := by decide +kernel
theorem dX6_part_81 : decode cX6_part 81 = .ok (.if_icmp .ge 45, 3) := by decide +kernel
theorem dX6_part_84 : decode cX6_part 84 = .ok (.aload_n 0, 1) := by decide +kernel
theorem dX6_part_85 : decode cX6_part 85 = .ok (.iload 6, 2) := by decide +kernel
theorem dX6_part_87 : decode cX6_part 87 = .ok (.invokevirtual 97, 3) := by decide +kernel
theorem dX6_part_90 : decode cX6_part 90 = .ok (.ifCond .eq 30, 3) := by decide +kernel
theorem dX6_part_93 : decode cX6_part 93 = .ok (.aload_n 0, 1) := by decide +kernel
theorem dX6_part_94 : decode cX6_part 94 = .ok (.getfield 7, 3) := by decide +kernel
theorem dX6_part_97 : decode cX6_part 97 = .ok (.iload 6, 2) := by decide +kernel
theorem dX6_part_99 : decode cX6_part 99 = .ok (.invokestatic 90, 3) := by decide +kernel
theorem dX6_part_102 : decode cX6_part 102 = .ok (.iaload, 1) := by decide +kernel
theorem dX6_part_103 : decode cX6_part 103 = .ok (.iload 4, 2) := by decide +kernel
theorem dX6_part_105 : decode cX6_part 105 = .ok (.iand, 1) := by decide +kernel
theorem dX6_part_106 : decode cX6_part 106 = .ok (.iload 4, 2) := by decide +kernel
theorem dX6_part_108 : decode cX6_part 108 = .ok (.if_icmp .ne 12, 3) := by decide +kernel
theorem dX6_part_111 : decode cX6_part 111 = .ok (.aload_n 0, 1) := by decide +kernel
theorem dX6_part_112 : decode cX6_part 112 = .ok (.iload 6, 2) := by decide +kernel
theorem dX6_part_114 : decode cX6_part 114 = .ok (.invokevirtual 105, 3) := by decide +kernel
theorem dX6_part_117 : decode cX6_part 117 = .ok (.iinc 5 1, 3) := by decide +kernel
theorem dX6_part_120 : decode cX6_part 120 = .ok (.iinc 6 1, 3) := by decide +kernel
theorem dX6_part_123 : decode cX6_part 123 = .ok (.goto (-45), 3) := by decide +kernel
theorem dX6_part_126 : decode cX6_part 126 = .ok (.aload_n 0, 1) := by decide +kernel
theorem dX6_part_127 : decode cX6_part 127 = .ok (.getfield 7, 3) := by decide +kernel
theorem dX6_part_130 : decode cX6_part 130 = .ok (.bipush 97, 2) := by decide +kernel
theorem dX6_part_132 : decode cX6_part 132 = .ok (.dup2, 1) := by decide +kernel
theorem dX6_part_133 : decode cX6_part 133 = .ok (.iaload, 1) := by decide +kernel
theorem dX6_part_134 : decode cX6_part 134 = .ok (.iload 5, 2) := by decide +kernel
theorem dX6_part_136 : decode cX6_part 136 = .ok (.iadd, 1) := by decide +kernel
theorem dX6_part_137 : decode cX6_part 137 = .ok (.iastore, 1) := by decide +kernel
theorem dX6_part_138 : decode cX6_part 138 = .ok (.iload 5, 2) := by decide +kernel
theorem dX6_part_140 : decode cX6_part 140 = .ok (.ireturn, 1) := by decide +kernel
theorem dX6_count_0 : decode cX6_count 0 = .ok (.iload_n 1, 1) := by decide +kernel
theorem dX6_count_1 : decode cX6_count 1 = .ok (.invokestatic 113, 3) := by decide +kernel
theorem dX6_count_4 : decode cX6_count 4 = .ok (.ifCond .ne 5, 3) := by decide +kernel
theorem dX6_count_7 : decode cX6_count 7 = .ok (.iconst (-1), 1) := by decide +kernel
theorem dX6_count_8 : decode cX6_count 8 = .ok (.ireturn, 1) := by decide +kernel
theorem dX6_count_9 : decode cX6_count 9 = .ok (.aload_n 0, 1) := by decide +kernel
theorem dX6_count_10 : decode cX6_count 10 = .ok (.invokevirtual 116, 3) := by decide +kernel
theorem dX6_count_13 : decode cX6_count 13 = .ok (.aload_n 0, 1) := by decide +kernel
theorem dX6_count_14 : decode cX6_count 14 = .ok (.iload_n 1, 1) := by decide +kernel
theorem dX6_count_15 : decode cX6_count 15 = .ok (.invokevirtual 119, 3) := by decide +kernel
theorem dX6_count_18 : decode cX6_count 18 = .ok (.ireturn, 1) := by decide +kernel
theorem dX6_slotFor_0 : decode cX6_slotFor 0 = .ok (.aload_n 0, 1) := by decide +kernel
theorem dX6_slotFor_1 : decode cX6_slotFor 1 = .ok (.iconst 0, 1) := by decide +kernel
theorem dX6_slotFor_2 : decode cX6_slotFor 2 = .ok (.invokevirtual 122, 3) := by decide +kernel
theorem dX6_slotFor_5 : decode cX6_slotFor 5 = .ok (.istore_n 1, 1) := by decide +kernel
theorem dX6_slotFor_6 : decode cX6_slotFor 6 = .ok (.iload_n 1, 1) := by decide +kernel
theorem dX6_slotFor_7 : decode cX6_slotFor 7 = .ok (.ifCond .lt 5, 3) := by decide +kernel
theorem dX6_slotFor_10 : decode cX6_slotFor 10 = .ok (.iload_n 1, 1) := by decide +kernel
theorem dX6_slotFor_11 : decode cX6_slotFor 11 = .ok (.ireturn, 1) := by decide +kernel
theorem dX6_slotFor_12 : decode cX6_slotFor 12 = .ok (.bipush (-4), 2) := by decide +kernel
theorem dX6_slotFor_14 : decode cX6_slotFor 14 = .ok (.istore_n 2, 1) := by decide +kernel
theorem dX6_slotFor_15 : decode cX6_slotFor 15 = .ok (.iconst 0, 1) := by decide +kernel
theorem dX6_slotFor_16 : decode cX6_slotFor 16 = .ok (.istore_n 3, 1) := by decide +kernel
theorem dX6_slotFor_17 : decode cX6_slotFor 17 = .ok (.iload_n 3, 1) := by decide +kernel
theorem dX6_slotFor_18 : decode cX6_slotFor 18 = .ok (.iconst 4, 1) := by decide +kernel
theorem dX6_slotFor_19 : decode cX6_slotFor 19 = .ok (.if_icmp .ge 54, 3) := by decide +kernel
theorem dX6_slotFor_22 : decode cX6_slotFor 22 = .ok (.aload_n 0, 1) := by decide +kernel
theorem dX6_slotFor_23 : decode cX6_slotFor 23 = .ok (.iload_n 3, 1) := by decide +kernel
theorem dX6_slotFor_24 : decode cX6_slotFor 24 = .ok (.invokevirtual 97, 3) := by decide +kernel
theorem dX6_slotFor_27 : decode cX6_slotFor 27 = .ok (.ifCond .eq 38, 3) := by decide +kernel
theorem dX6_slotFor_30 : decode cX6_slotFor 30 = .ok (.iload_n 2, 1) := by decide +kernel
theorem dX6_slotFor_31 : decode cX6_slotFor 31 = .ok (.ifCond .lt 30, 3) := by decide +kernel
theorem dX6_slotFor_34 : decode cX6_slotFor 34 = .ok (.aload_n 0, 1) := by decide +kernel
theorem dX6_slotFor_35 : decode cX6_slotFor 35 = .ok (.getfield 7, 3) := by decide +kernel
theorem dX6_slotFor_38 : decode cX6_slotFor 38 = .ok (.iload_n 3, 1) := by decide +kernel
theorem dX6_slotFor_39 : decode cX6_slotFor 39 = .ok (.invokestatic 90, 3) := by decide +kernel
theorem dX6_slotFor_42 : decode cX6_slotFor 42 = .ok (.bipush 12, 2) := by decide +kernel
theorem dX6_slotFor_44 : decode cX6_slotFor 44 = .ok (.iadd, 1) := by decide +kernel
theorem dX6_slotFor_45 : decode cX6_slotFor 45 = .ok (.iaload, 1) := by decide +kernel
theorem dX6_slotFor_46 : decode cX6_slotFor 46 = .ok (.aload_n 0, 1) := by decide +kernel
theorem dX6_slotFor_47 : decode cX6_slotFor 47 = .ok (.getfield 7, 3) := by decide +kernel
theorem dX6_slotFor_50 : decode cX6_slotFor 50 = .ok (.iload_n 2, 1) := by decide +kernel
theorem dX6_slotFor_51 : decode cX6_slotFor 51 = .ok (.invokestatic 90, 3) := by decide +kernel
theorem dX6_slotFor_54 : decode cX6_slotFor 54 = .ok (.bipush 12, 2) := by decide +kernel
theorem dX6_slotFor_56 : decode cX6_slotFor 56 = .ok (.iadd, 1) := by decide +kernel
theorem dX6_slotFor_57 : decode cX6_slotFor 57 = .ok (.iaload, 1) := by decide +kernel
theorem dX6_slotFor_58 : decode cX6_slotFor 58 = .ok (.if_icmp .ge 7, 3) := by decide +kernel
theorem dX6_slotFor_61 : decode cX6_slotFor 61 = .ok (.iload_n 3, 1) := by decide +kernel
theorem dX6_slotFor_62 : decode cX6_slotFor 62 = .ok (.goto 4, 3) := by decide +kernel
theorem dX6_slotFor_65 : decode cX6_slotFor 65 = .ok (.iload_n 2, 1) := by decide +kernel
theorem dX6_slotFor_66 : decode cX6_slotFor 66 = .ok (.istore_n 2, 1) := by decide +kernel
theorem dX6_slotFor_67 : decode cX6_slotFor 67 = .ok (.iinc 3 1, 3) := by decide +kernel
theorem dX6_slotFor_70 : decode cX6_slotFor 70 = .ok (.goto (-53), 3) := by decide +kernel
theorem dX6_slotFor_73 : decode cX6_slotFor 73 = .ok (.aload_n 0, 1) := by decide +kernel
theorem dX6_slotFor_74 : decode cX6_slotFor 74 = .ok (.getfield 7, 3) := by decide +kernel
theorem dX6_slotFor_77 : decode cX6_slotFor 77 = .ok (.bipush 96, 2) := by decide +kernel
theorem dX6_slotFor_79 : decode cX6_slotFor 79 = .ok (.dup2, 1) := by decide +kernel
theorem dX6_slotFor_80 : decode cX6_slotFor 80 = .ok (.iaload, 1) := by decide +kernel
theorem dX6_slotFor_81 : decode cX6_slotFor 81 = .ok (.iload_n 2, 1) := by decide +kernel
theorem dX6_slotFor_82 : decode cX6_slotFor 82 = .ok (.ifCond .ge 7, 3) := by decide +kernel
theorem dX6_slotFor_85 : decode cX6_slotFor 85 = .ok (.iconst 0, 1) := by decide +kernel
theorem dX6_slotFor_86 : decode cX6_slotFor 86 = .ok (.goto 4, 3) := by decide +kernel
theorem dX6_slotFor_89 : decode cX6_slotFor 89 = .ok (.iconst 1, 1) := by decide +kernel
theorem dX6_slotFor_90 : decode cX6_slotFor 90 = .ok (.iadd, 1) := by decide +kernel
theorem dX6_slotFor_91 : decode cX6_slotFor 91 = .ok (.iastore, 1) := by decide +kernel
theorem dX6_slotFor_92 : decode cX6_slotFor 92 = .ok (.iload_n 2, 1) := by decide +kernel
theorem dX6_slotFor_93 : decode cX6_slotFor 93 = .ok (.ireturn, 1) := by decide +kernel
theorem dX6_makes_0 : decode cX6_makes 0 = .ok (.aload_n 0, 1) := by decide +kernel
theorem dX6_makes_1 : decode cX6_makes 1 = .ok (.iload_n 1, 1) := by decide +kernel
theorem dX6_makes_2 : decode cX6_makes 2 = .ok (.iconst 5, 1) := by decide +kernel
theorem dX6_makes_3 : decode cX6_makes 3 = .ok (.invokevirtual 125, 3) := by decide +kernel
theorem dX6_makes_6 : decode cX6_makes 6 = .ok (.lstore_n 2, 1) := by decide +kernel
theorem dX6_makes_7 : decode cX6_makes 7 = .ok (.lload_n 2, 1) := by decide +kernel
theorem dX6_makes_8 : decode cX6_makes 8 = .ok (.lconst 0, 1) := by decide +kernel
theorem dX6_makes_9 : decode cX6_makes 9 = .ok (.lcmp, 1) := by decide +kernel
theorem dX6_makes_10 : decode cX6_makes 10 = .ok (.ifCond .ge 8, 3) := by decide +kernel
theorem dX6_makes_13 : decode cX6_makes 13 = .ok (.bipush (-4), 2) := by decide +kernel
theorem dX6_makes_15 : decode cX6_makes 15 = .ok (.goto 7, 3) := by decide +kernel
theorem dX6_makes_18 : decode cX6_makes 18 = .ok (.aload_n 0, 1) := by decide +kernel
theorem dX6_makes_19 : decode cX6_makes 19 = .ok (.invokevirtual 128, 3) := by decide +kernel
theorem dX6_makes_22 : decode cX6_makes 22 = .ok (.istore 4, 2) := by decide +kernel
theorem dX6_makes_24 : decode cX6_makes 24 = .ok (.aload_n 0, 1) := by decide +kernel
theorem dX6_makes_25 : decode cX6_makes 25 = .ok (.getfield 7, 3) := by decide +kernel
theorem dX6_makes_28 : decode cX6_makes 28 = .ok (.bipush 94, 2) := by decide +kernel
theorem dX6_makes_30 : decode cX6_makes 30 = .ok (.dup2, 1) := by decide +kernel
theorem dX6_makes_31 : decode cX6_makes 31 = .ok (.iaload, 1) := by decide +kernel
theorem dX6_makes_32 : decode cX6_makes 32 = .ok (.iconst 1, 1) := by decide +kernel
theorem dX6_makes_33 : decode cX6_makes 33 = .ok (.iadd, 1) := by decide +kernel
theorem dX6_makes_34 : decode cX6_makes 34 = .ok (.iastore, 1) := by decide +kernel
theorem dX6_makes_35 : decode cX6_makes 35 = .ok (.iconst 0, 1) := by decide +kernel
theorem dX6_makes_36 : decode cX6_makes 36 = .ok (.istore 5, 2) := by decide +kernel
theorem dX6_makes_38 : decode cX6_makes 38 = .ok (.iload 5, 2) := by decide +kernel
theorem dX6_makes_40 : decode cX6_makes 40 = .ok (.aload_n 0, 1) := by decide +kernel
theorem dX6_makes_41 : decode cX6_makes 41 = .ok (.getfield 69, 3) := by decide +kernel
theorem dX6_makes_44 : decode cX6_makes 44 = .ok (.if_icmp .ge 23, 3) := by decide +kernel
theorem dX6_makes_47 : decode cX6_makes 47 = .ok (.aload_n 0, 1) := by decide +kernel
theorem dX6_makes_48 : decode cX6_makes 48 = .ok (.getfield 41, 3) := by decide +kernel
theorem dX6_makes_51 : decode cX6_makes 51 = .ok (.iload 5, 2) := by decide +kernel
theorem dX6_makes_53 : decode cX6_makes 53 = .ok (.aload_n 0, 1) := by decide +kernel
theorem dX6_makes_54 : decode cX6_makes 54 = .ok (.getfield 44, 3) := by decide +kernel
theorem dX6_makes_57 : decode cX6_makes 57 = .ok (.iload 5, 2) := by decide +kernel
theorem dX6_makes_59 : decode cX6_makes 59 = .ok (.iaload, 1) := by decide +kernel
theorem dX6_makes_60 : decode cX6_makes 60 = .ok (.iastore, 1) := by decide +kernel
theorem dX6_makes_61 : decode cX6_makes 61 = .ok (.iinc 5 1, 3) := by decide +kernel
theorem dX6_makes_64 : decode cX6_makes 64 = .ok (.goto (-26), 3) := by decide +kernel
theorem dX6_makes_67 : decode cX6_makes 67 = .ok (.aload_n 0, 1) := by decide +kernel
theorem dX6_makes_68 : decode cX6_makes 68 = .ok (.iconst 0, 1) := by decide +kernel
theorem dX6_makes_69 : decode cX6_makes 69 = .ok (.invokevirtual 82, 3) := by decide +kernel
theorem dX6_makes_72 : decode cX6_makes 72 = .ok (.lstore 5, 2) := by decide +kernel
theorem dX6_makes_74 : decode cX6_makes 74 = .ok (.iload 4, 2) := by decide +kernel
theorem dX6_makes_76 : decode cX6_makes 76 = .ok (.ifCond .ge 17, 3) := by decide +kernel
theorem dX6_makes_79 : decode cX6_makes 79 = .ok (.aload_n 0, 1) := by decide +kernel
theorem dX6_makes_80 : decode cX6_makes 80 = .ok (.getfield 7, 3) := by decide +kernel
theorem dX6_makes_83 : decode cX6_makes 83 = .ok (.bipush 99, 2) := by decide +kernel
theorem dX6_makes_85 : decode cX6_makes 85 = .ok (.dup2, 1) := by decide +kernel
theorem dX6_makes_86 : decode cX6_makes 86 = .ok (.iaload, 1) := by decide +kernel
theorem dX6_makes_87 : decode cX6_makes 87 = .ok (.iconst 1, 1) := by decide +kernel
theorem dX6_makes_88 : decode cX6_makes 88 = .ok (.iadd, 1) := by decide +kernel
theorem dX6_makes_89 : decode cX6_makes 89 = .ok (.iastore, 1) := by decide +kernel
theorem dX6_makes_90 : decode cX6_makes 90 = .ok (.lload 5, 2) := by decide +kernel
theorem dX6_makes_92 : decode cX6_makes 92 = .ok (.lreturn, 1) := by decide +kernel
theorem dX6_makes_93 : decode cX6_makes 93 = .ok (.aload_n 0, 1) := by decide +kernel
theorem dX6_makes_94 : decode cX6_makes 94 = .ok (.iload 4, 2) := by decide +kernel
theorem dX6_makes_96 : decode cX6_makes 96 = .ok (.invokevirtual 105, 3) := by decide +kernel
theorem dX6_makes_99 : decode cX6_makes 99 = .ok (.aload_n 0, 1) := by decide +kernel
theorem dX6_makes_100 : decode cX6_makes 100 = .ok (.getfield 7, 3) := by decide +kernel
theorem dX6_makes_103 : decode cX6_makes 103 = .ok (.iload 4, 2) := by decide +kernel
theorem dX6_makes_105 : decode cX6_makes 105 = .ok (.invokestatic 90, 3) := by decide +kernel
theorem dX6_makes_108 : decode cX6_makes 108 = .ok (.iload_n 1, 1) := by decide +kernel
theorem dX6_makes_109 : decode cX6_makes 109 = .ok (.iastore, 1) := by decide +kernel
theorem dX6_makes_110 : decode cX6_makes 110 = .ok (.iconst 0, 1) := by decide +kernel
theorem dX6_makes_111 : decode cX6_makes 111 = .ok (.istore 7, 2) := by decide +kernel
theorem dX6_makes_113 : decode cX6_makes 113 = .ok (.iload 7, 2) := by decide +kernel
theorem dX6_makes_115 : decode cX6_makes 115 = .ok (.aload_n 0, 1) := by decide +kernel
theorem dX6_makes_116 : decode cX6_makes 116 = .ok (.getfield 69, 3) := by decide +kernel
theorem dX6_makes_119 : decode cX6_makes 119 = .ok (.if_icmp .ge 31, 3) := by decide +kernel
theorem dX6_makes_122 : decode cX6_makes 122 = .ok (.aload_n 0, 1) := by decide +kernel
theorem dX6_makes_123 : decode cX6_makes 123 = .ok (.getfield 7, 3) := by decide +kernel
theorem dX6_makes_126 : decode cX6_makes 126 = .ok (.iload 4, 2) := by decide +kernel
theorem dX6_makes_128 : decode cX6_makes 128 = .ok (.invokestatic 90, 3) := by decide +kernel
theorem dX6_makes_131 : decode cX6_makes 131 = .ok (.iconst 1, 1) := by decide +kernel
theorem dX6_makes_132 : decode cX6_makes 132 = .ok (.iadd, 1) := by decide +kernel
theorem dX6_makes_133 : decode cX6_makes 133 = .ok (.iload 7, 2) := by decide +kernel
theorem dX6_makes_135 : decode cX6_makes 135 = .ok (.iadd, 1) := by decide +kernel
theorem dX6_makes_136 : decode cX6_makes 136 = .ok (.aload_n 0, 1) := by decide +kernel
theorem dX6_makes_137 : decode cX6_makes 137 = .ok (.getfield 44, 3) := by decide +kernel
theorem dX6_makes_140 : decode cX6_makes 140 = .ok (.iload 7, 2) := by decide +kernel
theorem dX6_makes_142 : decode cX6_makes 142 = .ok (.iaload, 1) := by decide +kernel
theorem dX6_makes_143 : decode cX6_makes 143 = .ok (.iastore, 1) := by decide +kernel
theorem dX6_makes_144 : decode cX6_makes 144 = .ok (.iinc 7 1, 3) := by decide +kernel
theorem dX6_makes_147 : decode cX6_makes 147 = .ok (.goto (-34), 3) := by decide +kernel
theorem dX6_makes_150 : decode cX6_makes 150 = .ok (.iconst 0, 1) := by decide +kernel
theorem dX6_makes_151 : decode cX6_makes 151 = .ok (.istore 7, 2) := by decide +kernel
theorem dX6_makes_153 : decode cX6_makes 153 = .ok (.iload 7, 2) := by decide +kernel
theorem dX6_makes_155 : decode cX6_makes 155 = .ok (.iconst 5, 1) := by decide +kernel
theorem dX6_makes_156 : decode cX6_makes 156 = .ok (.if_icmp .ge 34, 3) := by decide +kernel
theorem dX6_makes_159 : decode cX6_makes 159 = .ok (.aload_n 0, 1) := by decide +kernel
theorem dX6_makes_160 : decode cX6_makes 160 = .ok (.getfield 7, 3) := by decide +kernel
theorem dX6_makes_163 : decode cX6_makes 163 = .ok (.iload 4, 2) := by decide +kernel
theorem dX6_makes_165 : decode cX6_makes 165 = .ok (.invokestatic 90, 3) := by decide +kernel
theorem dX6_makes_168 : decode cX6_makes 168 = .ok (.bipush 6, 2) := by decide +kernel
theorem dX6_makes_170 : decode cX6_makes 170 = .ok (.iadd, 1) := by decide +kernel
theorem dX6_makes_171 : decode cX6_makes 171 = .ok (.iload 7, 2) := by decide +kernel
theorem dX6_makes_173 : decode cX6_makes 173 = .ok (.iadd, 1) := by decide +kernel
theorem dX6_makes_174 : decode cX6_makes 174 = .ok (.aload_n 0, 1) := by decide +kernel
theorem dX6_makes_175 : decode cX6_makes 175 = .ok (.getfield 7, 3) := by decide +kernel
theorem dX6_makes_178 : decode cX6_makes 178 = .ok (.iconst 5, 1) := by decide +kernel
theorem dX6_makes_179 : decode cX6_makes 179 = .ok (.iload 7, 2) := by decide +kernel
theorem dX6_makes_181 : decode cX6_makes 181 = .ok (.iadd, 1) := by decide +kernel
theorem dX6_makes_182 : decode cX6_makes 182 = .ok (.iaload, 1) := by decide +kernel
theorem dX6_makes_183 : decode cX6_makes 183 = .ok (.iastore, 1) := by decide +kernel
theorem dX6_makes_184 : decode cX6_makes 184 = .ok (.iinc 7 1, 3) := by decide +kernel
theorem dX6_makes_187 : decode cX6_makes 187 = .ok (.goto (-34), 3) := by decide +kernel
theorem dX6_makes_190 : decode cX6_makes 190 = .ok (.aload_n 0, 1) := by decide +kernel
theorem dX6_makes_191 : decode cX6_makes 191 = .ok (.getfield 7, 3) := by decide +kernel
theorem dX6_makes_194 : decode cX6_makes 194 = .ok (.iload 4, 2) := by decide +kernel
theorem dX6_makes_196 : decode cX6_makes 196 = .ok (.invokestatic 90, 3) := by decide +kernel
theorem dX6_makes_199 : decode cX6_makes 199 = .ok (.bipush 11, 2) := by decide +kernel
theorem dX6_makes_201 : decode cX6_makes 201 = .ok (.iadd, 1) := by decide +kernel
theorem dX6_makes_202 : decode cX6_makes 202 = .ok (.iconst 1, 1) := by decide +kernel
theorem dX6_makes_203 : decode cX6_makes 203 = .ok (.iastore, 1) := by decide +kernel
theorem dX6_makes_204 : decode cX6_makes 204 = .ok (.aload_n 0, 1) := by decide +kernel
theorem dX6_makes_205 : decode cX6_makes 205 = .ok (.getfield 7, 3) := by decide +kernel
theorem dX6_makes_208 : decode cX6_makes 208 = .ok (.iload 4, 2) := by decide +kernel
theorem dX6_makes_210 : decode cX6_makes 210 = .ok (.invokestatic 90, 3) := by decide +kernel
theorem dX6_makes_213 : decode cX6_makes 213 = .ok (.bipush 12, 2) := by decide +kernel
theorem dX6_makes_215 : decode cX6_makes 215 = .ok (.iadd, 1) := by decide +kernel
theorem dX6_makes_216 : decode cX6_makes 216 = .ok (.aload_n 0, 1) := by decide +kernel
theorem dX6_makes_217 : decode cX6_makes 217 = .ok (.getfield 7, 3) := by decide +kernel
theorem dX6_makes_220 : decode cX6_makes 220 = .ok (.bipush 92, 2) := by decide +kernel
theorem dX6_makes_222 : decode cX6_makes 222 = .ok (.iaload, 1) := by decide +kernel
theorem dX6_makes_223 : decode cX6_makes 223 = .ok (.iastore, 1) := by decide +kernel
theorem dX6_makes_224 : decode cX6_makes 224 = .ok (.lload 5, 2) := by decide +kernel
theorem dX6_makes_226 : decode cX6_makes 226 = .ok (.lreturn, 1) := by decide +kernel
theorem dX6_uses_0 : decode cX6_uses 0 = .ok (.aload_n 0, 1) := by decide +kernel
theorem dX6_uses_1 : decode cX6_uses 1 = .ok (.getfield 7, 3) := by decide +kernel
theorem dX6_uses_4 : decode cX6_uses 4 = .ok (.bipush 93, 2) := by decide +kernel
theorem dX6_uses_6 : decode cX6_uses 6 = .ok (.dup2, 1) := by decide +kernel
theorem dX6_uses_7 : decode cX6_uses 7 = .ok (.iaload, 1) := by decide +kernel
theorem dX6_uses_8 : decode cX6_uses 8 = .ok (.iconst 1, 1) := by decide +kernel
theorem dX6_uses_9 : decode cX6_uses 9 = .ok (.iadd, 1) := by decide +kernel
theorem dX6_uses_10 : decode cX6_uses 10 = .ok (.iastore, 1) := by decide +kernel
theorem dX6_uses_11 : decode cX6_uses 11 = .ok (.aload_n 0, 1) := by decide +kernel
theorem dX6_uses_12 : decode cX6_uses 12 = .ok (.getfield 7, 3) := by decide +kernel
theorem dX6_uses_15 : decode cX6_uses 15 = .ok (.iload_n 1, 1) := by decide +kernel
theorem dX6_uses_16 : decode cX6_uses 16 = .ok (.invokestatic 90, 3) := by decide +kernel
theorem dX6_uses_19 : decode cX6_uses 19 = .ok (.bipush 11, 2) := by decide +kernel
theorem dX6_uses_21 : decode cX6_uses 21 = .ok (.iadd, 1) := by decide +kernel
theorem dX6_uses_22 : decode cX6_uses 22 = .ok (.dup2, 1) := by decide +kernel
theorem dX6_uses_23 : decode cX6_uses 23 = .ok (.iaload, 1) := by decide +kernel
theorem dX6_uses_24 : decode cX6_uses 24 = .ok (.iconst 1, 1) := by decide +kernel
theorem dX6_uses_25 : decode cX6_uses 25 = .ok (.iadd, 1) := by decide +kernel
theorem dX6_uses_26 : decode cX6_uses 26 = .ok (.iastore, 1) := by decide +kernel
theorem dX6_uses_27 : decode cX6_uses 27 = .ok (.aload_n 0, 1) := by decide +kernel
theorem dX6_uses_28 : decode cX6_uses 28 = .ok (.getfield 7, 3) := by decide +kernel
theorem dX6_uses_31 : decode cX6_uses 31 = .ok (.iload_n 1, 1) := by decide +kernel
theorem dX6_uses_32 : decode cX6_uses 32 = .ok (.invokestatic 90, 3) := by decide +kernel
theorem dX6_uses_35 : decode cX6_uses 35 = .ok (.bipush 12, 2) := by decide +kernel
theorem dX6_uses_37 : decode cX6_uses 37 = .ok (.iadd, 1) := by decide +kernel
theorem dX6_uses_38 : decode cX6_uses 38 = .ok (.aload_n 0, 1) := by decide +kernel
theorem dX6_uses_39 : decode cX6_uses 39 = .ok (.getfield 7, 3) := by decide +kernel
theorem dX6_uses_42 : decode cX6_uses 42 = .ok (.bipush 92, 2) := by decide +kernel
theorem dX6_uses_44 : decode cX6_uses 44 = .ok (.iaload, 1) := by decide +kernel
theorem dX6_uses_45 : decode cX6_uses 45 = .ok (.iastore, 1) := by decide +kernel
theorem dX6_uses_46 : decode cX6_uses 46 = .ok (.aload_n 0, 1) := by decide +kernel
theorem dX6_uses_47 : decode cX6_uses 47 = .ok (.iload_n 1, 1) := by decide +kernel
theorem dX6_uses_48 : decode cX6_uses 48 = .ok (.iconst 0, 1) := by decide +kernel
theorem dX6_uses_49 : decode cX6_uses 49 = .ok (.invokevirtual 131, 3) := by decide +kernel
theorem dX6_uses_52 : decode cX6_uses 52 = .ok (.lreturn, 1) := by decide +kernel
theorem dX6_runsOf_0 : decode cX6_runsOf 0 = .ok (.aload_n 0, 1) := by decide +kernel
theorem dX6_runsOf_1 : decode cX6_runsOf 1 = .ok (.getfield 7, 3) := by decide +kernel
theorem dX6_runsOf_4 : decode cX6_runsOf 4 = .ok (.bipush 92, 2) := by decide +kernel
theorem dX6_runsOf_6 : decode cX6_runsOf 6 = .ok (.dup2, 1) := by decide +kernel
theorem dX6_runsOf_7 : decode cX6_runsOf 7 = .ok (.iaload, 1) := by decide +kernel
theorem dX6_runsOf_8 : decode cX6_runsOf 8 = .ok (.iconst 1, 1) := by decide +kernel
theorem dX6_runsOf_9 : decode cX6_runsOf 9 = .ok (.iadd, 1) := by decide +kernel
theorem dX6_runsOf_10 : decode cX6_runsOf 10 = .ok (.iastore, 1) := by decide +kernel
theorem dX6_runsOf_11 : decode cX6_runsOf 11 = .ok (.aload_n 0, 1) := by decide +kernel
theorem dX6_runsOf_12 : decode cX6_runsOf 12 = .ok (.iload_n 1, 1) := by decide +kernel
theorem dX6_runsOf_13 : decode cX6_runsOf 13 = .ok (.invokevirtual 122, 3) := by decide +kernel
theorem dX6_runsOf_16 : decode cX6_runsOf 16 = .ok (.istore_n 2, 1) := by decide +kernel
theorem dX6_runsOf_17 : decode cX6_runsOf 17 = .ok (.iload_n 2, 1) := by decide +kernel
theorem dX6_runsOf_18 : decode cX6_runsOf 18 = .ok (.ifCond .ge 15, 3) := by decide +kernel
theorem dX6_runsOf_21 : decode cX6_runsOf 21 = .ok (.ldc2_w 134, 3) := by decide +kernel
theorem dX6_runsOf_24 : decode cX6_runsOf 24 = .ok (.iload_n 1, 1) := by decide +kernel
theorem dX6_runsOf_25 : decode cX6_runsOf 25 = .ok (.invokestatic 94, 3) := by decide +kernel
theorem dX6_runsOf_28 : decode cX6_runsOf 28 = .ok (.i2l, 1) := by decide +kernel
theorem dX6_runsOf_29 : decode cX6_runsOf 29 = .ok (.lmul, 1) := by decide +kernel
theorem dX6_runsOf_30 : decode cX6_runsOf 30 = .ok (.goto 4, 3) := by decide +kernel
theorem dX6_runsOf_33 : decode cX6_runsOf 33 = .ok (.lconst 0, 1) := by decide +kernel
theorem dX6_runsOf_34 : decode cX6_runsOf 34 = .ok (.lstore_n 3, 1) := by decide +kernel
theorem dX6_runsOf_35 : decode cX6_runsOf 35 = .ok (.iload_n 2, 1) := by decide +kernel
theorem dX6_runsOf_36 : decode cX6_runsOf 36 = .ok (.ifCond .ge 11, 3) := by decide +kernel
theorem dX6_runsOf_39 : decode cX6_runsOf 39 = .ok (.aload_n 0, 1) := by decide +kernel
theorem dX6_runsOf_40 : decode cX6_runsOf 40 = .ok (.iload_n 1, 1) := by decide +kernel
theorem dX6_runsOf_41 : decode cX6_runsOf 41 = .ok (.invokevirtual 136, 3) := by decide +kernel
theorem dX6_runsOf_44 : decode cX6_runsOf 44 = .ok (.goto 8, 3) := by decide +kernel
theorem dX6_runsOf_47 : decode cX6_runsOf 47 = .ok (.aload_n 0, 1) := by decide +kernel
theorem dX6_runsOf_48 : decode cX6_runsOf 48 = .ok (.iload_n 2, 1) := by decide +kernel
theorem dX6_runsOf_49 : decode cX6_runsOf 49 = .ok (.invokevirtual 139, 3) := by decide +kernel
theorem dX6_runsOf_52 : decode cX6_runsOf 52 = .ok (.lstore 5, 2) := by decide +kernel
theorem dX6_runsOf_54 : decode cX6_runsOf 54 = .ok (.aload_n 0, 1) := by decide +kernel
theorem dX6_runsOf_55 : decode cX6_runsOf 55 = .ok (.getfield 22, 3) := by decide +kernel
theorem dX6_runsOf_58 : decode cX6_runsOf 58 = .ok (.iconst 0, 1) := by decide +kernel
theorem dX6_runsOf_59 : decode cX6_runsOf 59 = .ok (.dup2, 1) := by decide +kernel
theorem dX6_runsOf_60 : decode cX6_runsOf 60 = .ok (.laload, 1) := by decide +kernel
theorem dX6_runsOf_61 : decode cX6_runsOf 61 = .ok (.lload 5, 2) := by decide +kernel
theorem dX6_runsOf_63 : decode cX6_runsOf 63 = .ok (.ladd, 1) := by decide +kernel
theorem dX6_runsOf_64 : decode cX6_runsOf 64 = .ok (.lastore, 1) := by decide +kernel
theorem dX6_runsOf_65 : decode cX6_runsOf 65 = .ok (.aload_n 0, 1) := by decide +kernel
theorem dX6_runsOf_66 : decode cX6_runsOf 66 = .ok (.getfield 22, 3) := by decide +kernel
theorem dX6_runsOf_69 : decode cX6_runsOf 69 = .ok (.iconst 1, 1) := by decide +kernel
theorem dX6_runsOf_70 : decode cX6_runsOf 70 = .ok (.dup2, 1) := by decide +kernel
theorem dX6_runsOf_71 : decode cX6_runsOf 71 = .ok (.laload, 1) := by decide +kernel
theorem dX6_runsOf_72 : decode cX6_runsOf 72 = .ok (.lload_n 3, 1) := by decide +kernel
theorem dX6_runsOf_73 : decode cX6_runsOf 73 = .ok (.ladd, 1) := by decide +kernel
theorem dX6_runsOf_74 : decode cX6_runsOf 74 = .ok (.lastore, 1) := by decide +kernel
theorem dX6_runsOf_75 : decode cX6_runsOf 75 = .ok (.iconst 0, 1) := by decide +kernel
theorem dX6_runsOf_76 : decode cX6_runsOf 76 = .ok (.istore 7, 2) := by decide +kernel
theorem dX6_runsOf_78 : decode cX6_runsOf 78 = .ok (.iload 7, 2) := by decide +kernel
theorem dX6_runsOf_80 : decode cX6_runsOf 80 = .ok (.iconst 5, 1) := by decide +kernel
theorem dX6_runsOf_81 : decode cX6_runsOf 81 = .ok (.if_icmp .ge 49, 3) := by decide +kernel
theorem dX6_runsOf_84 : decode cX6_runsOf 84 = .ok (.aload_n 0, 1) := by decide +kernel
theorem dX6_runsOf_85 : decode cX6_runsOf 85 = .ok (.getfield 7, 3) := by decide +kernel
theorem dX6_runsOf_88 : decode cX6_runsOf 88 = .ok (.iconst 5, 1) := by decide +kernel
theorem dX6_runsOf_89 : decode cX6_runsOf 89 = .ok (.iload 7, 2) := by decide +kernel
theorem dX6_runsOf_91 : decode cX6_runsOf 91 = .ok (.iadd, 1) := by decide +kernel
theorem dX6_runsOf_92 : decode cX6_runsOf 92 = .ok (.iload_n 1, 1) := by decide +kernel
theorem dX6_runsOf_93 : decode cX6_runsOf 93 = .ok (.iload 7, 2) := by decide +kernel
theorem dX6_runsOf_95 : decode cX6_runsOf 95 = .ok (.ishr, 1) := by decide +kernel
theorem dX6_runsOf_96 : decode cX6_runsOf 96 = .ok (.iconst 1, 1) := by decide +kernel
theorem dX6_runsOf_97 : decode cX6_runsOf 97 = .ok (.iand, 1) := by decide +kernel
theorem dX6_runsOf_98 : decode cX6_runsOf 98 = .ok (.iconst 1, 1) := by decide +kernel
theorem dX6_runsOf_99 : decode cX6_runsOf 99 = .ok (.if_icmp .ne 15, 3) := by decide +kernel
theorem dX6_runsOf_102 : decode cX6_runsOf 102 = .ok (.aload_n 0, 1) := by decide +kernel
theorem dX6_runsOf_103 : decode cX6_runsOf 103 = .ok (.getfield 7, 3) := by decide +kernel
theorem dX6_runsOf_106 : decode cX6_runsOf 106 = .ok (.iconst 0, 1) := by decide +kernel
theorem dX6_runsOf_107 : decode cX6_runsOf 107 = .ok (.iload 7, 2) := by decide +kernel
theorem dX6_runsOf_109 : decode cX6_runsOf 109 = .ok (.iadd, 1) := by decide +kernel
theorem dX6_runsOf_110 : decode cX6_runsOf 110 = .ok (.iaload, 1) := by decide +kernel
theorem dX6_runsOf_111 : decode cX6_runsOf 111 = .ok (.goto 12, 3) := by decide +kernel
theorem dX6_runsOf_114 : decode cX6_runsOf 114 = .ok (.aload_n 0, 1) := by decide +kernel
theorem dX6_runsOf_115 : decode cX6_runsOf 115 = .ok (.getfield 7, 3) := by decide +kernel
theorem dX6_runsOf_118 : decode cX6_runsOf 118 = .ok (.iconst 5, 1) := by decide +kernel
theorem dX6_runsOf_119 : decode cX6_runsOf 119 = .ok (.iload 7, 2) := by decide +kernel
theorem dX6_runsOf_121 : decode cX6_runsOf 121 = .ok (.iadd, 1) := by decide +kernel
theorem dX6_runsOf_122 : decode cX6_runsOf 122 = .ok (.iaload, 1) := by decide +kernel
theorem dX6_runsOf_123 : decode cX6_runsOf 123 = .ok (.iastore, 1) := by decide +kernel
theorem dX6_runsOf_124 : decode cX6_runsOf 124 = .ok (.iinc 7 1, 3) := by decide +kernel
theorem dX6_runsOf_127 : decode cX6_runsOf 127 = .ok (.goto (-49), 3) := by decide +kernel
theorem dX6_runsOf_130 : decode cX6_runsOf 130 = .ok (.aload_n 0, 1) := by decide +kernel
theorem dX6_runsOf_131 : decode cX6_runsOf 131 = .ok (.invokevirtual 109, 3) := by decide +kernel
theorem dX6_runsOf_134 : decode cX6_runsOf 134 = .ok (.ifCond .ge 8, 3) := by decide +kernel
theorem dX6_runsOf_137 : decode cX6_runsOf 137 = .ok (.lload 5, 2) := by decide +kernel
theorem dX6_runsOf_139 : decode cX6_runsOf 139 = .ok (.goto 7, 3) := by decide +kernel
theorem dX6_runsOf_142 : decode cX6_runsOf 142 = .ok (.lload 5, 2) := by decide +kernel
theorem dX6_runsOf_144 : decode cX6_runsOf 144 = .ok (.lload_n 3, 1) := by decide +kernel
theorem dX6_runsOf_145 : decode cX6_runsOf 145 = .ok (.ladd, 1) := by decide +kernel
theorem dX6_runsOf_146 : decode cX6_runsOf 146 = .ok (.lreturn, 1) := by decide +kernel
theorem dX6_run_0 : decode cX6_run 0 = .ok (.iload_n 1, 1) := by decide +kernel
theorem dX6_run_1 : decode cX6_run 1 = .ok (.invokestatic 142, 3) := by decide +kernel
theorem dX6_run_4 : decode cX6_run 4 = .ok (.ifCond .ne 5, 3) := by decide +kernel
theorem dX6_run_7 : decode cX6_run 7 = .ok (.iconst (-1), 1) := by decide +kernel
theorem dX6_run_8 : decode cX6_run 8 = .ok (.ireturn, 1) := by decide +kernel
theorem dX6_run_9 : decode cX6_run 9 = .ok (.aload_n 0, 1) := by decide +kernel
theorem dX6_run_10 : decode cX6_run 10 = .ok (.invokevirtual 116, 3) := by decide +kernel
theorem dX6_run_13 : decode cX6_run 13 = .ok (.aload_n 0, 1) := by decide +kernel
theorem dX6_run_14 : decode cX6_run 14 = .ok (.iload_n 1, 1) := by decide +kernel
theorem dX6_run_15 : decode cX6_run 15 = .ok (.invokevirtual 145, 3) := by decide +kernel
theorem dX6_run_18 : decode cX6_run 18 = .ok (.invokestatic 148, 3) := by decide +kernel
theorem dX6_run_21 : decode cX6_run 21 = .ok (.ireturn, 1) := by decide +kernel
theorem dX6_pin_0 : decode cX6_pin 0 = .ok (.iload_n 1, 1) := by decide +kernel
theorem dX6_pin_1 : decode cX6_pin 1 = .ok (.invokestatic 142, 3) := by decide +kernel
theorem dX6_pin_4 : decode cX6_pin 4 = .ok (.ifCond .ne 5, 3) := by decide +kernel
theorem dX6_pin_7 : decode cX6_pin 7 = .ok (.iconst (-1), 1) := by decide +kernel
theorem dX6_pin_8 : decode cX6_pin 8 = .ok (.ireturn, 1) := by decide +kernel
theorem dX6_pin_9 : decode cX6_pin 9 = .ok (.aload_n 0, 1) := by decide +kernel
theorem dX6_pin_10 : decode cX6_pin 10 = .ok (.iload_n 1, 1) := by decide +kernel
theorem dX6_pin_11 : decode cX6_pin 11 = .ok (.invokevirtual 122, 3) := by decide +kernel
theorem dX6_pin_14 : decode cX6_pin 14 = .ok (.istore_n 2, 1) := by decide +kernel
theorem dX6_pin_15 : decode cX6_pin 15 = .ok (.iload_n 2, 1) := by decide +kernel
theorem dX6_pin_16 : decode cX6_pin 16 = .ok (.ifCond .ge 6, 3) := by decide +kernel
theorem dX6_pin_19 : decode cX6_pin 19 = .ok (.bipush (-2), 2) := by decide +kernel
theorem dX6_pin_21 : decode cX6_pin 21 = .ok (.ireturn, 1) := by decide +kernel
theorem dX6_pin_22 : decode cX6_pin 22 = .ok (.aload_n 0, 1) := by decide +kernel
theorem dX6_pin_23 : decode cX6_pin 23 = .ok (.invokevirtual 116, 3) := by decide +kernel
theorem dX6_pin_26 : decode cX6_pin 26 = .ok (.iconst 1, 1) := by decide +kernel
theorem dX6_pin_27 : decode cX6_pin 27 = .ok (.aload_n 0, 1) := by decide +kernel
theorem dX6_pin_28 : decode cX6_pin 28 = .ok (.getfield 7, 3) := by decide +kernel
theorem dX6_pin_31 : decode cX6_pin 31 = .ok (.iload_n 2, 1) := by decide +kernel
end
section
theorem dX6_pin_32 : decode cX6_pin 32 = .ok (.invokestatic 90, 3) := by decide +kernel
theorem dX6_pin_35 : decode cX6_pin 35 = .ok (.bipush 13, 2) := by decide +kernel
theorem dX6_pin_37 : decode cX6_pin 37 = .ok (.iadd, 1) := by decide +kernel
theorem dX6_pin_38 : decode cX6_pin 38 = .ok (.iaload, 1) := by decide +kernel
theorem dX6_pin_39 : decode cX6_pin 39 = .ok (.isub, 1) := by decide +kernel
theorem dX6_pin_40 : decode cX6_pin 40 = .ok (.istore_n 3, 1) := by decide +kernel
theorem dX6_pin_41 : decode cX6_pin 41 = .ok (.aload_n 0, 1) := by decide +kernel
theorem dX6_pin_42 : decode cX6_pin 42 = .ok (.getfield 7, 3) := by decide +kernel
theorem dX6_pin_45 : decode cX6_pin 45 = .ok (.iload_n 2, 1) := by decide +kernel
theorem dX6_pin_46 : decode cX6_pin 46 = .ok (.invokestatic 90, 3) := by decide +kernel
theorem dX6_pin_49 : decode cX6_pin 49 = .ok (.bipush 13, 2) := by decide +kernel
theorem dX6_pin_51 : decode cX6_pin 51 = .ok (.iadd, 1) := by decide +kernel
theorem dX6_pin_52 : decode cX6_pin 52 = .ok (.iload_n 3, 1) := by decide +kernel
theorem dX6_pin_53 : decode cX6_pin 53 = .ok (.iastore, 1) := by decide +kernel
theorem dX6_pin_54 : decode cX6_pin 54 = .ok (.iload_n 3, 1) := by decide +kernel
theorem dX6_pin_55 : decode cX6_pin 55 = .ok (.ifCond .ne 15, 3) := by decide +kernel
theorem dX6_pin_58 : decode cX6_pin 58 = .ok (.aload_n 0, 1) := by decide +kernel
theorem dX6_pin_59 : decode cX6_pin 59 = .ok (.invokevirtual 109, 3) := by decide +kernel
theorem dX6_pin_62 : decode cX6_pin 62 = .ok (.ifCond .ge 8, 3) := by decide +kernel
theorem dX6_pin_65 : decode cX6_pin 65 = .ok (.bipush (-4), 2) := by decide +kernel
theorem dX6_pin_67 : decode cX6_pin 67 = .ok (.goto 4, 3) := by decide +kernel
theorem dX6_pin_70 : decode cX6_pin 70 = .ok (.iload_n 3, 1) := by decide +kernel
theorem dX6_pin_71 : decode cX6_pin 71 = .ok (.ireturn, 1) := by decide +kernel
theorem dX6_forget_0 : decode cX6_forget 0 = .ok (.iload_n 1, 1) := by decide +kernel
theorem dX6_forget_1 : decode cX6_forget 1 = .ok (.invokestatic 142, 3) := by decide +kernel
theorem dX6_forget_4 : decode cX6_forget 4 = .ok (.ifCond .ne 5, 3) := by decide +kernel
theorem dX6_forget_7 : decode cX6_forget 7 = .ok (.iconst (-1), 1) := by decide +kernel
theorem dX6_forget_8 : decode cX6_forget 8 = .ok (.ireturn, 1) := by decide +kernel
theorem dX6_forget_9 : decode cX6_forget 9 = .ok (.aload_n 0, 1) := by decide +kernel
theorem dX6_forget_10 : decode cX6_forget 10 = .ok (.iload_n 1, 1) := by decide +kernel
theorem dX6_forget_11 : decode cX6_forget 11 = .ok (.invokevirtual 122, 3) := by decide +kernel
theorem dX6_forget_14 : decode cX6_forget 14 = .ok (.istore_n 2, 1) := by decide +kernel
theorem dX6_forget_15 : decode cX6_forget 15 = .ok (.iload_n 2, 1) := by decide +kernel
theorem dX6_forget_16 : decode cX6_forget 16 = .ok (.ifCond .ge 6, 3) := by decide +kernel
theorem dX6_forget_19 : decode cX6_forget 19 = .ok (.bipush (-2), 2) := by decide +kernel
theorem dX6_forget_21 : decode cX6_forget 21 = .ok (.ireturn, 1) := by decide +kernel
theorem dX6_forget_22 : decode cX6_forget 22 = .ok (.aload_n 0, 1) := by decide +kernel
theorem dX6_forget_23 : decode cX6_forget 23 = .ok (.invokevirtual 116, 3) := by decide +kernel
theorem dX6_forget_26 : decode cX6_forget 26 = .ok (.aload_n 0, 1) := by decide +kernel
theorem dX6_forget_27 : decode cX6_forget 27 = .ok (.getfield 7, 3) := by decide +kernel
theorem dX6_forget_30 : decode cX6_forget 30 = .ok (.iload_n 2, 1) := by decide +kernel
theorem dX6_forget_31 : decode cX6_forget 31 = .ok (.invokestatic 90, 3) := by decide +kernel
theorem dX6_forget_34 : decode cX6_forget 34 = .ok (.bipush 11, 2) := by decide +kernel
theorem dX6_forget_36 : decode cX6_forget 36 = .ok (.iadd, 1) := by decide +kernel
theorem dX6_forget_37 : decode cX6_forget 37 = .ok (.iaload, 1) := by decide +kernel
theorem dX6_forget_38 : decode cX6_forget 38 = .ok (.istore_n 3, 1) := by decide +kernel
theorem dX6_forget_39 : decode cX6_forget 39 = .ok (.aload_n 0, 1) := by decide +kernel
theorem dX6_forget_40 : decode cX6_forget 40 = .ok (.iload_n 2, 1) := by decide +kernel
theorem dX6_forget_41 : decode cX6_forget 41 = .ok (.invokevirtual 105, 3) := by decide +kernel
theorem dX6_forget_44 : decode cX6_forget 44 = .ok (.aload_n 0, 1) := by decide +kernel
theorem dX6_forget_45 : decode cX6_forget 45 = .ok (.getfield 7, 3) := by decide +kernel
theorem dX6_forget_48 : decode cX6_forget 48 = .ok (.bipush 98, 2) := by decide +kernel
theorem dX6_forget_50 : decode cX6_forget 50 = .ok (.dup2, 1) := by decide +kernel
theorem dX6_forget_51 : decode cX6_forget 51 = .ok (.iaload, 1) := by decide +kernel
theorem dX6_forget_52 : decode cX6_forget 52 = .ok (.iconst 1, 1) := by decide +kernel
theorem dX6_forget_53 : decode cX6_forget 53 = .ok (.iadd, 1) := by decide +kernel
theorem dX6_forget_54 : decode cX6_forget 54 = .ok (.iastore, 1) := by decide +kernel
theorem dX6_forget_55 : decode cX6_forget 55 = .ok (.iload_n 3, 1) := by decide +kernel
theorem dX6_forget_56 : decode cX6_forget 56 = .ok (.ireturn, 1) := by decide +kernel
theorem dX6_drift_0 : decode cX6_drift 0 = .ok (.iload_n 1, 1) := by decide +kernel
theorem dX6_drift_1 : decode cX6_drift 1 = .ok (.bipush 100, 2) := by decide +kernel
theorem dX6_drift_3 : decode cX6_drift 3 = .ok (.sipush 1000, 3) := by decide +kernel
theorem dX6_drift_6 : decode cX6_drift 6 = .ok (.invokestatic 63, 3) := by decide +kernel
theorem dX6_drift_9 : decode cX6_drift 9 = .ok (.ifCond .ne 5, 3) := by decide +kernel
theorem dX6_drift_12 : decode cX6_drift 12 = .ok (.iconst (-1), 1) := by decide +kernel
theorem dX6_drift_13 : decode cX6_drift 13 = .ok (.ireturn, 1) := by decide +kernel
theorem dX6_drift_14 : decode cX6_drift 14 = .ok (.aload_n 0, 1) := by decide +kernel
theorem dX6_drift_15 : decode cX6_drift 15 = .ok (.invokevirtual 116, 3) := by decide +kernel
theorem dX6_drift_18 : decode cX6_drift 18 = .ok (.aload_n 0, 1) := by decide +kernel
theorem dX6_drift_19 : decode cX6_drift 19 = .ok (.getfield 7, 3) := by decide +kernel
theorem dX6_drift_22 : decode cX6_drift 22 = .ok (.bipush 35, 2) := by decide +kernel
theorem dX6_drift_24 : decode cX6_drift 24 = .ok (.iload_n 1, 1) := by decide +kernel
theorem dX6_drift_25 : decode cX6_drift 25 = .ok (.iastore, 1) := by decide +kernel
theorem dX6_drift_26 : decode cX6_drift 26 = .ok (.aload_n 0, 1) := by decide +kernel
theorem dX6_drift_27 : decode cX6_drift 27 = .ok (.invokevirtual 109, 3) := by decide +kernel
theorem dX6_drift_30 : decode cX6_drift 30 = .ok (.ireturn, 1) := by decide +kernel
theorem dX6_append_0 : decode cX6_append 0 = .ok (.iload_n 1, 1) := by decide +kernel
theorem dX6_append_1 : decode cX6_append 1 = .ok (.bipush 33, 2) := by decide +kernel
theorem dX6_append_3 : decode cX6_append 3 = .ok (.bipush 126, 2) := by decide +kernel
theorem dX6_append_5 : decode cX6_append 5 = .ok (.invokestatic 63, 3) := by decide +kernel
theorem dX6_append_8 : decode cX6_append 8 = .ok (.ifCond .ne 5, 3) := by decide +kernel
theorem dX6_append_11 : decode cX6_append 11 = .ok (.iconst (-1), 1) := by decide +kernel
theorem dX6_append_12 : decode cX6_append 12 = .ok (.ireturn, 1) := by decide +kernel
theorem dX6_append_13 : decode cX6_append 13 = .ok (.aload_n 0, 1) := by decide +kernel
theorem dX6_append_14 : decode cX6_append 14 = .ok (.getfield 152, 3) := by decide +kernel
theorem dX6_append_17 : decode cX6_append 17 = .ok (.bipush 60, 2) := by decide +kernel
theorem dX6_append_19 : decode cX6_append 19 = .ok (.if_icmp .ne 6, 3) := by decide +kernel
theorem dX6_append_22 : decode cX6_append 22 = .ok (.bipush (-3), 2) := by decide +kernel
theorem dX6_append_24 : decode cX6_append 24 = .ok (.ireturn, 1) := by decide +kernel
theorem dX6_append_25 : decode cX6_append 25 = .ok (.aload_n 0, 1) := by decide +kernel
theorem dX6_append_26 : decode cX6_append 26 = .ok (.getfield 35, 3) := by decide +kernel
theorem dX6_append_29 : decode cX6_append 29 = .ok (.aload_n 0, 1) := by decide +kernel
theorem dX6_append_30 : decode cX6_append 30 = .ok (.getfield 152, 3) := by decide +kernel
theorem dX6_append_33 : decode cX6_append 33 = .ok (.iload_n 1, 1) := by decide +kernel
theorem dX6_append_34 : decode cX6_append 34 = .ok (.iastore, 1) := by decide +kernel
theorem dX6_append_35 : decode cX6_append 35 = .ok (.aload_n 0, 1) := by decide +kernel
theorem dX6_append_36 : decode cX6_append 36 = .ok (.dup, 1) := by decide +kernel
theorem dX6_append_37 : decode cX6_append 37 = .ok (.getfield 152, 3) := by decide +kernel
theorem dX6_append_40 : decode cX6_append 40 = .ok (.iconst 1, 1) := by decide +kernel
theorem dX6_append_41 : decode cX6_append 41 = .ok (.iadd, 1) := by decide +kernel
theorem dX6_append_42 : decode cX6_append 42 = .ok (.putfield 152, 3) := by decide +kernel
theorem dX6_append_45 : decode cX6_append 45 = .ok (.aload_n 0, 1) := by decide +kernel
theorem dX6_append_46 : decode cX6_append 46 = .ok (.getfield 152, 3) := by decide +kernel
theorem dX6_append_49 : decode cX6_append 49 = .ok (.ireturn, 1) := by decide +kernel
theorem dX6_clear_0 : decode cX6_clear 0 = .ok (.aload_n 0, 1) := by decide +kernel
theorem dX6_clear_1 : decode cX6_clear 1 = .ok (.getfield 152, 3) := by decide +kernel
theorem dX6_clear_4 : decode cX6_clear 4 = .ok (.istore_n 1, 1) := by decide +kernel
theorem dX6_clear_5 : decode cX6_clear 5 = .ok (.aload_n 0, 1) := by decide +kernel
theorem dX6_clear_6 : decode cX6_clear 6 = .ok (.iconst 0, 1) := by decide +kernel
theorem dX6_clear_7 : decode cX6_clear 7 = .ok (.putfield 152, 3) := by decide +kernel
theorem dX6_clear_10 : decode cX6_clear 10 = .ok (.iload_n 1, 1) := by decide +kernel
theorem dX6_clear_11 : decode cX6_clear 11 = .ok (.ireturn, 1) := by decide +kernel
theorem dX6_isAt_0 : decode cX6_isAt 0 = .ok (.aload_n 0, 1) := by decide +kernel
theorem dX6_isAt_1 : decode cX6_isAt 1 = .ok (.getfield 155, 3) := by decide +kernel
theorem dX6_isAt_4 : decode cX6_isAt 4 = .ok (.aload_n 0, 1) := by decide +kernel
theorem dX6_isAt_5 : decode cX6_isAt 5 = .ok (.getfield 152, 3) := by decide +kernel
theorem dX6_isAt_8 : decode cX6_isAt 8 = .ok (.if_icmp .ge 24, 3) := by decide +kernel
theorem dX6_isAt_11 : decode cX6_isAt 11 = .ok (.aload_n 0, 1) := by decide +kernel
theorem dX6_isAt_12 : decode cX6_isAt 12 = .ok (.getfield 35, 3) := by decide +kernel
theorem dX6_isAt_15 : decode cX6_isAt 15 = .ok (.aload_n 0, 1) := by decide +kernel
theorem dX6_isAt_16 : decode cX6_isAt 16 = .ok (.getfield 155, 3) := by decide +kernel
theorem dX6_isAt_19 : decode cX6_isAt 19 = .ok (.iaload, 1) := by decide +kernel
theorem dX6_isAt_20 : decode cX6_isAt 20 = .ok (.iload_n 1, 1) := by decide +kernel
theorem dX6_isAt_21 : decode cX6_isAt 21 = .ok (.iload_n 2, 1) := by decide +kernel
theorem dX6_isAt_22 : decode cX6_isAt 22 = .ok (.invokestatic 63, 3) := by decide +kernel
theorem dX6_isAt_25 : decode cX6_isAt 25 = .ok (.ifCond .eq 7, 3) := by decide +kernel
theorem dX6_isAt_28 : decode cX6_isAt 28 = .ok (.iconst 1, 1) := by decide +kernel
theorem dX6_isAt_29 : decode cX6_isAt 29 = .ok (.goto 4, 3) := by decide +kernel
theorem dX6_isAt_32 : decode cX6_isAt 32 = .ok (.iconst 0, 1) := by decide +kernel
theorem dX6_isAt_33 : decode cX6_isAt 33 = .ok (.ireturn, 1) := by decide +kernel
theorem dX6_sign_0 : decode cX6_sign 0 = .ok (.aload_n 0, 1) := by decide +kernel
theorem dX6_sign_1 : decode cX6_sign 1 = .ok (.iload_n 1, 1) := by decide +kernel
theorem dX6_sign_2 : decode cX6_sign 2 = .ok (.iload_n 1, 1) := by decide +kernel
theorem dX6_sign_3 : decode cX6_sign 3 = .ok (.invokevirtual 158, 3) := by decide +kernel
theorem dX6_sign_6 : decode cX6_sign 6 = .ok (.istore_n 2, 1) := by decide +kernel
theorem dX6_sign_7 : decode cX6_sign 7 = .ok (.aload_n 0, 1) := by decide +kernel
theorem dX6_sign_8 : decode cX6_sign 8 = .ok (.dup, 1) := by decide +kernel
theorem dX6_sign_9 : decode cX6_sign 9 = .ok (.getfield 155, 3) := by decide +kernel
theorem dX6_sign_12 : decode cX6_sign 12 = .ok (.iload_n 2, 1) := by decide +kernel
theorem dX6_sign_13 : decode cX6_sign 13 = .ok (.ifCond .eq 7, 3) := by decide +kernel
theorem dX6_sign_16 : decode cX6_sign 16 = .ok (.iconst 1, 1) := by decide +kernel
theorem dX6_sign_17 : decode cX6_sign 17 = .ok (.goto 4, 3) := by decide +kernel
theorem dX6_sign_20 : decode cX6_sign 20 = .ok (.iconst 0, 1) := by decide +kernel
theorem dX6_sign_21 : decode cX6_sign 21 = .ok (.iadd, 1) := by decide +kernel
theorem dX6_sign_22 : decode cX6_sign 22 = .ok (.putfield 155, 3) := by decide +kernel
theorem dX6_sign_25 : decode cX6_sign 25 = .ok (.iload_n 2, 1) := by decide +kernel
theorem dX6_sign_26 : decode cX6_sign 26 = .ok (.ireturn, 1) := by decide +kernel
theorem dX6_digits_0 : decode cX6_digits 0 = .ok (.iconst 0, 1) := by decide +kernel
theorem dX6_digits_1 : decode cX6_digits 1 = .ok (.istore_n 1, 1) := by decide +kernel
theorem dX6_digits_2 : decode cX6_digits 2 = .ok (.bipush 48, 2) := by decide +kernel
theorem dX6_digits_4 : decode cX6_digits 4 = .ok (.istore_n 2, 1) := by decide +kernel
theorem dX6_digits_5 : decode cX6_digits 5 = .ok (.aload_n 0, 1) := by decide +kernel
theorem dX6_digits_6 : decode cX6_digits 6 = .ok (.iload_n 2, 1) := by decide +kernel
theorem dX6_digits_7 : decode cX6_digits 7 = .ok (.bipush 52, 2) := by decide +kernel
theorem dX6_digits_9 : decode cX6_digits 9 = .ok (.invokevirtual 158, 3) := by decide +kernel
theorem dX6_digits_12 : decode cX6_digits 12 = .ok (.ifCond .eq 45, 3) := by decide +kernel
theorem dX6_digits_15 : decode cX6_digits 15 = .ok (.iload_n 1, 1) := by decide +kernel
theorem dX6_digits_16 : decode cX6_digits 16 = .ok (.iconst 1, 1) := by decide +kernel
theorem dX6_digits_17 : decode cX6_digits 17 = .ok (.aload_n 0, 1) := by decide +kernel
theorem dX6_digits_18 : decode cX6_digits 18 = .ok (.getfield 35, 3) := by decide +kernel
theorem dX6_digits_21 : decode cX6_digits 21 = .ok (.aload_n 0, 1) := by decide +kernel
theorem dX6_digits_22 : decode cX6_digits 22 = .ok (.getfield 155, 3) := by decide +kernel
theorem dX6_digits_25 : decode cX6_digits 25 = .ok (.iaload, 1) := by decide +kernel
theorem dX6_digits_26 : decode cX6_digits 26 = .ok (.bipush 48, 2) := by decide +kernel
theorem dX6_digits_28 : decode cX6_digits 28 = .ok (.isub, 1) := by decide +kernel
theorem dX6_digits_29 : decode cX6_digits 29 = .ok (.ishl, 1) := by decide +kernel
theorem dX6_digits_30 : decode cX6_digits 30 = .ok (.ior, 1) := by decide +kernel
theorem dX6_digits_31 : decode cX6_digits 31 = .ok (.istore_n 1, 1) := by decide +kernel
theorem dX6_digits_32 : decode cX6_digits 32 = .ok (.aload_n 0, 1) := by decide +kernel
theorem dX6_digits_33 : decode cX6_digits 33 = .ok (.getfield 35, 3) := by decide +kernel
theorem dX6_digits_36 : decode cX6_digits 36 = .ok (.aload_n 0, 1) := by decide +kernel
theorem dX6_digits_37 : decode cX6_digits 37 = .ok (.getfield 155, 3) := by decide +kernel
theorem dX6_digits_40 : decode cX6_digits 40 = .ok (.iaload, 1) := by decide +kernel
theorem dX6_digits_41 : decode cX6_digits 41 = .ok (.iconst 1, 1) := by decide +kernel
theorem dX6_digits_42 : decode cX6_digits 42 = .ok (.iadd, 1) := by decide +kernel
theorem dX6_digits_43 : decode cX6_digits 43 = .ok (.istore_n 2, 1) := by decide +kernel
theorem dX6_digits_44 : decode cX6_digits 44 = .ok (.aload_n 0, 1) := by decide +kernel
theorem dX6_digits_45 : decode cX6_digits 45 = .ok (.dup, 1) := by decide +kernel
theorem dX6_digits_46 : decode cX6_digits 46 = .ok (.getfield 155, 3) := by decide +kernel
theorem dX6_digits_49 : decode cX6_digits 49 = .ok (.iconst 1, 1) := by decide +kernel
theorem dX6_digits_50 : decode cX6_digits 50 = .ok (.iadd, 1) := by decide +kernel
theorem dX6_digits_51 : decode cX6_digits 51 = .ok (.putfield 155, 3) := by decide +kernel
theorem dX6_digits_54 : decode cX6_digits 54 = .ok (.goto (-49), 3) := by decide +kernel
theorem dX6_digits_57 : decode cX6_digits 57 = .ok (.aload_n 0, 1) := by decide +kernel
theorem dX6_digits_58 : decode cX6_digits 58 = .ok (.getfield 50, 3) := by decide +kernel
theorem dX6_digits_61 : decode cX6_digits 61 = .ok (.iconst 4, 1) := by decide +kernel
theorem dX6_digits_62 : decode cX6_digits 62 = .ok (.aload_n 0, 1) := by decide +kernel
theorem dX6_digits_63 : decode cX6_digits 63 = .ok (.getfield 161, 3) := by decide +kernel
theorem dX6_digits_66 : decode cX6_digits 66 = .ok (.imul, 1) := by decide +kernel
theorem dX6_digits_67 : decode cX6_digits 67 = .ok (.iconst 1, 1) := by decide +kernel
theorem dX6_digits_68 : decode cX6_digits 68 = .ok (.iadd, 1) := by decide +kernel
theorem dX6_digits_69 : decode cX6_digits 69 = .ok (.iload_n 1, 1) := by decide +kernel
theorem dX6_digits_70 : decode cX6_digits 70 = .ok (.iastore, 1) := by decide +kernel
theorem dX6_digits_71 : decode cX6_digits 71 = .ok (.iload_n 1, 1) := by decide +kernel
theorem dX6_digits_72 : decode cX6_digits 72 = .ok (.ifCond .le 7, 3) := by decide +kernel
theorem dX6_digits_75 : decode cX6_digits 75 = .ok (.iconst 1, 1) := by decide +kernel
theorem dX6_digits_76 : decode cX6_digits 76 = .ok (.goto 4, 3) := by decide +kernel
theorem dX6_digits_79 : decode cX6_digits 79 = .ok (.iconst 0, 1) := by decide +kernel
theorem dX6_digits_80 : decode cX6_digits 80 = .ok (.ireturn, 1) := by decide +kernel
theorem dX6_oneTable_0 : decode cX6_oneTable 0 = .ok (.aload_n 0, 1) := by decide +kernel
theorem dX6_oneTable_1 : decode cX6_oneTable 1 = .ok (.bipush 48, 2) := by decide +kernel
theorem dX6_oneTable_3 : decode cX6_oneTable 3 = .ok (.bipush 52, 2) := by decide +kernel
theorem dX6_oneTable_5 : decode cX6_oneTable 5 = .ok (.invokevirtual 158, 3) := by decide +kernel
theorem dX6_oneTable_8 : decode cX6_oneTable 8 = .ok (.istore_n 1, 1) := by decide +kernel
theorem dX6_oneTable_9 : decode cX6_oneTable 9 = .ok (.aload_n 0, 1) := by decide +kernel
theorem dX6_oneTable_10 : decode cX6_oneTable 10 = .ok (.getfield 50, 3) := by decide +kernel
theorem dX6_oneTable_13 : decode cX6_oneTable 13 = .ok (.iconst 4, 1) := by decide +kernel
theorem dX6_oneTable_14 : decode cX6_oneTable 14 = .ok (.aload_n 0, 1) := by decide +kernel
theorem dX6_oneTable_15 : decode cX6_oneTable 15 = .ok (.getfield 161, 3) := by decide +kernel
theorem dX6_oneTable_18 : decode cX6_oneTable 18 = .ok (.imul, 1) := by decide +kernel
theorem dX6_oneTable_19 : decode cX6_oneTable 19 = .ok (.iconst 1, 1) := by decide +kernel
theorem dX6_oneTable_20 : decode cX6_oneTable 20 = .ok (.iadd, 1) := by decide +kernel
theorem dX6_oneTable_21 : decode cX6_oneTable 21 = .ok (.iload_n 1, 1) := by decide +kernel
theorem dX6_oneTable_22 : decode cX6_oneTable 22 = .ok (.ifCond .eq 18, 3) := by decide +kernel
theorem dX6_oneTable_25 : decode cX6_oneTable 25 = .ok (.aload_n 0, 1) := by decide +kernel
theorem dX6_oneTable_26 : decode cX6_oneTable 26 = .ok (.getfield 35, 3) := by decide +kernel
theorem dX6_oneTable_29 : decode cX6_oneTable 29 = .ok (.aload_n 0, 1) := by decide +kernel
theorem dX6_oneTable_30 : decode cX6_oneTable 30 = .ok (.getfield 155, 3) := by decide +kernel
theorem dX6_oneTable_33 : decode cX6_oneTable 33 = .ok (.iaload, 1) := by decide +kernel
theorem dX6_oneTable_34 : decode cX6_oneTable 34 = .ok (.bipush 48, 2) := by decide +kernel
theorem dX6_oneTable_36 : decode cX6_oneTable 36 = .ok (.isub, 1) := by decide +kernel
theorem dX6_oneTable_37 : decode cX6_oneTable 37 = .ok (.goto 4, 3) := by decide +kernel
theorem dX6_oneTable_40 : decode cX6_oneTable 40 = .ok (.iconst 0, 1) := by decide +kernel
theorem dX6_oneTable_41 : decode cX6_oneTable 41 = .ok (.iastore, 1) := by decide +kernel
theorem dX6_oneTable_42 : decode cX6_oneTable 42 = .ok (.aload_n 0, 1) := by decide +kernel
theorem dX6_oneTable_43 : decode cX6_oneTable 43 = .ok (.dup, 1) := by decide +kernel
theorem dX6_oneTable_44 : decode cX6_oneTable 44 = .ok (.getfield 155, 3) := by decide +kernel
theorem dX6_oneTable_47 : decode cX6_oneTable 47 = .ok (.iload_n 1, 1) := by decide +kernel
theorem dX6_oneTable_48 : decode cX6_oneTable 48 = .ok (.ifCond .eq 7, 3) := by decide +kernel
theorem dX6_oneTable_51 : decode cX6_oneTable 51 = .ok (.iconst 1, 1) := by decide +kernel
theorem dX6_oneTable_52 : decode cX6_oneTable 52 = .ok (.goto 4, 3) := by decide +kernel
theorem dX6_oneTable_55 : decode cX6_oneTable 55 = .ok (.iconst 0, 1) := by decide +kernel
theorem dX6_oneTable_56 : decode cX6_oneTable 56 = .ok (.iadd, 1) := by decide +kernel
theorem dX6_oneTable_57 : decode cX6_oneTable 57 = .ok (.putfield 155, 3) := by decide +kernel
theorem dX6_oneTable_60 : decode cX6_oneTable 60 = .ok (.iload_n 1, 1) := by decide +kernel
theorem dX6_oneTable_61 : decode cX6_oneTable 61 = .ok (.ireturn, 1) := by decide +kernel
theorem dX6_number_0 : decode cX6_number 0 = .ok (.aload_n 0, 1) := by decide +kernel
theorem dX6_number_1 : decode cX6_number 1 = .ok (.bipush 49, 2) := by decide +kernel
theorem dX6_number_3 : decode cX6_number 3 = .ok (.bipush 57, 2) := by decide +kernel
theorem dX6_number_5 : decode cX6_number 5 = .ok (.invokevirtual 158, 3) := by decide +kernel
theorem dX6_number_8 : decode cX6_number 8 = .ok (.ifCond .ne 5, 3) := by decide +kernel
theorem dX6_number_11 : decode cX6_number 11 = .ok (.iconst 0, 1) := by decide +kernel
theorem dX6_number_12 : decode cX6_number 12 = .ok (.ireturn, 1) := by decide +kernel
theorem dX6_number_13 : decode cX6_number 13 = .ok (.iconst 0, 1) := by decide +kernel
theorem dX6_number_14 : decode cX6_number 14 = .ok (.istore_n 1, 1) := by decide +kernel
theorem dX6_number_15 : decode cX6_number 15 = .ok (.aload_n 0, 1) := by decide +kernel
theorem dX6_number_16 : decode cX6_number 16 = .ok (.bipush 48, 2) := by decide +kernel
theorem dX6_number_18 : decode cX6_number 18 = .ok (.bipush 57, 2) := by decide +kernel
theorem dX6_number_20 : decode cX6_number 20 = .ok (.invokevirtual 158, 3) := by decide +kernel
theorem dX6_number_23 : decode cX6_number 23 = .ok (.ifCond .eq 57, 3) := by decide +kernel
theorem dX6_number_26 : decode cX6_number 26 = .ok (.bipush 10, 2) := by decide +kernel
theorem dX6_number_28 : decode cX6_number 28 = .ok (.iload_n 1, 1) := by decide +kernel
theorem dX6_number_29 : decode cX6_number 29 = .ok (.imul, 1) := by decide +kernel
theorem dX6_number_30 : decode cX6_number 30 = .ok (.aload_n 0, 1) := by decide +kernel
theorem dX6_number_31 : decode cX6_number 31 = .ok (.getfield 35, 3) := by decide +kernel
theorem dX6_number_34 : decode cX6_number 34 = .ok (.aload_n 0, 1) := by decide +kernel
theorem dX6_number_35 : decode cX6_number 35 = .ok (.getfield 155, 3) := by decide +kernel
theorem dX6_number_38 : decode cX6_number 38 = .ok (.iaload, 1) := by decide +kernel
theorem dX6_number_39 : decode cX6_number 39 = .ok (.iadd, 1) := by decide +kernel
theorem dX6_number_40 : decode cX6_number 40 = .ok (.bipush 48, 2) := by decide +kernel
theorem dX6_number_42 : decode cX6_number 42 = .ok (.isub, 1) := by decide +kernel
theorem dX6_number_43 : decode cX6_number 43 = .ok (.sipush 500, 3) := by decide +kernel
theorem dX6_number_46 : decode cX6_number 46 = .ok (.if_icmp .gt 34, 3) := by decide +kernel
theorem dX6_number_49 : decode cX6_number 49 = .ok (.bipush 10, 2) := by decide +kernel
theorem dX6_number_51 : decode cX6_number 51 = .ok (.iload_n 1, 1) := by decide +kernel
theorem dX6_number_52 : decode cX6_number 52 = .ok (.imul, 1) := by decide +kernel
theorem dX6_number_53 : decode cX6_number 53 = .ok (.aload_n 0, 1) := by decide +kernel
theorem dX6_number_54 : decode cX6_number 54 = .ok (.getfield 35, 3) := by decide +kernel
theorem dX6_number_57 : decode cX6_number 57 = .ok (.aload_n 0, 1) := by decide +kernel
theorem dX6_number_58 : decode cX6_number 58 = .ok (.getfield 155, 3) := by decide +kernel
theorem dX6_number_61 : decode cX6_number 61 = .ok (.iaload, 1) := by decide +kernel
theorem dX6_number_62 : decode cX6_number 62 = .ok (.iadd, 1) := by decide +kernel
theorem dX6_number_63 : decode cX6_number 63 = .ok (.bipush 48, 2) := by decide +kernel
theorem dX6_number_65 : decode cX6_number 65 = .ok (.isub, 1) := by decide +kernel
theorem dX6_number_66 : decode cX6_number 66 = .ok (.istore_n 1, 1) := by decide +kernel
theorem dX6_number_67 : decode cX6_number 67 = .ok (.aload_n 0, 1) := by decide +kernel
theorem dX6_number_68 : decode cX6_number 68 = .ok (.dup, 1) := by decide +kernel
theorem dX6_number_69 : decode cX6_number 69 = .ok (.getfield 155, 3) := by decide +kernel
theorem dX6_number_72 : decode cX6_number 72 = .ok (.iconst 1, 1) := by decide +kernel
theorem dX6_number_73 : decode cX6_number 73 = .ok (.iadd, 1) := by decide +kernel
theorem dX6_number_74 : decode cX6_number 74 = .ok (.putfield 155, 3) := by decide +kernel
theorem dX6_number_77 : decode cX6_number 77 = .ok (.goto (-62), 3) := by decide +kernel
theorem dX6_number_80 : decode cX6_number 80 = .ok (.aload_n 0, 1) := by decide +kernel
theorem dX6_number_81 : decode cX6_number 81 = .ok (.getfield 50, 3) := by decide +kernel
theorem dX6_number_84 : decode cX6_number 84 = .ok (.iconst 4, 1) := by decide +kernel
theorem dX6_number_85 : decode cX6_number 85 = .ok (.aload_n 0, 1) := by decide +kernel
theorem dX6_number_86 : decode cX6_number 86 = .ok (.getfield 161, 3) := by decide +kernel
theorem dX6_number_89 : decode cX6_number 89 = .ok (.imul, 1) := by decide +kernel
theorem dX6_number_90 : decode cX6_number 90 = .ok (.iconst 2, 1) := by decide +kernel
theorem dX6_number_91 : decode cX6_number 91 = .ok (.iadd, 1) := by decide +kernel
theorem dX6_number_92 : decode cX6_number 92 = .ok (.iload_n 1, 1) := by decide +kernel
theorem dX6_number_93 : decode cX6_number 93 = .ok (.iastore, 1) := by decide +kernel
theorem dX6_number_94 : decode cX6_number 94 = .ok (.iconst 1, 1) := by decide +kernel
theorem dX6_number_95 : decode cX6_number 95 = .ok (.ireturn, 1) := by decide +kernel
theorem dX6_reads_0 : decode cX6_reads 0 = .ok (.aload_n 0, 1) := by decide +kernel
theorem dX6_reads_1 : decode cX6_reads 1 = .ok (.getfield 155, 3) := by decide +kernel
theorem dX6_reads_4 : decode cX6_reads 4 = .ok (.aload_n 0, 1) := by decide +kernel
theorem dX6_reads_5 : decode cX6_reads 5 = .ok (.getfield 152, 3) := by decide +kernel
theorem dX6_reads_8 : decode cX6_reads 8 = .ok (.if_icmp .ge 15, 3) := by decide +kernel
theorem dX6_reads_11 : decode cX6_reads 11 = .ok (.aload_n 0, 1) := by decide +kernel
theorem dX6_reads_12 : decode cX6_reads 12 = .ok (.getfield 35, 3) := by decide +kernel
theorem dX6_reads_15 : decode cX6_reads 15 = .ok (.aload_n 0, 1) := by decide +kernel
theorem dX6_reads_16 : decode cX6_reads 16 = .ok (.getfield 155, 3) := by decide +kernel
theorem dX6_reads_19 : decode cX6_reads 19 = .ok (.iaload, 1) := by decide +kernel
theorem dX6_reads_20 : decode cX6_reads 20 = .ok (.goto 4, 3) := by decide +kernel
theorem dX6_reads_23 : decode cX6_reads 23 = .ok (.iconst 0, 1) := by decide +kernel
theorem dX6_reads_24 : decode cX6_reads 24 = .ok (.istore_n 1, 1) := by decide +kernel
theorem dX6_reads_25 : decode cX6_reads 25 = .ok (.aload_n 0, 1) := by decide +kernel
theorem dX6_reads_26 : decode cX6_reads 26 = .ok (.getfield 50, 3) := by decide +kernel
theorem dX6_reads_29 : decode cX6_reads 29 = .ok (.iconst 4, 1) := by decide +kernel
theorem dX6_reads_30 : decode cX6_reads 30 = .ok (.aload_n 0, 1) := by decide +kernel
theorem dX6_reads_31 : decode cX6_reads 31 = .ok (.getfield 161, 3) := by decide +kernel
theorem dX6_reads_34 : decode cX6_reads 34 = .ok (.imul, 1) := by decide +kernel
theorem dX6_reads_35 : decode cX6_reads 35 = .ok (.iload_n 1, 1) := by decide +kernel
theorem dX6_reads_36 : decode cX6_reads 36 = .ok (.iastore, 1) := by decide +kernel
theorem dX6_reads_37 : decode cX6_reads 37 = .ok (.aload_n 0, 1) := by decide +kernel
theorem dX6_reads_38 : decode cX6_reads 38 = .ok (.getfield 50, 3) := by decide +kernel
theorem dX6_reads_41 : decode cX6_reads 41 = .ok (.iconst 4, 1) := by decide +kernel
theorem dX6_reads_42 : decode cX6_reads 42 = .ok (.aload_n 0, 1) := by decide +kernel
theorem dX6_reads_43 : decode cX6_reads 43 = .ok (.getfield 161, 3) := by decide +kernel
theorem dX6_reads_46 : decode cX6_reads 46 = .ok (.imul, 1) := by decide +kernel
theorem dX6_reads_47 : decode cX6_reads 47 = .ok (.iconst 3, 1) := by decide +kernel
theorem dX6_reads_48 : decode cX6_reads 48 = .ok (.iadd, 1) := by decide +kernel
theorem dX6_reads_49 : decode cX6_reads 49 = .ok (.aload_n 0, 1) := by decide +kernel
theorem dX6_reads_50 : decode cX6_reads 50 = .ok (.getfield 155, 3) := by decide +kernel
theorem dX6_reads_53 : decode cX6_reads 53 = .ok (.iastore, 1) := by decide +kernel
theorem dX6_reads_54 : decode cX6_reads 54 = .ok (.iload_n 1, 1) := by decide +kernel
theorem dX6_reads_55 : decode cX6_reads 55 = .ok (.lookupswitch 110 #[(99, 56), (112, 41), (113, 41), (114, 71)], 41) := by decide +kernel
theorem dX6_reads_96 : decode cX6_reads 96 = .ok (.aload_n 0, 1) := by decide +kernel
theorem dX6_reads_97 : decode cX6_reads 97 = .ok (.dup, 1) := by decide +kernel
theorem dX6_reads_98 : decode cX6_reads 98 = .ok (.getfield 155, 3) := by decide +kernel
theorem dX6_reads_101 : decode cX6_reads 101 = .ok (.iconst 1, 1) := by decide +kernel
theorem dX6_reads_102 : decode cX6_reads 102 = .ok (.iadd, 1) := by decide +kernel
theorem dX6_reads_103 : decode cX6_reads 103 = .ok (.putfield 155, 3) := by decide +kernel
theorem dX6_reads_106 : decode cX6_reads 106 = .ok (.aload_n 0, 1) := by decide +kernel
theorem dX6_reads_107 : decode cX6_reads 107 = .ok (.invokevirtual 164, 3) := by decide +kernel
theorem dX6_reads_110 : decode cX6_reads 110 = .ok (.ireturn, 1) := by decide +kernel
theorem dX6_reads_111 : decode cX6_reads 111 = .ok (.aload_n 0, 1) := by decide +kernel
theorem dX6_reads_112 : decode cX6_reads 112 = .ok (.dup, 1) := by decide +kernel
theorem dX6_reads_113 : decode cX6_reads 113 = .ok (.getfield 155, 3) := by decide +kernel
theorem dX6_reads_116 : decode cX6_reads 116 = .ok (.iconst 1, 1) := by decide +kernel
theorem dX6_reads_117 : decode cX6_reads 117 = .ok (.iadd, 1) := by decide +kernel
theorem dX6_reads_118 : decode cX6_reads 118 = .ok (.putfield 155, 3) := by decide +kernel
theorem dX6_reads_121 : decode cX6_reads 121 = .ok (.aload_n 0, 1) := by decide +kernel
theorem dX6_reads_122 : decode cX6_reads 122 = .ok (.invokevirtual 167, 3) := by decide +kernel
theorem dX6_reads_125 : decode cX6_reads 125 = .ok (.ireturn, 1) := by decide +kernel
theorem dX6_reads_126 : decode cX6_reads 126 = .ok (.aload_n 0, 1) := by decide +kernel
theorem dX6_reads_127 : decode cX6_reads 127 = .ok (.dup, 1) := by decide +kernel
theorem dX6_reads_128 : decode cX6_reads 128 = .ok (.getfield 155, 3) := by decide +kernel
theorem dX6_reads_131 : decode cX6_reads 131 = .ok (.iconst 1, 1) := by decide +kernel
theorem dX6_reads_132 : decode cX6_reads 132 = .ok (.iadd, 1) := by decide +kernel
theorem dX6_reads_133 : decode cX6_reads 133 = .ok (.putfield 155, 3) := by decide +kernel
theorem dX6_reads_136 : decode cX6_reads 136 = .ok (.aload_n 0, 1) := by decide +kernel
theorem dX6_reads_137 : decode cX6_reads 137 = .ok (.invokevirtual 167, 3) := by decide +kernel
theorem dX6_reads_140 : decode cX6_reads 140 = .ok (.ifCond .eq 23, 3) := by decide +kernel
theorem dX6_reads_143 : decode cX6_reads 143 = .ok (.aload_n 0, 1) := by decide +kernel
theorem dX6_reads_144 : decode cX6_reads 144 = .ok (.bipush 61, 2) := by decide +kernel
theorem dX6_reads_146 : decode cX6_reads 146 = .ok (.invokevirtual 170, 3) := by decide +kernel
theorem dX6_reads_149 : decode cX6_reads 149 = .ok (.ifCond .eq 14, 3) := by decide +kernel
theorem dX6_reads_152 : decode cX6_reads 152 = .ok (.aload_n 0, 1) := by decide +kernel
theorem dX6_reads_153 : decode cX6_reads 153 = .ok (.invokevirtual 173, 3) := by decide +kernel
theorem dX6_reads_156 : decode cX6_reads 156 = .ok (.ifCond .eq 7, 3) := by decide +kernel
theorem dX6_reads_159 : decode cX6_reads 159 = .ok (.iconst 1, 1) := by decide +kernel
theorem dX6_reads_160 : decode cX6_reads 160 = .ok (.goto 4, 3) := by decide +kernel
theorem dX6_reads_163 : decode cX6_reads 163 = .ok (.iconst 0, 1) := by decide +kernel
theorem dX6_reads_164 : decode cX6_reads 164 = .ok (.ireturn, 1) := by decide +kernel
theorem dX6_reads_165 : decode cX6_reads 165 = .ok (.iconst 0, 1) := by decide +kernel
theorem dX6_reads_166 : decode cX6_reads 166 = .ok (.ireturn, 1) := by decide +kernel
theorem dX6_fault_0 : decode cX6_fault 0 = .ok (.aload_n 0, 1) := by decide +kernel
theorem dX6_fault_1 : decode cX6_fault 1 = .ok (.iconst 0, 1) := by decide +kernel
theorem dX6_fault_2 : decode cX6_fault 2 = .ok (.putfield 155, 3) := by decide +kernel
theorem dX6_fault_5 : decode cX6_fault 5 = .ok (.aload_n 0, 1) := by decide +kernel
theorem dX6_fault_6 : decode cX6_fault 6 = .ok (.iconst 0, 1) := by decide +kernel
theorem dX6_fault_7 : decode cX6_fault 7 = .ok (.putfield 161, 3) := by decide +kernel
theorem dX6_fault_10 : decode cX6_fault 10 = .ok (.iconst 1, 1) := by decide +kernel
theorem dX6_fault_11 : decode cX6_fault 11 = .ok (.istore_n 1, 1) := by decide +kernel
theorem dX6_fault_12 : decode cX6_fault 12 = .ok (.iload_n 1, 1) := by decide +kernel
theorem dX6_fault_13 : decode cX6_fault 13 = .ok (.ifCond .eq 35, 3) := by decide +kernel
theorem dX6_fault_16 : decode cX6_fault 16 = .ok (.aload_n 0, 1) := by decide +kernel
theorem dX6_fault_17 : decode cX6_fault 17 = .ok (.invokevirtual 176, 3) := by decide +kernel
theorem dX6_fault_20 : decode cX6_fault 20 = .ok (.ifCond .ne 8, 3) := by decide +kernel
theorem dX6_fault_23 : decode cX6_fault 23 = .ok (.aload_n 0, 1) := by decide +kernel
theorem dX6_fault_24 : decode cX6_fault 24 = .ok (.getfield 155, 3) := by decide +kernel
theorem dX6_fault_27 : decode cX6_fault 27 = .ok (.ireturn, 1) := by decide +kernel
theorem dX6_fault_28 : decode cX6_fault 28 = .ok (.aload_n 0, 1) := by decide +kernel
theorem dX6_fault_29 : decode cX6_fault 29 = .ok (.dup, 1) := by decide +kernel
theorem dX6_fault_30 : decode cX6_fault 30 = .ok (.getfield 161, 3) := by decide +kernel
theorem dX6_fault_33 : decode cX6_fault 33 = .ok (.iconst 1, 1) := by decide +kernel
theorem dX6_fault_34 : decode cX6_fault 34 = .ok (.iadd, 1) := by decide +kernel
theorem dX6_fault_35 : decode cX6_fault 35 = .ok (.putfield 161, 3) := by decide +kernel
theorem dX6_fault_38 : decode cX6_fault 38 = .ok (.aload_n 0, 1) := by decide +kernel
theorem dX6_fault_39 : decode cX6_fault 39 = .ok (.bipush 59, 2) := by decide +kernel
theorem dX6_fault_41 : decode cX6_fault 41 = .ok (.invokevirtual 170, 3) := by decide +kernel
theorem dX6_fault_44 : decode cX6_fault 44 = .ok (.istore_n 1, 1) := by decide +kernel
theorem dX6_fault_45 : decode cX6_fault 45 = .ok (.goto (-33), 3) := by decide +kernel
theorem dX6_fault_48 : decode cX6_fault 48 = .ok (.aload_n 0, 1) := by decide +kernel
theorem dX6_fault_49 : decode cX6_fault 49 = .ok (.getfield 155, 3) := by decide +kernel
theorem dX6_fault_52 : decode cX6_fault 52 = .ok (.aload_n 0, 1) := by decide +kernel
theorem dX6_fault_53 : decode cX6_fault 53 = .ok (.getfield 152, 3) := by decide +kernel
theorem dX6_fault_56 : decode cX6_fault 56 = .ok (.if_icmp .ne 8, 3) := by decide +kernel
theorem dX6_fault_59 : decode cX6_fault 59 = .ok (.bipush (-4), 2) := by decide +kernel
theorem dX6_fault_61 : decode cX6_fault 61 = .ok (.goto 7, 3) := by decide +kernel
theorem dX6_fault_64 : decode cX6_fault 64 = .ok (.aload_n 0, 1) := by decide +kernel
theorem dX6_fault_65 : decode cX6_fault 65 = .ok (.getfield 155, 3) := by decide +kernel
theorem dX6_fault_68 : decode cX6_fault 68 = .ok (.ireturn, 1) := by decide +kernel
theorem dX6_pins_0 : decode cX6_pins 0 = .ok (.aload_n 0, 1) := by decide +kernel
theorem dX6_pins_1 : decode cX6_pins 1 = .ok (.iload_n 1, 1) := by decide +kernel
theorem dX6_pins_2 : decode cX6_pins 2 = .ok (.invokevirtual 122, 3) := by decide +kernel
theorem dX6_pins_5 : decode cX6_pins 5 = .ok (.istore_n 2, 1) := by decide +kernel
theorem dX6_pins_6 : decode cX6_pins 6 = .ok (.iload_n 2, 1) := by decide +kernel
theorem dX6_pins_7 : decode cX6_pins 7 = .ok (.ifCond .ge 6, 3) := by decide +kernel
theorem dX6_pins_10 : decode cX6_pins 10 = .ok (.bipush (-2), 2) := by decide +kernel
theorem dX6_pins_12 : decode cX6_pins 12 = .ok (.ireturn, 1) := by decide +kernel
theorem dX6_pins_13 : decode cX6_pins 13 = .ok (.aload_n 0, 1) := by decide +kernel
theorem dX6_pins_14 : decode cX6_pins 14 = .ok (.getfield 7, 3) := by decide +kernel
theorem dX6_pins_17 : decode cX6_pins 17 = .ok (.iload_n 2, 1) := by decide +kernel
theorem dX6_pins_18 : decode cX6_pins 18 = .ok (.invokestatic 90, 3) := by decide +kernel
theorem dX6_pins_21 : decode cX6_pins 21 = .ok (.bipush 13, 2) := by decide +kernel
theorem dX6_pins_23 : decode cX6_pins 23 = .ok (.iadd, 1) := by decide +kernel
theorem dX6_pins_24 : decode cX6_pins 24 = .ok (.iconst 1, 1) := by decide +kernel
theorem dX6_pins_25 : decode cX6_pins 25 = .ok (.iastore, 1) := by decide +kernel
theorem dX6_pins_26 : decode cX6_pins 26 = .ok (.iconst 1, 1) := by decide +kernel
theorem dX6_pins_27 : decode cX6_pins 27 = .ok (.ireturn, 1) := by decide +kernel
theorem dX6_does_0 : decode cX6_does 0 = .ok (.aload_n 0, 1) := by decide +kernel
theorem dX6_does_1 : decode cX6_does 1 = .ok (.getfield 50, 3) := by decide +kernel
theorem dX6_does_4 : decode cX6_does 4 = .ok (.iconst 4, 1) := by decide +kernel
theorem dX6_does_5 : decode cX6_does 5 = .ok (.iload_n 1, 1) := by decide +kernel
theorem dX6_does_6 : decode cX6_does 6 = .ok (.imul, 1) := by decide +kernel
theorem dX6_does_7 : decode cX6_does 7 = .ok (.iconst 1, 1) := by decide +kernel
theorem dX6_does_8 : decode cX6_does 8 = .ok (.iadd, 1) := by decide +kernel
theorem dX6_does_9 : decode cX6_does 9 = .ok (.iaload, 1) := by decide +kernel
theorem dX6_does_10 : decode cX6_does 10 = .ok (.istore_n 2, 1) := by decide +kernel
theorem dX6_does_11 : decode cX6_does 11 = .ok (.aload_n 0, 1) := by decide +kernel
theorem dX6_does_12 : decode cX6_does 12 = .ok (.getfield 50, 3) := by decide +kernel
theorem dX6_does_15 : decode cX6_does 15 = .ok (.iconst 4, 1) := by decide +kernel
theorem dX6_does_16 : decode cX6_does 16 = .ok (.iload_n 1, 1) := by decide +kernel
theorem dX6_does_17 : decode cX6_does 17 = .ok (.imul, 1) := by decide +kernel
theorem dX6_does_18 : decode cX6_does 18 = .ok (.iaload, 1) := by decide +kernel
theorem dX6_does_19 : decode cX6_does 19 = .ok (.lookupswitch 51 #[(99, 45), (112, 39), (113, 33)], 33) := by decide +kernel
theorem dX6_does_52 : decode cX6_does 52 = .ok (.aload_n 0, 1) := by decide +kernel
theorem dX6_does_53 : decode cX6_does 53 = .ok (.iload_n 2, 1) := by decide +kernel
theorem dX6_does_54 : decode cX6_does 54 = .ok (.invokevirtual 179, 3) := by decide +kernel
theorem dX6_does_57 : decode cX6_does 57 = .ok (.ireturn, 1) := by decide +kernel
theorem dX6_does_58 : decode cX6_does 58 = .ok (.aload_n 0, 1) := by decide +kernel
theorem dX6_does_59 : decode cX6_does 59 = .ok (.iload_n 2, 1) := by decide +kernel
theorem dX6_does_60 : decode cX6_does 60 = .ok (.invokevirtual 182, 3) := by decide +kernel
theorem dX6_does_63 : decode cX6_does 63 = .ok (.ireturn, 1) := by decide +kernel
theorem dX6_does_64 : decode cX6_does 64 = .ok (.aload_n 0, 1) := by decide +kernel
theorem dX6_does_65 : decode cX6_does 65 = .ok (.iload_n 2, 1) := by decide +kernel
theorem dX6_does_66 : decode cX6_does 66 = .ok (.invokevirtual 185, 3) := by decide +kernel
theorem dX6_does_69 : decode cX6_does 69 = .ok (.ireturn, 1) := by decide +kernel
theorem dX6_does_70 : decode cX6_does 70 = .ok (.aload_n 0, 1) := by decide +kernel
theorem dX6_does_71 : decode cX6_does 71 = .ok (.iload_n 2, 1) := by decide +kernel
theorem dX6_does_72 : decode cX6_does 72 = .ok (.aload_n 0, 1) := by decide +kernel
theorem dX6_does_73 : decode cX6_does 73 = .ok (.getfield 50, 3) := by decide +kernel
theorem dX6_does_76 : decode cX6_does 76 = .ok (.iconst 4, 1) := by decide +kernel
theorem dX6_does_77 : decode cX6_does 77 = .ok (.iload_n 1, 1) := by decide +kernel
theorem dX6_does_78 : decode cX6_does 78 = .ok (.imul, 1) := by decide +kernel
theorem dX6_does_79 : decode cX6_does 79 = .ok (.iconst 2, 1) := by decide +kernel
theorem dX6_does_80 : decode cX6_does 80 = .ok (.iadd, 1) := by decide +kernel
theorem dX6_does_81 : decode cX6_does 81 = .ok (.iaload, 1) := by decide +kernel
theorem dX6_does_82 : decode cX6_does 82 = .ok (.invokevirtual 188, 3) := by decide +kernel
theorem dX6_does_85 : decode cX6_does 85 = .ok (.ireturn, 1) := by decide +kernel
theorem dX6_carryOut_0 : decode cX6_carryOut 0 = .ok (.aload_n 0, 1) := by decide +kernel
theorem dX6_carryOut_1 : decode cX6_carryOut 1 = .ok (.invokevirtual 192, 3) := by decide +kernel
theorem dX6_carryOut_4 : decode cX6_carryOut 4 = .ok (.bipush (-4), 2) := by decide +kernel
theorem dX6_carryOut_6 : decode cX6_carryOut 6 = .ok (.if_icmp .eq 6, 3) := by decide +kernel
theorem dX6_carryOut_9 : decode cX6_carryOut 9 = .ok (.bipush (-2), 2) := by decide +kernel
theorem dX6_carryOut_11 : decode cX6_carryOut 11 = .ok (.ireturn, 1) := by decide +kernel
theorem dX6_carryOut_12 : decode cX6_carryOut 12 = .ok (.aload_n 0, 1) := by decide +kernel
theorem dX6_carryOut_13 : decode cX6_carryOut 13 = .ok (.invokevirtual 116, 3) := by decide +kernel
theorem dX6_carryOut_16 : decode cX6_carryOut 16 = .ok (.aload_n 0, 1) := by decide +kernel
theorem dX6_carryOut_17 : decode cX6_carryOut 17 = .ok (.iconst 0, 1) := by decide +kernel
theorem dX6_carryOut_18 : decode cX6_carryOut 18 = .ok (.putfield 152, 3) := by decide +kernel
theorem dX6_carryOut_21 : decode cX6_carryOut 21 = .ok (.aload_n 0, 1) := by decide +kernel
theorem dX6_carryOut_22 : decode cX6_carryOut 22 = .ok (.iconst 1, 1) := by decide +kernel
theorem dX6_carryOut_23 : decode cX6_carryOut 23 = .ok (.putfield 55, 3) := by decide +kernel
theorem dX6_carryOut_26 : decode cX6_carryOut 26 = .ok (.aload_n 0, 1) := by decide +kernel
theorem dX6_carryOut_27 : decode cX6_carryOut 27 = .ok (.iconst 0, 1) := by decide +kernel
theorem dX6_carryOut_28 : decode cX6_carryOut 28 = .ok (.putfield 195, 3) := by decide +kernel
theorem dX6_carryOut_31 : decode cX6_carryOut 31 = .ok (.iconst 0, 1) := by decide +kernel
theorem dX6_carryOut_32 : decode cX6_carryOut 32 = .ok (.istore_n 1, 1) := by decide +kernel
theorem dX6_carryOut_33 : decode cX6_carryOut 33 = .ok (.iload_n 1, 1) := by decide +kernel
theorem dX6_carryOut_34 : decode cX6_carryOut 34 = .ok (.aload_n 0, 1) := by decide +kernel
theorem dX6_carryOut_35 : decode cX6_carryOut 35 = .ok (.getfield 161, 3) := by decide +kernel
theorem dX6_carryOut_38 : decode cX6_carryOut 38 = .ok (.if_icmp .ge 68, 3) := by decide +kernel
theorem dX6_carryOut_41 : decode cX6_carryOut 41 = .ok (.aload_n 0, 1) := by decide +kernel
theorem dX6_carryOut_42 : decode cX6_carryOut 42 = .ok (.getfield 195, 3) := by decide +kernel
theorem dX6_carryOut_45 : decode cX6_carryOut 45 = .ok (.ifCond .ne 61, 3) := by decide +kernel
theorem dX6_carryOut_48 : decode cX6_carryOut 48 = .ok (.aload_n 0, 1) := by decide +kernel
theorem dX6_carryOut_49 : decode cX6_carryOut 49 = .ok (.aload_n 0, 1) := by decide +kernel
theorem dX6_carryOut_50 : decode cX6_carryOut 50 = .ok (.iload_n 1, 1) := by decide +kernel
theorem dX6_carryOut_51 : decode cX6_carryOut 51 = .ok (.invokevirtual 198, 3) := by decide +kernel
theorem dX6_carryOut_54 : decode cX6_carryOut 54 = .ok (.ifCond .ge 7, 3) := by decide +kernel
theorem dX6_carryOut_57 : decode cX6_carryOut 57 = .ok (.iconst 1, 1) := by decide +kernel
theorem dX6_carryOut_58 : decode cX6_carryOut 58 = .ok (.goto 4, 3) := by decide +kernel
theorem dX6_carryOut_61 : decode cX6_carryOut 61 = .ok (.iconst 0, 1) := by decide +kernel
theorem dX6_carryOut_62 : decode cX6_carryOut 62 = .ok (.putfield 195, 3) := by decide +kernel
theorem dX6_carryOut_65 : decode cX6_carryOut 65 = .ok (.aload_n 0, 1) := by decide +kernel
theorem dX6_carryOut_66 : decode cX6_carryOut 66 = .ok (.getfield 38, 3) := by decide +kernel
theorem dX6_carryOut_69 : decode cX6_carryOut 69 = .ok (.iconst 0, 1) := by decide +kernel
theorem dX6_carryOut_70 : decode cX6_carryOut 70 = .ok (.iload_n 1, 1) := by decide +kernel
theorem dX6_carryOut_71 : decode cX6_carryOut 71 = .ok (.iastore, 1) := by decide +kernel
theorem dX6_carryOut_72 : decode cX6_carryOut 72 = .ok (.aload_n 0, 1) := by decide +kernel
theorem dX6_carryOut_73 : decode cX6_carryOut 73 = .ok (.getfield 38, 3) := by decide +kernel
theorem dX6_carryOut_76 : decode cX6_carryOut 76 = .ok (.iconst 1, 1) := by decide +kernel
theorem dX6_carryOut_77 : decode cX6_carryOut 77 = .ok (.aload_n 0, 1) := by decide +kernel
theorem dX6_carryOut_78 : decode cX6_carryOut 78 = .ok (.getfield 50, 3) := by decide +kernel
theorem dX6_carryOut_81 : decode cX6_carryOut 81 = .ok (.iconst 4, 1) := by decide +kernel
theorem dX6_carryOut_82 : decode cX6_carryOut 82 = .ok (.iload_n 1, 1) := by decide +kernel
theorem dX6_carryOut_83 : decode cX6_carryOut 83 = .ok (.imul, 1) := by decide +kernel
theorem dX6_carryOut_84 : decode cX6_carryOut 84 = .ok (.iconst 3, 1) := by decide +kernel
theorem dX6_carryOut_85 : decode cX6_carryOut 85 = .ok (.iadd, 1) := by decide +kernel
theorem dX6_carryOut_86 : decode cX6_carryOut 86 = .ok (.iaload, 1) := by decide +kernel
theorem dX6_carryOut_87 : decode cX6_carryOut 87 = .ok (.iastore, 1) := by decide +kernel
theorem dX6_carryOut_88 : decode cX6_carryOut 88 = .ok (.iload_n 1, 1) := by decide +kernel
theorem dX6_carryOut_89 : decode cX6_carryOut 89 = .ok (.aload_n 0, 1) := by decide +kernel
theorem dX6_carryOut_90 : decode cX6_carryOut 90 = .ok (.getfield 195, 3) := by decide +kernel
theorem dX6_carryOut_93 : decode cX6_carryOut 93 = .ok (.ifCond .eq 7, 3) := by decide +kernel
theorem dX6_carryOut_96 : decode cX6_carryOut 96 = .ok (.iconst 0, 1) := by decide +kernel
theorem dX6_carryOut_97 : decode cX6_carryOut 97 = .ok (.goto 4, 3) := by decide +kernel
theorem dX6_carryOut_100 : decode cX6_carryOut 100 = .ok (.iconst 1, 1) := by decide +kernel
theorem dX6_carryOut_101 : decode cX6_carryOut 101 = .ok (.iadd, 1) := by decide +kernel
theorem dX6_carryOut_102 : decode cX6_carryOut 102 = .ok (.istore_n 1, 1) := by decide +kernel
theorem dX6_carryOut_103 : decode cX6_carryOut 103 = .ok (.goto (-70), 3) := by decide +kernel
theorem dX6_carryOut_106 : decode cX6_carryOut 106 = .ok (.aload_n 0, 1) := by decide +kernel
theorem dX6_carryOut_107 : decode cX6_carryOut 107 = .ok (.iconst 0, 1) := by decide +kernel
theorem dX6_carryOut_108 : decode cX6_carryOut 108 = .ok (.putfield 55, 3) := by decide +kernel
theorem dX6_carryOut_111 : decode cX6_carryOut 111 = .ok (.iload_n 1, 1) := by decide +kernel
theorem dX6_carryOut_112 : decode cX6_carryOut 112 = .ok (.ireturn, 1) := by decide +kernel
theorem dX6_why_0 : decode cX6_why 0 = .ok (.iload_n 1, 1) := by decide +kernel
theorem dX6_why_1 : decode cX6_why 1 = .ok (.iconst 0, 1) := by decide +kernel
theorem dX6_why_2 : decode cX6_why 2 = .ok (.iconst 1, 1) := by decide +kernel
theorem dX6_why_3 : decode cX6_why 3 = .ok (.invokestatic 63, 3) := by decide +kernel
theorem dX6_why_6 : decode cX6_why 6 = .ok (.ifCond .ne 7, 3) := by decide +kernel
theorem dX6_why_9 : decode cX6_why 9 = .ok (.iconst (-1), 1) := by decide +kernel
theorem dX6_why_10 : decode cX6_why 10 = .ok (.goto 21, 3) := by decide +kernel
theorem dX6_why_13 : decode cX6_why 13 = .ok (.aload_n 0, 1) := by decide +kernel
theorem dX6_why_14 : decode cX6_why 14 = .ok (.getfield 195, 3) := by decide +kernel
theorem dX6_why_17 : decode cX6_why 17 = .ok (.ifCond .eq 12, 3) := by decide +kernel
theorem dX6_why_20 : decode cX6_why 20 = .ok (.aload_n 0, 1) := by decide +kernel
theorem dX6_why_21 : decode cX6_why 21 = .ok (.getfield 38, 3) := by decide +kernel
theorem dX6_why_24 : decode cX6_why 24 = .ok (.iload_n 1, 1) := by decide +kernel
theorem dX6_why_25 : decode cX6_why 25 = .ok (.iaload, 1) := by decide +kernel
theorem dX6_why_26 : decode cX6_why 26 = .ok (.goto 5, 3) := by decide +kernel
theorem dX6_why_29 : decode cX6_why 29 = .ok (.bipush (-4), 2) := by decide +kernel
theorem dX6_why_31 : decode cX6_why 31 = .ok (.ireturn, 1) := by decide +kernel
theorem dX6_plansWith_0 : decode cX6_plansWith 0 = .ok (.iconst 0, 1) := by decide +kernel
theorem dX6_plansWith_1 : decode cX6_plansWith 1 = .ok (.istore_n 2, 1) := by decide +kernel
theorem dX6_plansWith_2 : decode cX6_plansWith 2 = .ok (.iconst 0, 1) := by decide +kernel
theorem dX6_plansWith_3 : decode cX6_plansWith 3 = .ok (.istore_n 3, 1) := by decide +kernel
theorem dX6_plansWith_4 : decode cX6_plansWith 4 = .ok (.iload_n 3, 1) := by decide +kernel
theorem dX6_plansWith_5 : decode cX6_plansWith 5 = .ok (.iconst 4, 1) := by decide +kernel
theorem dX6_plansWith_6 : decode cX6_plansWith 6 = .ok (.if_icmp .ge 25, 3) := by decide +kernel
theorem dX6_plansWith_9 : decode cX6_plansWith 9 = .ok (.iload_n 2, 1) := by decide +kernel
theorem dX6_plansWith_10 : decode cX6_plansWith 10 = .ok (.aload_n 0, 1) := by decide +kernel
theorem dX6_plansWith_11 : decode cX6_plansWith 11 = .ok (.getfield 7, 3) := by decide +kernel
theorem dX6_plansWith_14 : decode cX6_plansWith 14 = .ok (.iload_n 3, 1) := by decide +kernel
theorem dX6_plansWith_15 : decode cX6_plansWith 15 = .ok (.invokestatic 90, 3) := by decide +kernel
theorem dX6_plansWith_18 : decode cX6_plansWith 18 = .ok (.iaload, 1) := by decide +kernel
theorem dX6_plansWith_19 : decode cX6_plansWith 19 = .ok (.iload_n 1, 1) := by decide +kernel
theorem dX6_plansWith_20 : decode cX6_plansWith 20 = .ok (.ishr, 1) := by decide +kernel
theorem dX6_plansWith_21 : decode cX6_plansWith 21 = .ok (.iconst 1, 1) := by decide +kernel
theorem dX6_plansWith_22 : decode cX6_plansWith 22 = .ok (.iand, 1) := by decide +kernel
theorem dX6_plansWith_23 : decode cX6_plansWith 23 = .ok (.iadd, 1) := by decide +kernel
theorem dX6_plansWith_24 : decode cX6_plansWith 24 = .ok (.istore_n 2, 1) := by decide +kernel
theorem dX6_plansWith_25 : decode cX6_plansWith 25 = .ok (.iinc 3 1, 3) := by decide +kernel
theorem dX6_plansWith_28 : decode cX6_plansWith 28 = .ok (.goto (-24), 3) := by decide +kernel
theorem dX6_plansWith_31 : decode cX6_plansWith 31 = .ok (.iload_n 2, 1) := by decide +kernel
theorem dX6_plansWith_32 : decode cX6_plansWith 32 = .ok (.ireturn, 1) := by decide +kernel
theorem dX6_table_0 : decode cX6_table 0 = .ok (.iload_n 1, 1) := by decide +kernel
theorem dX6_table_1 : decode cX6_table 1 = .ok (.invokestatic 113, 3) := by decide +kernel
theorem dX6_table_4 : decode cX6_table 4 = .ok (.ifCond .eq 12, 3) := by decide +kernel
theorem dX6_table_7 : decode cX6_table 7 = .ok (.iload_n 2, 1) := by decide +kernel
theorem dX6_table_8 : decode cX6_table 8 = .ok (.iconst 0, 1) := by decide +kernel
theorem dX6_table_9 : decode cX6_table 9 = .ok (.iconst 3, 1) := by decide +kernel
theorem dX6_table_10 : decode cX6_table 10 = .ok (.invokestatic 63, 3) := by decide +kernel
theorem dX6_table_13 : decode cX6_table 13 = .ok (.ifCond .ne 5, 3) := by decide +kernel
theorem dX6_table_16 : decode cX6_table 16 = .ok (.iconst (-1), 1) := by decide +kernel
theorem dX6_table_17 : decode cX6_table 17 = .ok (.ireturn, 1) := by decide +kernel
theorem dX6_table_18 : decode cX6_table 18 = .ok (.aload_n 0, 1) := by decide +kernel
theorem dX6_table_19 : decode cX6_table 19 = .ok (.getfield 7, 3) := by decide +kernel
theorem dX6_table_22 : decode cX6_table 22 = .ok (.iconst 0, 1) := by decide +kernel
theorem dX6_table_23 : decode cX6_table 23 = .ok (.iload_n 1, 1) := by decide +kernel
theorem dX6_table_24 : decode cX6_table 24 = .ok (.iadd, 1) := by decide +kernel
theorem dX6_table_25 : decode cX6_table 25 = .ok (.iaload, 1) := by decide +kernel
theorem dX6_table_26 : decode cX6_table 26 = .ok (.istore_n 3, 1) := by decide +kernel
theorem dX6_table_27 : decode cX6_table 27 = .ok (.aload_n 0, 1) := by decide +kernel
theorem dX6_table_28 : decode cX6_table 28 = .ok (.getfield 7, 3) := by decide +kernel
theorem dX6_table_31 : decode cX6_table 31 = .ok (.iconst 5, 1) := by decide +kernel
theorem dX6_table_32 : decode cX6_table 32 = .ok (.iload_n 1, 1) := by decide +kernel
theorem dX6_table_33 : decode cX6_table 33 = .ok (.iadd, 1) := by decide +kernel
theorem dX6_table_34 : decode cX6_table 34 = .ok (.iaload, 1) := by decide +kernel
theorem dX6_table_35 : decode cX6_table 35 = .ok (.istore 4, 2) := by decide +kernel
theorem dX6_table_37 : decode cX6_table 37 = .ok (.iload_n 2, 1) := by decide +kernel
theorem dX6_table_38 : decode cX6_table 38 = .ok (.iconst 3, 1) := by decide +kernel
theorem dX6_table_39 : decode cX6_table 39 = .ok (.if_icmp .ne 9, 3) := by decide +kernel
theorem dX6_table_42 : decode cX6_table 42 = .ok (.aload_n 0, 1) := by decide +kernel
theorem dX6_table_43 : decode cX6_table 43 = .ok (.iload_n 1, 1) := by decide +kernel
theorem dX6_table_44 : decode cX6_table 44 = .ok (.invokevirtual 201, 3) := by decide +kernel
theorem dX6_table_47 : decode cX6_table 47 = .ok (.ireturn, 1) := by decide +kernel
theorem dX6_table_48 : decode cX6_table 48 = .ok (.iload_n 2, 1) := by decide +kernel
theorem dX6_table_49 : decode cX6_table 49 = .ok (.ifCond .ne 7, 3) := by decide +kernel
theorem dX6_table_52 : decode cX6_table 52 = .ok (.iload_n 3, 1) := by decide +kernel
theorem dX6_table_53 : decode cX6_table 53 = .ok (.goto 36, 3) := by decide +kernel
theorem dX6_table_56 : decode cX6_table 56 = .ok (.iload_n 2, 1) := by decide +kernel
theorem dX6_table_57 : decode cX6_table 57 = .ok (.iconst 1, 1) := by decide +kernel
theorem dX6_table_58 : decode cX6_table 58 = .ok (.if_icmp .ne 8, 3) := by decide +kernel
theorem dX6_table_61 : decode cX6_table 61 = .ok (.iload 4, 2) := by decide +kernel
theorem dX6_table_63 : decode cX6_table 63 = .ok (.goto 26, 3) := by decide +kernel
theorem dX6_table_66 : decode cX6_table 66 = .ok (.iload_n 3, 1) := by decide +kernel
theorem dX6_table_67 : decode cX6_table 67 = .ok (.iload 4, 2) := by decide +kernel
theorem dX6_table_69 : decode cX6_table 69 = .ok (.if_icmp .le 13, 3) := by decide +kernel
theorem dX6_table_72 : decode cX6_table 72 = .ok (.bipush 100, 2) := by decide +kernel
theorem dX6_table_74 : decode cX6_table 74 = .ok (.iload_n 3, 1) := by decide +kernel
theorem dX6_table_75 : decode cX6_table 75 = .ok (.imul, 1) := by decide +kernel
theorem dX6_table_76 : decode cX6_table 76 = .ok (.iload 4, 2) := by decide +kernel
theorem dX6_table_78 : decode cX6_table 78 = .ok (.idiv, 1) := by decide +kernel
theorem dX6_table_79 : decode cX6_table 79 = .ok (.goto 10, 3) := by decide +kernel
theorem dX6_table_82 : decode cX6_table 82 = .ok (.bipush 100, 2) := by decide +kernel
theorem dX6_table_84 : decode cX6_table 84 = .ok (.iload 4, 2) := by decide +kernel
theorem dX6_table_86 : decode cX6_table 86 = .ok (.imul, 1) := by decide +kernel
theorem dX6_table_87 : decode cX6_table 87 = .ok (.iload_n 3, 1) := by decide +kernel
theorem dX6_table_88 : decode cX6_table 88 = .ok (.idiv, 1) := by decide +kernel
theorem dX6_table_89 : decode cX6_table 89 = .ok (.ireturn, 1) := by decide +kernel
theorem dX6_partOf_0 : decode cX6_partOf 0 = .ok (.iload_n 1, 1) := by decide +kernel
theorem dX6_partOf_1 : decode cX6_partOf 1 = .ok (.invokestatic 113, 3) := by decide +kernel
theorem dX6_partOf_4 : decode cX6_partOf 4 = .ok (.ifCond .eq 31, 3) := by decide +kernel
theorem dX6_partOf_7 : decode cX6_partOf 7 = .ok (.iload_n 2, 1) := by decide +kernel
theorem dX6_partOf_8 : decode cX6_partOf 8 = .ok (.invokestatic 113, 3) := by decide +kernel
theorem dX6_partOf_11 : decode cX6_partOf 11 = .ok (.ifCond .eq 24, 3) := by decide +kernel
theorem dX6_partOf_14 : decode cX6_partOf 14 = .ok (.iload_n 1, 1) := by decide +kernel
theorem dX6_partOf_15 : decode cX6_partOf 15 = .ok (.iload_n 2, 1) := by decide +kernel
theorem dX6_partOf_16 : decode cX6_partOf 16 = .ok (.if_icmp .eq 19, 3) := by decide +kernel
theorem dX6_partOf_19 : decode cX6_partOf 19 = .ok (.aload_n 0, 1) := by decide +kernel
theorem dX6_partOf_20 : decode cX6_partOf 20 = .ok (.getfield 7, 3) := by decide +kernel
theorem dX6_partOf_23 : decode cX6_partOf 23 = .ok (.bipush 10, 2) := by decide +kernel
theorem dX6_partOf_25 : decode cX6_partOf 25 = .ok (.iconst 5, 1) := by decide +kernel
theorem dX6_partOf_26 : decode cX6_partOf 26 = .ok (.iload_n 1, 1) := by decide +kernel
theorem dX6_partOf_27 : decode cX6_partOf 27 = .ok (.imul, 1) := by decide +kernel
theorem dX6_partOf_28 : decode cX6_partOf 28 = .ok (.iadd, 1) := by decide +kernel
theorem dX6_partOf_29 : decode cX6_partOf 29 = .ok (.iload_n 2, 1) := by decide +kernel
theorem dX6_partOf_30 : decode cX6_partOf 30 = .ok (.iadd, 1) := by decide +kernel
theorem dX6_partOf_31 : decode cX6_partOf 31 = .ok (.iaload, 1) := by decide +kernel
theorem dX6_partOf_32 : decode cX6_partOf 32 = .ok (.goto 4, 3) := by decide +kernel
theorem dX6_partOf_35 : decode cX6_partOf 35 = .ok (.iconst (-1), 1) := by decide +kernel
theorem dX6_partOf_36 : decode cX6_partOf 36 = .ok (.ireturn, 1) := by decide +kernel
theorem dX6_size_0 : decode cX6_size 0 = .ok (.iload_n 1, 1) := by decide +kernel
theorem dX6_size_1 : decode cX6_size 1 = .ok (.invokestatic 142, 3) := by decide +kernel
theorem dX6_size_4 : decode cX6_size 4 = .ok (.ifCond .eq 18, 3) := by decide +kernel
theorem dX6_size_7 : decode cX6_size 7 = .ok (.aload_n 0, 1) := by decide +kernel
theorem dX6_size_8 : decode cX6_size 8 = .ok (.iload_n 1, 1) := by decide +kernel
theorem dX6_size_9 : decode cX6_size 9 = .ok (.iload_n 2, 1) := by decide +kernel
theorem dX6_size_10 : decode cX6_size 10 = .ok (.invokestatic 204, 3) := by decide +kernel
theorem dX6_size_13 : decode cX6_size 13 = .ok (.invokevirtual 72, 3) := by decide +kernel
theorem dX6_size_16 : decode cX6_size 16 = .ok (.invokestatic 148, 3) := by decide +kernel
theorem dX6_size_19 : decode cX6_size 19 = .ok (.goto 4, 3) := by decide +kernel
theorem dX6_size_22 : decode cX6_size 22 = .ok (.iconst (-1), 1) := by decide +kernel
theorem dX6_size_23 : decode cX6_size 23 = .ok (.ireturn, 1) := by decide +kernel
theorem dX6_least_0 : decode cX6_least 0 = .ok (.iload_n 1, 1) := by decide +kernel
theorem dX6_least_1 : decode cX6_least 1 = .ok (.invokestatic 142, 3) := by decide +kernel
theorem dX6_least_4 : decode cX6_least 4 = .ok (.ifCond .eq 12, 3) := by decide +kernel
theorem dX6_least_7 : decode cX6_least 7 = .ok (.iload_n 3, 1) := by decide +kernel
theorem dX6_least_8 : decode cX6_least 8 = .ok (.iconst 0, 1) := by decide +kernel
theorem dX6_least_9 : decode cX6_least 9 = .ok (.iconst 1, 1) := by decide +kernel
theorem dX6_least_10 : decode cX6_least 10 = .ok (.invokestatic 63, 3) := by decide +kernel
theorem dX6_least_13 : decode cX6_least 13 = .ok (.ifCond .ne 5, 3) := by decide +kernel
theorem dX6_least_16 : decode cX6_least 16 = .ok (.iconst (-1), 1) := by decide +kernel
theorem dX6_least_17 : decode cX6_least 17 = .ok (.ireturn, 1) := by decide +kernel
theorem dX6_least_18 : decode cX6_least 18 = .ok (.iload_n 3, 1) := by decide +kernel
theorem dX6_least_19 : decode cX6_least 19 = .ok (.ifCond .ne 15, 3) := by decide +kernel
theorem dX6_least_22 : decode cX6_least 22 = .ok (.aload_n 0, 1) := by decide +kernel
theorem dX6_least_23 : decode cX6_least 23 = .ok (.iload_n 1, 1) := by decide +kernel
theorem dX6_least_24 : decode cX6_least 24 = .ok (.iload_n 2, 1) := by decide +kernel
theorem dX6_least_25 : decode cX6_least 25 = .ok (.invokestatic 204, 3) := by decide +kernel
theorem dX6_least_28 : decode cX6_least 28 = .ok (.invokevirtual 125, 3) := by decide +kernel
theorem dX6_least_31 : decode cX6_least 31 = .ok (.goto 12, 3) := by decide +kernel
theorem dX6_least_34 : decode cX6_least 34 = .ok (.aload_n 0, 1) := by decide +kernel
theorem dX6_least_35 : decode cX6_least 35 = .ok (.iload_n 1, 1) := by decide +kernel
theorem dX6_least_36 : decode cX6_least 36 = .ok (.iload_n 2, 1) := by decide +kernel
theorem dX6_least_37 : decode cX6_least 37 = .ok (.invokestatic 204, 3) := by decide +kernel
theorem dX6_least_40 : decode cX6_least 40 = .ok (.invokevirtual 208, 3) := by decide +kernel
theorem dX6_least_43 : decode cX6_least 43 = .ok (.invokestatic 148, 3) := by decide +kernel
theorem dX6_least_46 : decode cX6_least 46 = .ok (.ireturn, 1) := by decide +kernel
theorem dX6_best_0 : decode cX6_best 0 = .ok (.iload_n 1, 1) := by decide +kernel
theorem dX6_best_1 : decode cX6_best 1 = .ok (.invokestatic 142, 3) := by decide +kernel
theorem dX6_best_4 : decode cX6_best 4 = .ok (.ifCond .eq 7, 3) := by decide +kernel
theorem dX6_best_7 : decode cX6_best 7 = .ok (.iload_n 3, 1) := by decide +kernel
theorem dX6_best_8 : decode cX6_best 8 = .ok (.ifCond .ge 5, 3) := by decide +kernel
theorem dX6_best_11 : decode cX6_best 11 = .ok (.iconst (-1), 1) := by decide +kernel
theorem dX6_best_12 : decode cX6_best 12 = .ok (.ireturn, 1) := by decide +kernel
theorem dX6_best_13 : decode cX6_best 13 = .ok (.aload_n 0, 1) := by decide +kernel
theorem dX6_best_14 : decode cX6_best 14 = .ok (.iload_n 1, 1) := by decide +kernel
theorem dX6_best_15 : decode cX6_best 15 = .ok (.iload_n 2, 1) := by decide +kernel
theorem dX6_best_16 : decode cX6_best 16 = .ok (.invokestatic 204, 3) := by decide +kernel
theorem dX6_best_19 : decode cX6_best 19 = .ok (.invokevirtual 125, 3) := by decide +kernel
theorem dX6_best_22 : decode cX6_best 22 = .ok (.lconst 0, 1) := by decide +kernel
theorem dX6_best_23 : decode cX6_best 23 = .ok (.lcmp, 1) := by decide +kernel
theorem dX6_best_24 : decode cX6_best 24 = .ok (.ifCond .lt 20, 3) := by decide +kernel
theorem dX6_best_27 : decode cX6_best 27 = .ok (.iload_n 3, 1) := by decide +kernel
theorem dX6_best_28 : decode cX6_best 28 = .ok (.aload_n 0, 1) := by decide +kernel
theorem dX6_best_29 : decode cX6_best 29 = .ok (.getfield 69, 3) := by decide +kernel
theorem dX6_best_32 : decode cX6_best 32 = .ok (.if_icmp .ge 12, 3) := by decide +kernel
theorem dX6_best_35 : decode cX6_best 35 = .ok (.aload_n 0, 1) := by decide +kernel
theorem dX6_best_36 : decode cX6_best 36 = .ok (.getfield 44, 3) := by decide +kernel
theorem dX6_best_39 : decode cX6_best 39 = .ok (.iload_n 3, 1) := by decide +kernel
theorem dX6_best_40 : decode cX6_best 40 = .ok (.iaload, 1) := by decide +kernel
theorem dX6_best_41 : decode cX6_best 41 = .ok (.goto 5, 3) := by decide +kernel
theorem dX6_best_44 : decode cX6_best 44 = .ok (.bipush (-4), 2) := by decide +kernel
theorem dX6_best_46 : decode cX6_best 46 = .ok (.ireturn, 1) := by decide +kernel
theorem dX6_orderOf_0 : decode cX6_orderOf 0 = .ok (.iconst 0, 1) := by decide +kernel
theorem dX6_orderOf_1 : decode cX6_orderOf 1 = .ok (.istore_n 2, 1) := by decide +kernel
theorem dX6_orderOf_2 : decode cX6_orderOf 2 = .ok (.iconst 0, 1) := by decide +kernel
theorem dX6_orderOf_3 : decode cX6_orderOf 3 = .ok (.istore_n 3, 1) := by decide +kernel
theorem dX6_orderOf_4 : decode cX6_orderOf 4 = .ok (.iload_n 3, 1) := by decide +kernel
theorem dX6_orderOf_5 : decode cX6_orderOf 5 = .ok (.iconst 4, 1) := by decide +kernel
theorem dX6_orderOf_6 : decode cX6_orderOf 6 = .ok (.if_icmp .ge 56, 3) := by decide +kernel
theorem dX6_orderOf_9 : decode cX6_orderOf 9 = .ok (.iload_n 2, 1) := by decide +kernel
theorem dX6_orderOf_10 : decode cX6_orderOf 10 = .ok (.aload_n 0, 1) := by decide +kernel
theorem dX6_orderOf_11 : decode cX6_orderOf 11 = .ok (.getfield 7, 3) := by decide +kernel
theorem dX6_orderOf_14 : decode cX6_orderOf 14 = .ok (.iload_n 3, 1) := by decide +kernel
theorem dX6_orderOf_15 : decode cX6_orderOf 15 = .ok (.invokestatic 90, 3) := by decide +kernel
theorem dX6_orderOf_18 : decode cX6_orderOf 18 = .ok (.iaload, 1) := by decide +kernel
theorem dX6_orderOf_19 : decode cX6_orderOf 19 = .ok (.ifCond .le 34, 3) := by decide +kernel
theorem dX6_orderOf_22 : decode cX6_orderOf 22 = .ok (.aload_n 0, 1) := by decide +kernel
theorem dX6_orderOf_23 : decode cX6_orderOf 23 = .ok (.getfield 7, 3) := by decide +kernel
theorem dX6_orderOf_26 : decode cX6_orderOf 26 = .ok (.iload_n 3, 1) := by decide +kernel
theorem dX6_orderOf_27 : decode cX6_orderOf 27 = .ok (.invokestatic 90, 3) := by decide +kernel
theorem dX6_orderOf_30 : decode cX6_orderOf 30 = .ok (.bipush 12, 2) := by decide +kernel
theorem dX6_orderOf_32 : decode cX6_orderOf 32 = .ok (.iadd, 1) := by decide +kernel
theorem dX6_orderOf_33 : decode cX6_orderOf 33 = .ok (.iaload, 1) := by decide +kernel
theorem dX6_orderOf_34 : decode cX6_orderOf 34 = .ok (.aload_n 0, 1) := by decide +kernel
theorem dX6_orderOf_35 : decode cX6_orderOf 35 = .ok (.getfield 7, 3) := by decide +kernel
theorem dX6_orderOf_38 : decode cX6_orderOf 38 = .ok (.iload_n 1, 1) := by decide +kernel
theorem dX6_orderOf_39 : decode cX6_orderOf 39 = .ok (.invokestatic 90, 3) := by decide +kernel
theorem dX6_orderOf_42 : decode cX6_orderOf 42 = .ok (.bipush 12, 2) := by decide +kernel
theorem dX6_orderOf_44 : decode cX6_orderOf 44 = .ok (.iadd, 1) := by decide +kernel
theorem dX6_orderOf_45 : decode cX6_orderOf 45 = .ok (.iaload, 1) := by decide +kernel
theorem dX6_orderOf_46 : decode cX6_orderOf 46 = .ok (.if_icmp .ge 7, 3) := by decide +kernel
theorem dX6_orderOf_49 : decode cX6_orderOf 49 = .ok (.iconst 1, 1) := by decide +kernel
theorem dX6_orderOf_50 : decode cX6_orderOf 50 = .ok (.goto 4, 3) := by decide +kernel
theorem dX6_orderOf_53 : decode cX6_orderOf 53 = .ok (.iconst 0, 1) := by decide +kernel
theorem dX6_orderOf_54 : decode cX6_orderOf 54 = .ok (.iadd, 1) := by decide +kernel
theorem dX6_orderOf_55 : decode cX6_orderOf 55 = .ok (.istore_n 2, 1) := by decide +kernel
theorem dX6_orderOf_56 : decode cX6_orderOf 56 = .ok (.iinc 3 1, 3) := by decide +kernel
theorem dX6_orderOf_59 : decode cX6_orderOf 59 = .ok (.goto (-55), 3) := by decide +kernel
theorem dX6_orderOf_62 : decode cX6_orderOf 62 = .ok (.iload_n 2, 1) := by decide +kernel
theorem dX6_orderOf_63 : decode cX6_orderOf 63 = .ok (.ireturn, 1) := by decide +kernel
theorem dX6_over_0 : decode cX6_over 0 = .ok (.aload_n 0, 1) := by decide +kernel
theorem dX6_over_1 : decode cX6_over 1 = .ok (.iload_n 1, 1) := by decide +kernel
theorem dX6_over_2 : decode cX6_over 2 = .ok (.iconst 0, 1) := by decide +kernel
theorem dX6_over_3 : decode cX6_over 3 = .ok (.invokevirtual 131, 3) := by decide +kernel
theorem dX6_over_6 : decode cX6_over 6 = .ok (.lstore_n 2, 1) := by decide +kernel
theorem dX6_over_7 : decode cX6_over 7 = .ok (.lload_n 2, 1) := by decide +kernel
theorem dX6_over_8 : decode cX6_over 8 = .ok (.aload_n 0, 1) := by decide +kernel
theorem dX6_over_9 : decode cX6_over 9 = .ok (.aload_n 0, 1) := by decide +kernel
theorem dX6_over_10 : decode cX6_over 10 = .ok (.getfield 7, 3) := by decide +kernel
theorem dX6_over_13 : decode cX6_over 13 = .ok (.iload_n 1, 1) := by decide +kernel
theorem dX6_over_14 : decode cX6_over 14 = .ok (.invokestatic 90, 3) := by decide +kernel
theorem dX6_over_17 : decode cX6_over 17 = .ok (.iaload, 1) := by decide +kernel
theorem dX6_over_18 : decode cX6_over 18 = .ok (.iconst 0, 1) := by decide +kernel
theorem dX6_over_19 : decode cX6_over 19 = .ok (.invokevirtual 125, 3) := by decide +kernel
theorem dX6_over_22 : decode cX6_over 22 = .ok (.lsub, 1) := by decide +kernel
theorem dX6_over_23 : decode cX6_over 23 = .ok (.lreturn, 1) := by decide +kernel
theorem dX6_plan_0 : decode cX6_plan 0 = .ok (.iload_n 1, 1) := by decide +kernel
theorem dX6_plan_1 : decode cX6_plan 1 = .ok (.invokestatic 142, 3) := by decide +kernel
theorem dX6_plan_4 : decode cX6_plan 4 = .ok (.ifCond .eq 13, 3) := by decide +kernel
theorem dX6_plan_7 : decode cX6_plan 7 = .ok (.iload_n 2, 1) := by decide +kernel
theorem dX6_plan_8 : decode cX6_plan 8 = .ok (.iconst 0, 1) := by decide +kernel
theorem dX6_plan_9 : decode cX6_plan 9 = .ok (.bipush 11, 2) := by decide +kernel
theorem dX6_plan_11 : decode cX6_plan 11 = .ok (.invokestatic 63, 3) := by decide +kernel
theorem dX6_plan_14 : decode cX6_plan 14 = .ok (.ifCond .ne 5, 3) := by decide +kernel
theorem dX6_plan_17 : decode cX6_plan 17 = .ok (.iconst (-1), 1) := by decide +kernel
theorem dX6_plan_18 : decode cX6_plan 18 = .ok (.ireturn, 1) := by decide +kernel
theorem dX6_plan_19 : decode cX6_plan 19 = .ok (.aload_n 0, 1) := by decide +kernel
theorem dX6_plan_20 : decode cX6_plan 20 = .ok (.iload_n 1, 1) := by decide +kernel
theorem dX6_plan_21 : decode cX6_plan 21 = .ok (.invokevirtual 122, 3) := by decide +kernel
theorem dX6_plan_24 : decode cX6_plan 24 = .ok (.istore_n 3, 1) := by decide +kernel
theorem dX6_plan_25 : decode cX6_plan 25 = .ok (.iload_n 3, 1) := by decide +kernel
theorem dX6_plan_26 : decode cX6_plan 26 = .ok (.ifCond .ge 6, 3) := by decide +kernel
theorem dX6_plan_29 : decode cX6_plan 29 = .ok (.bipush (-4), 2) := by decide +kernel
theorem dX6_plan_31 : decode cX6_plan 31 = .ok (.ireturn, 1) := by decide +kernel
theorem dX6_plan_32 : decode cX6_plan 32 = .ok (.iload_n 2, 1) := by decide +kernel
theorem dX6_plan_33 : decode cX6_plan 33 = .ok (.tableswitch 125 5 11 #[43, 53, 63, 76, 89, 98, 119], 43) := by decide +kernel
theorem dX6_plan_76 : decode cX6_plan 76 = .ok (.aload_n 0, 1) := by decide +kernel
theorem dX6_plan_77 : decode cX6_plan 77 = .ok (.iload_n 3, 1) := by decide +kernel
theorem dX6_plan_78 : decode cX6_plan 78 = .ok (.iconst 0, 1) := by decide +kernel
theorem dX6_plan_79 : decode cX6_plan 79 = .ok (.invokevirtual 131, 3) := by decide +kernel
theorem dX6_plan_82 : decode cX6_plan 82 = .ok (.invokestatic 148, 3) := by decide +kernel
theorem dX6_plan_85 : decode cX6_plan 85 = .ok (.ireturn, 1) := by decide +kernel
theorem dX6_plan_86 : decode cX6_plan 86 = .ok (.aload_n 0, 1) := by decide +kernel
theorem dX6_plan_87 : decode cX6_plan 87 = .ok (.iload_n 3, 1) := by decide +kernel
theorem dX6_plan_88 : decode cX6_plan 88 = .ok (.iconst 5, 1) := by decide +kernel
theorem dX6_plan_89 : decode cX6_plan 89 = .ok (.invokevirtual 131, 3) := by decide +kernel
theorem dX6_plan_92 : decode cX6_plan 92 = .ok (.invokestatic 148, 3) := by decide +kernel
theorem dX6_plan_95 : decode cX6_plan 95 = .ok (.ireturn, 1) := by decide +kernel
theorem dX6_plan_96 : decode cX6_plan 96 = .ok (.aload_n 0, 1) := by decide +kernel
theorem dX6_plan_97 : decode cX6_plan 97 = .ok (.getfield 7, 3) := by decide +kernel
theorem dX6_plan_100 : decode cX6_plan 100 = .ok (.iload_n 3, 1) := by decide +kernel
theorem dX6_plan_101 : decode cX6_plan 101 = .ok (.invokestatic 90, 3) := by decide +kernel
theorem dX6_plan_104 : decode cX6_plan 104 = .ok (.bipush 11, 2) := by decide +kernel
theorem dX6_plan_106 : decode cX6_plan 106 = .ok (.iadd, 1) := by decide +kernel
theorem dX6_plan_107 : decode cX6_plan 107 = .ok (.iaload, 1) := by decide +kernel
theorem dX6_plan_108 : decode cX6_plan 108 = .ok (.ireturn, 1) := by decide +kernel
theorem dX6_plan_109 : decode cX6_plan 109 = .ok (.aload_n 0, 1) := by decide +kernel
theorem dX6_plan_110 : decode cX6_plan 110 = .ok (.getfield 7, 3) := by decide +kernel
theorem dX6_plan_113 : decode cX6_plan 113 = .ok (.iload_n 3, 1) := by decide +kernel
theorem dX6_plan_114 : decode cX6_plan 114 = .ok (.invokestatic 90, 3) := by decide +kernel
theorem dX6_plan_117 : decode cX6_plan 117 = .ok (.bipush 13, 2) := by decide +kernel
theorem dX6_plan_119 : decode cX6_plan 119 = .ok (.iadd, 1) := by decide +kernel
theorem dX6_plan_120 : decode cX6_plan 120 = .ok (.iaload, 1) := by decide +kernel
theorem dX6_plan_121 : decode cX6_plan 121 = .ok (.ireturn, 1) := by decide +kernel
theorem dX6_plan_122 : decode cX6_plan 122 = .ok (.aload_n 0, 1) := by decide +kernel
theorem dX6_plan_123 : decode cX6_plan 123 = .ok (.iload_n 3, 1) := by decide +kernel
theorem dX6_plan_124 : decode cX6_plan 124 = .ok (.invokevirtual 211, 3) := by decide +kernel
theorem dX6_plan_127 : decode cX6_plan 127 = .ok (.invokestatic 148, 3) := by decide +kernel
theorem dX6_plan_130 : decode cX6_plan 130 = .ok (.ireturn, 1) := by decide +kernel
theorem dX6_plan_131 : decode cX6_plan 131 = .ok (.aload_n 0, 1) := by decide +kernel
theorem dX6_plan_132 : decode cX6_plan 132 = .ok (.iload_n 3, 1) := by decide +kernel
theorem dX6_plan_133 : decode cX6_plan 133 = .ok (.aload_n 0, 1) := by decide +kernel
theorem dX6_plan_134 : decode cX6_plan 134 = .ok (.getfield 7, 3) := by decide +kernel
theorem dX6_plan_137 : decode cX6_plan 137 = .ok (.bipush 35, 2) := by decide +kernel
theorem dX6_plan_139 : decode cX6_plan 139 = .ok (.iaload, 1) := by decide +kernel
theorem dX6_plan_140 : decode cX6_plan 140 = .ok (.invokevirtual 101, 3) := by decide +kernel
theorem dX6_plan_143 : decode cX6_plan 143 = .ok (.ifCond .eq 7, 3) := by decide +kernel
theorem dX6_plan_146 : decode cX6_plan 146 = .ok (.iconst 1, 1) := by decide +kernel
theorem dX6_plan_147 : decode cX6_plan 147 = .ok (.goto 4, 3) := by decide +kernel
theorem dX6_plan_150 : decode cX6_plan 150 = .ok (.iconst 0, 1) := by decide +kernel
theorem dX6_plan_151 : decode cX6_plan 151 = .ok (.ireturn, 1) := by decide +kernel
theorem dX6_plan_152 : decode cX6_plan 152 = .ok (.aload_n 0, 1) := by decide +kernel
theorem dX6_plan_153 : decode cX6_plan 153 = .ok (.iload_n 3, 1) := by decide +kernel
theorem dX6_plan_154 : decode cX6_plan 154 = .ok (.invokevirtual 214, 3) := by decide +kernel
theorem dX6_plan_157 : decode cX6_plan 157 = .ok (.ireturn, 1) := by decide +kernel
theorem dX6_plan_158 : decode cX6_plan 158 = .ok (.iload_n 2, 1) := by decide +kernel
theorem dX6_plan_159 : decode cX6_plan 159 = .ok (.iload_n 1, 1) := by decide +kernel
theorem dX6_plan_160 : decode cX6_plan 160 = .ok (.invokestatic 94, 3) := by decide +kernel
theorem dX6_plan_163 : decode cX6_plan 163 = .ok (.if_icmp .ge 19, 3) := by decide +kernel
theorem dX6_plan_166 : decode cX6_plan 166 = .ok (.aload_n 0, 1) := by decide +kernel
theorem dX6_plan_167 : decode cX6_plan 167 = .ok (.getfield 7, 3) := by decide +kernel
theorem dX6_plan_170 : decode cX6_plan 170 = .ok (.iload_n 3, 1) := by decide +kernel
theorem dX6_plan_171 : decode cX6_plan 171 = .ok (.invokestatic 90, 3) := by decide +kernel
theorem dX6_plan_174 : decode cX6_plan 174 = .ok (.iconst 1, 1) := by decide +kernel
theorem dX6_plan_175 : decode cX6_plan 175 = .ok (.iadd, 1) := by decide +kernel
theorem dX6_plan_176 : decode cX6_plan 176 = .ok (.iload_n 2, 1) := by decide +kernel
theorem dX6_plan_177 : decode cX6_plan 177 = .ok (.iadd, 1) := by decide +kernel
theorem dX6_plan_178 : decode cX6_plan 178 = .ok (.iaload, 1) := by decide +kernel
theorem dX6_plan_179 : decode cX6_plan 179 = .ok (.goto 5, 3) := by decide +kernel
theorem dX6_plan_182 : decode cX6_plan 182 = .ok (.bipush (-4), 2) := by decide +kernel
theorem dX6_plan_184 : decode cX6_plan 184 = .ok (.ireturn, 1) := by decide +kernel
theorem dX6_plans_0 : decode cX6_plans 0 = .ok (.iconst 0, 1) := by decide +kernel
theorem dX6_plans_1 : decode cX6_plans 1 = .ok (.istore_n 1, 1) := by decide +kernel
theorem dX6_plans_2 : decode cX6_plans 2 = .ok (.iconst 0, 1) := by decide +kernel
theorem dX6_plans_3 : decode cX6_plans 3 = .ok (.istore_n 2, 1) := by decide +kernel
theorem dX6_plans_4 : decode cX6_plans 4 = .ok (.iload_n 2, 1) := by decide +kernel
theorem dX6_plans_5 : decode cX6_plans 5 = .ok (.iconst 4, 1) := by decide +kernel
theorem dX6_plans_6 : decode cX6_plans 6 = .ok (.if_icmp .ge 29, 3) := by decide +kernel
theorem dX6_plans_9 : decode cX6_plans 9 = .ok (.iload_n 1, 1) := by decide +kernel
theorem dX6_plans_10 : decode cX6_plans 10 = .ok (.aload_n 0, 1) := by decide +kernel
theorem dX6_plans_11 : decode cX6_plans 11 = .ok (.getfield 7, 3) := by decide +kernel
theorem dX6_plans_14 : decode cX6_plans 14 = .ok (.iload_n 2, 1) := by decide +kernel
theorem dX6_plans_15 : decode cX6_plans 15 = .ok (.invokestatic 90, 3) := by decide +kernel
theorem dX6_plans_18 : decode cX6_plans 18 = .ok (.iaload, 1) := by decide +kernel
theorem dX6_plans_19 : decode cX6_plans 19 = .ok (.ifCond .le 7, 3) := by decide +kernel
theorem dX6_plans_22 : decode cX6_plans 22 = .ok (.iconst 1, 1) := by decide +kernel
theorem dX6_plans_23 : decode cX6_plans 23 = .ok (.goto 4, 3) := by decide +kernel
theorem dX6_plans_26 : decode cX6_plans 26 = .ok (.iconst 0, 1) := by decide +kernel
theorem dX6_plans_27 : decode cX6_plans 27 = .ok (.iadd, 1) := by decide +kernel
theorem dX6_plans_28 : decode cX6_plans 28 = .ok (.istore_n 1, 1) := by decide +kernel
theorem dX6_plans_29 : decode cX6_plans 29 = .ok (.iinc 2 1, 3) := by decide +kernel
theorem dX6_plans_32 : decode cX6_plans 32 = .ok (.goto (-28), 3) := by decide +kernel
theorem dX6_plans_35 : decode cX6_plans 35 = .ok (.iload_n 1, 1) := by decide +kernel
theorem dX6_plans_36 : decode cX6_plans 36 = .ok (.ireturn, 1) := by decide +kernel
theorem dX6_pinned_0 : decode cX6_pinned 0 = .ok (.iconst 0, 1) := by decide +kernel
theorem dX6_pinned_1 : decode cX6_pinned 1 = .ok (.istore_n 1, 1) := by decide +kernel
theorem dX6_pinned_2 : decode cX6_pinned 2 = .ok (.iconst 0, 1) := by decide +kernel
theorem dX6_pinned_3 : decode cX6_pinned 3 = .ok (.istore_n 2, 1) := by decide +kernel
theorem dX6_pinned_4 : decode cX6_pinned 4 = .ok (.iload_n 2, 1) := by decide +kernel
theorem dX6_pinned_5 : decode cX6_pinned 5 = .ok (.iconst 4, 1) := by decide +kernel
theorem dX6_pinned_6 : decode cX6_pinned 6 = .ok (.if_icmp .ge 24, 3) := by decide +kernel
theorem dX6_pinned_9 : decode cX6_pinned 9 = .ok (.iload_n 1, 1) := by decide +kernel
theorem dX6_pinned_10 : decode cX6_pinned 10 = .ok (.aload_n 0, 1) := by decide +kernel
theorem dX6_pinned_11 : decode cX6_pinned 11 = .ok (.getfield 7, 3) := by decide +kernel
theorem dX6_pinned_14 : decode cX6_pinned 14 = .ok (.iload_n 2, 1) := by decide +kernel
theorem dX6_pinned_15 : decode cX6_pinned 15 = .ok (.invokestatic 90, 3) := by decide +kernel
theorem dX6_pinned_18 : decode cX6_pinned 18 = .ok (.bipush 13, 2) := by decide +kernel
theorem dX6_pinned_20 : decode cX6_pinned 20 = .ok (.iadd, 1) := by decide +kernel
theorem dX6_pinned_21 : decode cX6_pinned 21 = .ok (.iaload, 1) := by decide +kernel
theorem dX6_pinned_22 : decode cX6_pinned 22 = .ok (.iadd, 1) := by decide +kernel
theorem dX6_pinned_23 : decode cX6_pinned 23 = .ok (.istore_n 1, 1) := by decide +kernel
theorem dX6_pinned_24 : decode cX6_pinned 24 = .ok (.iinc 2 1, 3) := by decide +kernel
theorem dX6_pinned_27 : decode cX6_pinned 27 = .ok (.goto (-23), 3) := by decide +kernel
theorem dX6_pinned_30 : decode cX6_pinned 30 = .ok (.iload_n 1, 1) := by decide +kernel
theorem dX6_pinned_31 : decode cX6_pinned 31 = .ok (.ireturn, 1) := by decide +kernel
theorem dX6_counted_0 : decode cX6_counted 0 = .ok (.iload_n 1, 1) := by decide +kernel
theorem dX6_counted_1 : decode cX6_counted 1 = .ok (.tableswitch 136 0 13 #[71, 76, 81, 89, 89, 101, 101, 113, 113, 113, 113, 113, 126, 131], 71) := by decide +kernel
theorem dX6_counted_72 : decode cX6_counted 72 = .ok (.aload_n 0, 1) := by decide +kernel
theorem dX6_counted_73 : decode cX6_counted 73 = .ok (.invokevirtual 217, 3) := by decide +kernel
theorem dX6_counted_76 : decode cX6_counted 76 = .ok (.ireturn, 1) := by decide +kernel
theorem dX6_counted_77 : decode cX6_counted 77 = .ok (.aload_n 0, 1) := by decide +kernel
theorem dX6_counted_78 : decode cX6_counted 78 = .ok (.invokevirtual 220, 3) := by decide +kernel
theorem dX6_counted_81 : decode cX6_counted 81 = .ok (.ireturn, 1) := by decide +kernel
theorem dX6_counted_82 : decode cX6_counted 82 = .ok (.aload_n 0, 1) := by decide +kernel
theorem dX6_counted_83 : decode cX6_counted 83 = .ok (.getfield 7, 3) := by decide +kernel
theorem dX6_counted_86 : decode cX6_counted 86 = .ok (.bipush 35, 2) := by decide +kernel
theorem dX6_counted_88 : decode cX6_counted 88 = .ok (.iaload, 1) := by decide +kernel
theorem dX6_counted_89 : decode cX6_counted 89 = .ok (.ireturn, 1) := by decide +kernel
theorem dX6_counted_90 : decode cX6_counted 90 = .ok (.aload_n 0, 1) := by decide +kernel
theorem dX6_counted_91 : decode cX6_counted 91 = .ok (.getfield 7, 3) := by decide +kernel
theorem dX6_counted_94 : decode cX6_counted 94 = .ok (.bipush 93, 2) := by decide +kernel
theorem dX6_counted_96 : decode cX6_counted 96 = .ok (.iload_n 1, 1) := by decide +kernel
theorem dX6_counted_97 : decode cX6_counted 97 = .ok (.iadd, 1) := by decide +kernel
theorem dX6_counted_98 : decode cX6_counted 98 = .ok (.iconst 3, 1) := by decide +kernel
theorem dX6_counted_99 : decode cX6_counted 99 = .ok (.isub, 1) := by decide +kernel
theorem dX6_counted_100 : decode cX6_counted 100 = .ok (.iaload, 1) := by decide +kernel
theorem dX6_counted_101 : decode cX6_counted 101 = .ok (.ireturn, 1) := by decide +kernel
theorem dX6_counted_102 : decode cX6_counted 102 = .ok (.aload_n 0, 1) := by decide +kernel
theorem dX6_counted_103 : decode cX6_counted 103 = .ok (.getfield 22, 3) := by decide +kernel
theorem dX6_counted_106 : decode cX6_counted 106 = .ok (.iload_n 1, 1) := by decide +kernel
theorem dX6_counted_107 : decode cX6_counted 107 = .ok (.iconst 5, 1) := by decide +kernel
theorem dX6_counted_108 : decode cX6_counted 108 = .ok (.isub, 1) := by decide +kernel
theorem dX6_counted_109 : decode cX6_counted 109 = .ok (.laload, 1) := by decide +kernel
theorem dX6_counted_110 : decode cX6_counted 110 = .ok (.invokestatic 148, 3) := by decide +kernel
theorem dX6_counted_113 : decode cX6_counted 113 = .ok (.ireturn, 1) := by decide +kernel
theorem dX6_counted_114 : decode cX6_counted 114 = .ok (.aload_n 0, 1) := by decide +kernel
theorem dX6_counted_115 : decode cX6_counted 115 = .ok (.getfield 7, 3) := by decide +kernel
theorem dX6_counted_118 : decode cX6_counted 118 = .ok (.bipush 95, 2) := by decide +kernel
theorem dX6_counted_120 : decode cX6_counted 120 = .ok (.iload_n 1, 1) := by decide +kernel
theorem dX6_counted_121 : decode cX6_counted 121 = .ok (.iadd, 1) := by decide +kernel
theorem dX6_counted_122 : decode cX6_counted 122 = .ok (.bipush 7, 2) := by decide +kernel
theorem dX6_counted_124 : decode cX6_counted 124 = .ok (.isub, 1) := by decide +kernel
theorem dX6_counted_125 : decode cX6_counted 125 = .ok (.iaload, 1) := by decide +kernel
theorem dX6_counted_126 : decode cX6_counted 126 = .ok (.ireturn, 1) := by decide +kernel
theorem dX6_counted_127 : decode cX6_counted 127 = .ok (.aload_n 0, 1) := by decide +kernel
theorem dX6_counted_128 : decode cX6_counted 128 = .ok (.getfield 152, 3) := by decide +kernel
theorem dX6_counted_131 : decode cX6_counted 131 = .ok (.ireturn, 1) := by decide +kernel
theorem dX6_counted_132 : decode cX6_counted 132 = .ok (.aload_n 0, 1) := by decide +kernel
theorem dX6_counted_133 : decode cX6_counted 133 = .ok (.getfield 59, 3) := by decide +kernel
theorem dX6_counted_136 : decode cX6_counted 136 = .ok (.ireturn, 1) := by decide +kernel
theorem dX6_counted_137 : decode cX6_counted 137 = .ok (.iconst (-1), 1) := by decide +kernel
theorem dX6_counted_138 : decode cX6_counted 138 = .ok (.ireturn, 1) := by decide +kernel
theorem dX6_fitness_0 : decode cX6_fitness 0 = .ok (.lconst 0, 1) := by decide +kernel
theorem dX6_fitness_1 : decode cX6_fitness 1 = .ok (.lstore_n 1, 1) := by decide +kernel
theorem dX6_fitness_2 : decode cX6_fitness 2 = .ok (.lconst 0, 1) := by decide +kernel
theorem dX6_fitness_3 : decode cX6_fitness 3 = .ok (.lstore_n 3, 1) := by decide +kernel
theorem dX6_fitness_4 : decode cX6_fitness 4 = .ok (.iconst 0, 1) := by decide +kernel
theorem dX6_fitness_5 : decode cX6_fitness 5 = .ok (.istore 5, 2) := by decide +kernel
theorem dX6_fitness_7 : decode cX6_fitness 7 = .ok (.iload 5, 2) := by decide +kernel
theorem dX6_fitness_9 : decode cX6_fitness 9 = .ok (.iconst 4, 1) := by decide +kernel
theorem dX6_fitness_10 : decode cX6_fitness 10 = .ok (.if_icmp .ge 50, 3) := by decide +kernel
theorem dX6_fitness_13 : decode cX6_fitness 13 = .ok (.aload_n 0, 1) := by decide +kernel
theorem dX6_fitness_14 : decode cX6_fitness 14 = .ok (.getfield 7, 3) := by decide +kernel
theorem dX6_fitness_17 : decode cX6_fitness 17 = .ok (.iload 5, 2) := by decide +kernel
theorem dX6_fitness_19 : decode cX6_fitness 19 = .ok (.invokestatic 90, 3) := by decide +kernel
theorem dX6_fitness_22 : decode cX6_fitness 22 = .ok (.iaload, 1) := by decide +kernel
theorem dX6_fitness_23 : decode cX6_fitness 23 = .ok (.ifCond .le 31, 3) := by decide +kernel
theorem dX6_fitness_26 : decode cX6_fitness 26 = .ok (.lload_n 3, 1) := by decide +kernel
theorem dX6_fitness_27 : decode cX6_fitness 27 = .ok (.aload_n 0, 1) := by decide +kernel
theorem dX6_fitness_28 : decode cX6_fitness 28 = .ok (.iload 5, 2) := by decide +kernel
theorem dX6_fitness_30 : decode cX6_fitness 30 = .ok (.iconst 0, 1) := by decide +kernel
theorem dX6_fitness_31 : decode cX6_fitness 31 = .ok (.invokevirtual 131, 3) := by decide +kernel
theorem dX6_fitness_34 : decode cX6_fitness 34 = .ok (.ladd, 1) := by decide +kernel
theorem dX6_fitness_35 : decode cX6_fitness 35 = .ok (.lstore_n 3, 1) := by decide +kernel
theorem dX6_fitness_36 : decode cX6_fitness 36 = .ok (.lload_n 1, 1) := by decide +kernel
theorem dX6_fitness_37 : decode cX6_fitness 37 = .ok (.aload_n 0, 1) := by decide +kernel
theorem dX6_fitness_38 : decode cX6_fitness 38 = .ok (.aload_n 0, 1) := by decide +kernel
theorem dX6_fitness_39 : decode cX6_fitness 39 = .ok (.getfield 7, 3) := by decide +kernel
theorem dX6_fitness_42 : decode cX6_fitness 42 = .ok (.iload 5, 2) := by decide +kernel
theorem dX6_fitness_44 : decode cX6_fitness 44 = .ok (.invokestatic 90, 3) := by decide +kernel
theorem dX6_fitness_47 : decode cX6_fitness 47 = .ok (.iaload, 1) := by decide +kernel
theorem dX6_fitness_48 : decode cX6_fitness 48 = .ok (.iconst 0, 1) := by decide +kernel
theorem dX6_fitness_49 : decode cX6_fitness 49 = .ok (.invokevirtual 125, 3) := by decide +kernel
theorem dX6_fitness_52 : decode cX6_fitness 52 = .ok (.ladd, 1) := by decide +kernel
theorem dX6_fitness_53 : decode cX6_fitness 53 = .ok (.lstore_n 1, 1) := by decide +kernel
theorem dX6_fitness_54 : decode cX6_fitness 54 = .ok (.iinc 5 1, 3) := by decide +kernel
theorem dX6_fitness_57 : decode cX6_fitness 57 = .ok (.goto (-50), 3) := by decide +kernel
theorem dX6_fitness_60 : decode cX6_fitness 60 = .ok (.lload_n 1, 1) := by decide +kernel
theorem dX6_fitness_61 : decode cX6_fitness 61 = .ok (.l2d, 1) := by decide +kernel
theorem dX6_fitness_62 : decode cX6_fitness 62 = .ok (.dstore 5, 2) := by decide +kernel
theorem dX6_fitness_64 : decode cX6_fitness 64 = .ok (.lload_n 3, 1) := by decide +kernel
theorem dX6_fitness_65 : decode cX6_fitness 65 = .ok (.l2d, 1) := by decide +kernel
theorem dX6_fitness_66 : decode cX6_fitness 66 = .ok (.dstore 7, 2) := by decide +kernel
theorem dX6_fitness_68 : decode cX6_fitness 68 = .ok (.lload_n 3, 1) := by decide +kernel
theorem dX6_fitness_69 : decode cX6_fitness 69 = .ok (.lconst 0, 1) := by decide +kernel
theorem dX6_fitness_70 : decode cX6_fitness 70 = .ok (.lcmp, 1) := by decide +kernel
theorem dX6_fitness_71 : decode cX6_fitness 71 = .ok (.ifCond .ne 7, 3) := by decide +kernel
theorem dX6_fitness_74 : decode cX6_fitness 74 = .ok (.dconst 1, 1) := by decide +kernel
theorem dX6_fitness_75 : decode cX6_fitness 75 = .ok (.goto 8, 3) := by decide +kernel
theorem dX6_fitness_78 : decode cX6_fitness 78 = .ok (.dload 5, 2) := by decide +kernel
theorem dX6_fitness_80 : decode cX6_fitness 80 = .ok (.dload 7, 2) := by decide +kernel
theorem dX6_fitness_82 : decode cX6_fitness 82 = .ok (.ddiv, 1) := by decide +kernel
theorem dX6_fitness_83 : decode cX6_fitness 83 = .ok (.dreturn, 1) := by decide +kernel
theorem dX6_dearer_0 : decode cX6_dearer 0 = .ok (.iconst 0, 1) := by decide +kernel
theorem dX6_dearer_1 : decode cX6_dearer 1 = .ok (.istore_n 1, 1) := by decide +kernel
theorem dX6_dearer_2 : decode cX6_dearer 2 = .ok (.iconst 0, 1) := by decide +kernel
theorem dX6_dearer_3 : decode cX6_dearer 3 = .ok (.istore_n 2, 1) := by decide +kernel
theorem dX6_dearer_4 : decode cX6_dearer 4 = .ok (.iload_n 2, 1) := by decide +kernel
theorem dX6_dearer_5 : decode cX6_dearer 5 = .ok (.iconst 4, 1) := by decide +kernel
theorem dX6_dearer_6 : decode cX6_dearer 6 = .ok (.if_icmp .ge 39, 3) := by decide +kernel
theorem dX6_dearer_9 : decode cX6_dearer 9 = .ok (.iload_n 1, 1) := by decide +kernel
theorem dX6_dearer_10 : decode cX6_dearer 10 = .ok (.aload_n 0, 1) := by decide +kernel
theorem dX6_dearer_11 : decode cX6_dearer 11 = .ok (.getfield 7, 3) := by decide +kernel
theorem dX6_dearer_14 : decode cX6_dearer 14 = .ok (.iload_n 2, 1) := by decide +kernel
theorem dX6_dearer_15 : decode cX6_dearer 15 = .ok (.invokestatic 90, 3) := by decide +kernel
theorem dX6_dearer_18 : decode cX6_dearer 18 = .ok (.iaload, 1) := by decide +kernel
theorem dX6_dearer_19 : decode cX6_dearer 19 = .ok (.ifCond .le 17, 3) := by decide +kernel
theorem dX6_dearer_22 : decode cX6_dearer 22 = .ok (.aload_n 0, 1) := by decide +kernel
theorem dX6_dearer_23 : decode cX6_dearer 23 = .ok (.iload_n 2, 1) := by decide +kernel
theorem dX6_dearer_24 : decode cX6_dearer 24 = .ok (.invokevirtual 211, 3) := by decide +kernel
theorem dX6_dearer_27 : decode cX6_dearer 27 = .ok (.lconst 0, 1) := by decide +kernel
theorem dX6_dearer_28 : decode cX6_dearer 28 = .ok (.lcmp, 1) := by decide +kernel
theorem dX6_dearer_29 : decode cX6_dearer 29 = .ok (.ifCond .le 7, 3) := by decide +kernel
theorem dX6_dearer_32 : decode cX6_dearer 32 = .ok (.iconst 1, 1) := by decide +kernel
theorem dX6_dearer_33 : decode cX6_dearer 33 = .ok (.goto 4, 3) := by decide +kernel
theorem dX6_dearer_36 : decode cX6_dearer 36 = .ok (.iconst 0, 1) := by decide +kernel
theorem dX6_dearer_37 : decode cX6_dearer 37 = .ok (.iadd, 1) := by decide +kernel
theorem dX6_dearer_38 : decode cX6_dearer 38 = .ok (.istore_n 1, 1) := by decide +kernel
theorem dX6_dearer_39 : decode cX6_dearer 39 = .ok (.iinc 2 1, 3) := by decide +kernel
theorem dX6_dearer_42 : decode cX6_dearer 42 = .ok (.goto (-38), 3) := by decide +kernel
theorem dX6_dearer_45 : decode cX6_dearer 45 = .ok (.iload_n 1, 1) := by decide +kernel
theorem dX6_dearer_46 : decode cX6_dearer 46 = .ok (.ireturn, 1) := by decide +kernel
theorem dX6_ifCounted_0 : decode cX6_ifCounted 0 = .ok (.iload_n 1, 1) := by decide +kernel
theorem dX6_ifCounted_1 : decode cX6_ifCounted 1 = .ok (.invokestatic 142, 3) := by decide +kernel
theorem dX6_ifCounted_4 : decode cX6_ifCounted 4 = .ok (.ifCond .eq 12, 3) := by decide +kernel
theorem dX6_ifCounted_7 : decode cX6_ifCounted 7 = .ok (.iload_n 2, 1) := by decide +kernel
theorem dX6_ifCounted_8 : decode cX6_ifCounted 8 = .ok (.iconst 0, 1) := by decide +kernel
theorem dX6_ifCounted_9 : decode cX6_ifCounted 9 = .ok (.iconst 1, 1) := by decide +kernel
theorem dX6_ifCounted_10 : decode cX6_ifCounted 10 = .ok (.invokestatic 63, 3) := by decide +kernel
theorem dX6_ifCounted_13 : decode cX6_ifCounted 13 = .ok (.ifCond .ne 5, 3) := by decide +kernel
theorem dX6_ifCounted_16 : decode cX6_ifCounted 16 = .ok (.iconst (-1), 1) := by decide +kernel
theorem dX6_ifCounted_17 : decode cX6_ifCounted 17 = .ok (.ireturn, 1) := by decide +kernel
theorem dX6_ifCounted_18 : decode cX6_ifCounted 18 = .ok (.aload_n 0, 1) := by decide +kernel
theorem dX6_ifCounted_19 : decode cX6_ifCounted 19 = .ok (.invokevirtual 223, 3) := by decide +kernel
theorem dX6_ifCounted_22 : decode cX6_ifCounted 22 = .ok (.iconst 0, 1) := by decide +kernel
theorem dX6_ifCounted_23 : decode cX6_ifCounted 23 = .ok (.istore_n 3, 1) := by decide +kernel
theorem dX6_ifCounted_24 : decode cX6_ifCounted 24 = .ok (.iconst 0, 1) := by decide +kernel
theorem dX6_ifCounted_25 : decode cX6_ifCounted 25 = .ok (.istore 4, 2) := by decide +kernel
theorem dX6_ifCounted_27 : decode cX6_ifCounted 27 = .ok (.iload 4, 2) := by decide +kernel
theorem dX6_ifCounted_29 : decode cX6_ifCounted 29 = .ok (.iconst 5, 1) := by decide +kernel
theorem dX6_ifCounted_30 : decode cX6_ifCounted 30 = .ok (.if_icmp .ge 32, 3) := by decide +kernel
theorem dX6_ifCounted_33 : decode cX6_ifCounted 33 = .ok (.iload_n 3, 1) := by decide +kernel
theorem dX6_ifCounted_34 : decode cX6_ifCounted 34 = .ok (.iload_n 1, 1) := by decide +kernel
theorem dX6_ifCounted_35 : decode cX6_ifCounted 35 = .ok (.iload 4, 2) := by decide +kernel
theorem dX6_ifCounted_37 : decode cX6_ifCounted 37 = .ok (.ishr, 1) := by decide +kernel
theorem dX6_ifCounted_38 : decode cX6_ifCounted 38 = .ok (.iconst 1, 1) := by decide +kernel
theorem dX6_ifCounted_39 : decode cX6_ifCounted 39 = .ok (.iand, 1) := by decide +kernel
theorem dX6_ifCounted_40 : decode cX6_ifCounted 40 = .ok (.iconst 1, 1) := by decide +kernel
theorem dX6_ifCounted_41 : decode cX6_ifCounted 41 = .ok (.if_icmp .ne 12, 3) := by decide +kernel
theorem dX6_ifCounted_44 : decode cX6_ifCounted 44 = .ok (.aload_n 0, 1) := by decide +kernel
theorem dX6_ifCounted_45 : decode cX6_ifCounted 45 = .ok (.iload 4, 2) := by decide +kernel
theorem dX6_ifCounted_47 : decode cX6_ifCounted 47 = .ok (.invokevirtual 119, 3) := by decide +kernel
theorem dX6_ifCounted_50 : decode cX6_ifCounted 50 = .ok (.goto 4, 3) := by decide +kernel
theorem dX6_ifCounted_53 : decode cX6_ifCounted 53 = .ok (.iconst 0, 1) := by decide +kernel
theorem dX6_ifCounted_54 : decode cX6_ifCounted 54 = .ok (.iadd, 1) := by decide +kernel
theorem dX6_ifCounted_55 : decode cX6_ifCounted 55 = .ok (.istore_n 3, 1) := by decide +kernel
theorem dX6_ifCounted_56 : decode cX6_ifCounted 56 = .ok (.iinc 4 1, 3) := by decide +kernel
theorem dX6_ifCounted_59 : decode cX6_ifCounted 59 = .ok (.goto (-32), 3) := by decide +kernel
theorem dX6_ifCounted_62 : decode cX6_ifCounted 62 = .ok (.iload_n 2, 1) := by decide +kernel
theorem dX6_ifCounted_63 : decode cX6_ifCounted 63 = .ok (.ifCond .ne 7, 3) := by decide +kernel
theorem dX6_ifCounted_66 : decode cX6_ifCounted 66 = .ok (.iload_n 3, 1) := by decide +kernel
theorem dX6_ifCounted_67 : decode cX6_ifCounted 67 = .ok (.goto 7, 3) := by decide +kernel
theorem dX6_ifCounted_70 : decode cX6_ifCounted 70 = .ok (.aload_n 0, 1) := by decide +kernel
theorem dX6_ifCounted_71 : decode cX6_ifCounted 71 = .ok (.invokevirtual 226, 3) := by decide +kernel
theorem dX6_ifCounted_74 : decode cX6_ifCounted 74 = .ok (.istore_n 3, 1) := by decide +kernel
theorem dX6_ifCounted_75 : decode cX6_ifCounted 75 = .ok (.aload_n 0, 1) := by decide +kernel
theorem dX6_ifCounted_76 : decode cX6_ifCounted 76 = .ok (.invokevirtual 229, 3) := by decide +kernel
theorem dX6_ifCounted_79 : decode cX6_ifCounted 79 = .ok (.iload_n 3, 1) := by decide +kernel
theorem dX6_ifCounted_80 : decode cX6_ifCounted 80 = .ok (.ireturn, 1) := by decide +kernel
theorem dX6_ifRun_0 : decode cX6_ifRun 0 = .ok (.iload_n 1, 1) := by decide +kernel
theorem dX6_ifRun_1 : decode cX6_ifRun 1 = .ok (.invokestatic 142, 3) := by decide +kernel
theorem dX6_ifRun_4 : decode cX6_ifRun 4 = .ok (.ifCond .ne 5, 3) := by decide +kernel
theorem dX6_ifRun_7 : decode cX6_ifRun 7 = .ok (.iconst (-1), 1) := by decide +kernel
theorem dX6_ifRun_8 : decode cX6_ifRun 8 = .ok (.ireturn, 1) := by decide +kernel
theorem dX6_ifRun_9 : decode cX6_ifRun 9 = .ok (.aload_n 0, 1) := by decide +kernel
theorem dX6_ifRun_10 : decode cX6_ifRun 10 = .ok (.invokevirtual 223, 3) := by decide +kernel
theorem dX6_ifRun_13 : decode cX6_ifRun 13 = .ok (.aload_n 0, 1) := by decide +kernel
theorem dX6_ifRun_14 : decode cX6_ifRun 14 = .ok (.iload_n 1, 1) := by decide +kernel
theorem dX6_ifRun_15 : decode cX6_ifRun 15 = .ok (.invokevirtual 145, 3) := by decide +kernel
theorem dX6_ifRun_18 : decode cX6_ifRun 18 = .ok (.invokestatic 148, 3) := by decide +kernel
theorem dX6_ifRun_21 : decode cX6_ifRun 21 = .ok (.istore_n 2, 1) := by decide +kernel
theorem dX6_ifRun_22 : decode cX6_ifRun 22 = .ok (.aload_n 0, 1) := by decide +kernel
theorem dX6_ifRun_23 : decode cX6_ifRun 23 = .ok (.invokevirtual 229, 3) := by decide +kernel
theorem dX6_ifRun_26 : decode cX6_ifRun 26 = .ok (.iload_n 2, 1) := by decide +kernel
theorem dX6_ifRun_27 : decode cX6_ifRun 27 = .ok (.ireturn, 1) := by decide +kernel
theorem dX6_leastDrift_0 : decode cX6_leastDrift 0 = .ok (.bipush 100, 2) := by decide +kernel
theorem dX6_leastDrift_2 : decode cX6_leastDrift 2 = .ok (.istore_n 1, 1) := by decide +kernel
theorem dX6_leastDrift_3 : decode cX6_leastDrift 3 = .ok (.iload_n 1, 1) := by decide +kernel
theorem dX6_leastDrift_4 : decode cX6_leastDrift 4 = .ok (.sipush 1000, 3) := by decide +kernel
theorem dX6_leastDrift_7 : decode cX6_leastDrift 7 = .ok (.if_icmp .gt 57, 3) := by decide +kernel
theorem dX6_leastDrift_10 : decode cX6_leastDrift 10 = .ok (.iconst 1, 1) := by decide +kernel
theorem dX6_leastDrift_11 : decode cX6_leastDrift 11 = .ok (.istore_n 2, 1) := by decide +kernel
theorem dX6_leastDrift_12 : decode cX6_leastDrift 12 = .ok (.iconst 0, 1) := by decide +kernel
theorem dX6_leastDrift_13 : decode cX6_leastDrift 13 = .ok (.istore_n 3, 1) := by decide +kernel
theorem dX6_leastDrift_14 : decode cX6_leastDrift 14 = .ok (.iload_n 3, 1) := by decide +kernel
theorem dX6_leastDrift_15 : decode cX6_leastDrift 15 = .ok (.iconst 4, 1) := by decide +kernel
theorem dX6_leastDrift_16 : decode cX6_leastDrift 16 = .ok (.if_icmp .ge 36, 3) := by decide +kernel
theorem dX6_leastDrift_19 : decode cX6_leastDrift 19 = .ok (.iload_n 2, 1) := by decide +kernel
theorem dX6_leastDrift_20 : decode cX6_leastDrift 20 = .ok (.ifCond .eq 24, 3) := by decide +kernel
theorem dX6_leastDrift_23 : decode cX6_leastDrift 23 = .ok (.aload_n 0, 1) := by decide +kernel
theorem dX6_leastDrift_24 : decode cX6_leastDrift 24 = .ok (.iload_n 3, 1) := by decide +kernel
theorem dX6_leastDrift_25 : decode cX6_leastDrift 25 = .ok (.invokevirtual 97, 3) := by decide +kernel
theorem dX6_leastDrift_28 : decode cX6_leastDrift 28 = .ok (.ifCond .eq 12, 3) := by decide +kernel
theorem dX6_leastDrift_31 : decode cX6_leastDrift 31 = .ok (.aload_n 0, 1) := by decide +kernel
theorem dX6_leastDrift_32 : decode cX6_leastDrift 32 = .ok (.iload_n 3, 1) := by decide +kernel
theorem dX6_leastDrift_33 : decode cX6_leastDrift 33 = .ok (.iload_n 1, 1) := by decide +kernel
theorem dX6_leastDrift_34 : decode cX6_leastDrift 34 = .ok (.invokevirtual 101, 3) := by decide +kernel
theorem dX6_leastDrift_37 : decode cX6_leastDrift 37 = .ok (.ifCond .ne 7, 3) := by decide +kernel
theorem dX6_leastDrift_40 : decode cX6_leastDrift 40 = .ok (.iconst 1, 1) := by decide +kernel
theorem dX6_leastDrift_41 : decode cX6_leastDrift 41 = .ok (.goto 4, 3) := by decide +kernel
theorem dX6_leastDrift_44 : decode cX6_leastDrift 44 = .ok (.iconst 0, 1) := by decide +kernel
theorem dX6_leastDrift_45 : decode cX6_leastDrift 45 = .ok (.istore_n 2, 1) := by decide +kernel
theorem dX6_leastDrift_46 : decode cX6_leastDrift 46 = .ok (.iinc 3 1, 3) := by decide +kernel
theorem dX6_leastDrift_49 : decode cX6_leastDrift 49 = .ok (.goto (-35), 3) := by decide +kernel
theorem dX6_leastDrift_52 : decode cX6_leastDrift 52 = .ok (.iload_n 2, 1) := by decide +kernel
theorem dX6_leastDrift_53 : decode cX6_leastDrift 53 = .ok (.ifCond .eq 5, 3) := by decide +kernel
theorem dX6_leastDrift_56 : decode cX6_leastDrift 56 = .ok (.iload_n 1, 1) := by decide +kernel
theorem dX6_leastDrift_57 : decode cX6_leastDrift 57 = .ok (.ireturn, 1) := by decide +kernel
theorem dX6_leastDrift_58 : decode cX6_leastDrift 58 = .ok (.iinc 1 1, 3) := by decide +kernel
theorem dX6_leastDrift_61 : decode cX6_leastDrift 61 = .ok (.goto (-58), 3) := by decide +kernel
theorem dX6_leastDrift_64 : decode cX6_leastDrift 64 = .ok (.bipush (-4), 2) := by decide +kernel
theorem dX6_leastDrift_66 : decode cX6_leastDrift 66 = .ok (.ireturn, 1) := by decide +kernel
theorem dX6_undo_0 : decode cX6_undo 0 = .ok (.aload_n 0, 1) := by decide +kernel
theorem dX6_undo_1 : decode cX6_undo 1 = .ok (.getfield 59, 3) := by decide +kernel
theorem dX6_undo_4 : decode cX6_undo 4 = .ok (.ifCond .ne 6, 3) := by decide +kernel
theorem dX6_undo_7 : decode cX6_undo 7 = .ok (.bipush (-2), 2) := by decide +kernel
theorem dX6_undo_9 : decode cX6_undo 9 = .ok (.ireturn, 1) := by decide +kernel
theorem dX6_undo_10 : decode cX6_undo 10 = .ok (.aload_n 0, 1) := by decide +kernel
theorem dX6_undo_11 : decode cX6_undo 11 = .ok (.dup, 1) := by decide +kernel
theorem dX6_undo_12 : decode cX6_undo 12 = .ok (.getfield 59, 3) := by decide +kernel
theorem dX6_undo_15 : decode cX6_undo 15 = .ok (.iconst 1, 1) := by decide +kernel
theorem dX6_undo_16 : decode cX6_undo 16 = .ok (.isub, 1) := by decide +kernel
theorem dX6_undo_17 : decode cX6_undo 17 = .ok (.putfield 59, 3) := by decide +kernel
theorem dX6_undo_20 : decode cX6_undo 20 = .ok (.iconst 0, 1) := by decide +kernel
theorem dX6_undo_21 : decode cX6_undo 21 = .ok (.istore_n 1, 1) := by decide +kernel
theorem dX6_undo_22 : decode cX6_undo 22 = .ok (.iload_n 1, 1) := by decide +kernel
theorem dX6_undo_23 : decode cX6_undo 23 = .ok (.bipush 100, 2) := by decide +kernel
theorem dX6_undo_25 : decode cX6_undo 25 = .ok (.if_icmp .ge 29, 3) := by decide +kernel
theorem dX6_undo_28 : decode cX6_undo 28 = .ok (.aload_n 0, 1) := by decide +kernel
theorem dX6_undo_29 : decode cX6_undo 29 = .ok (.getfield 7, 3) := by decide +kernel
theorem dX6_undo_32 : decode cX6_undo 32 = .ok (.iload_n 1, 1) := by decide +kernel
theorem dX6_undo_33 : decode cX6_undo 33 = .ok (.aload_n 0, 1) := by decide +kernel
theorem dX6_undo_34 : decode cX6_undo 34 = .ok (.getfield 13, 3) := by decide +kernel
theorem dX6_undo_37 : decode cX6_undo 37 = .ok (.bipush 100, 2) := by decide +kernel
theorem dX6_undo_39 : decode cX6_undo 39 = .ok (.aload_n 0, 1) := by decide +kernel
theorem dX6_undo_40 : decode cX6_undo 40 = .ok (.getfield 59, 3) := by decide +kernel
theorem dX6_undo_43 : decode cX6_undo 43 = .ok (.imul, 1) := by decide +kernel
theorem dX6_undo_44 : decode cX6_undo 44 = .ok (.iload_n 1, 1) := by decide +kernel
theorem dX6_undo_45 : decode cX6_undo 45 = .ok (.iadd, 1) := by decide +kernel
theorem dX6_undo_46 : decode cX6_undo 46 = .ok (.iaload, 1) := by decide +kernel
theorem dX6_undo_47 : decode cX6_undo 47 = .ok (.iastore, 1) := by decide +kernel
theorem dX6_undo_48 : decode cX6_undo 48 = .ok (.iinc 1 1, 3) := by decide +kernel
theorem dX6_undo_51 : decode cX6_undo 51 = .ok (.goto (-29), 3) := by decide +kernel
theorem dX6_undo_54 : decode cX6_undo 54 = .ok (.aload_n 0, 1) := by decide +kernel
theorem dX6_undo_55 : decode cX6_undo 55 = .ok (.getfield 22, 3) := by decide +kernel
theorem dX6_undo_58 : decode cX6_undo 58 = .ok (.iconst 0, 1) := by decide +kernel
theorem dX6_undo_59 : decode cX6_undo 59 = .ok (.aload_n 0, 1) := by decide +kernel
theorem dX6_undo_60 : decode cX6_undo 60 = .ok (.getfield 26, 3) := by decide +kernel
theorem dX6_undo_63 : decode cX6_undo 63 = .ok (.iconst 2, 1) := by decide +kernel
theorem dX6_undo_64 : decode cX6_undo 64 = .ok (.aload_n 0, 1) := by decide +kernel
theorem dX6_undo_65 : decode cX6_undo 65 = .ok (.getfield 59, 3) := by decide +kernel
theorem dX6_undo_68 : decode cX6_undo 68 = .ok (.imul, 1) := by decide +kernel
theorem dX6_undo_69 : decode cX6_undo 69 = .ok (.laload, 1) := by decide +kernel
theorem dX6_undo_70 : decode cX6_undo 70 = .ok (.lastore, 1) := by decide +kernel
theorem dX6_undo_71 : decode cX6_undo 71 = .ok (.aload_n 0, 1) := by decide +kernel
theorem dX6_undo_72 : decode cX6_undo 72 = .ok (.getfield 22, 3) := by decide +kernel
theorem dX6_undo_75 : decode cX6_undo 75 = .ok (.iconst 1, 1) := by decide +kernel
theorem dX6_undo_76 : decode cX6_undo 76 = .ok (.aload_n 0, 1) := by decide +kernel
theorem dX6_undo_77 : decode cX6_undo 77 = .ok (.getfield 26, 3) := by decide +kernel
theorem dX6_undo_80 : decode cX6_undo 80 = .ok (.iconst 2, 1) := by decide +kernel
theorem dX6_undo_81 : decode cX6_undo 81 = .ok (.aload_n 0, 1) := by decide +kernel
theorem dX6_undo_82 : decode cX6_undo 82 = .ok (.getfield 59, 3) := by decide +kernel
theorem dX6_undo_85 : decode cX6_undo 85 = .ok (.imul, 1) := by decide +kernel
theorem dX6_undo_86 : decode cX6_undo 86 = .ok (.iconst 1, 1) := by decide +kernel
theorem dX6_undo_87 : decode cX6_undo 87 = .ok (.iadd, 1) := by decide +kernel
theorem dX6_undo_88 : decode cX6_undo 88 = .ok (.laload, 1) := by decide +kernel
theorem dX6_undo_89 : decode cX6_undo 89 = .ok (.lastore, 1) := by decide +kernel
theorem dX6_undo_90 : decode cX6_undo 90 = .ok (.aload_n 0, 1) := by decide +kernel
theorem dX6_undo_91 : decode cX6_undo 91 = .ok (.getfield 59, 3) := by decide +kernel
theorem dX6_undo_94 : decode cX6_undo 94 = .ok (.ireturn, 1) := by decide +kernel
theorem dX6_save_0 : decode cX6_save 0 = .ok (.aload_n 0, 1) := by decide +kernel
theorem dX6_save_1 : decode cX6_save 1 = .ok (.iconst 1, 1) := by decide +kernel
theorem dX6_save_2 : decode cX6_save 2 = .ok (.putfield 232, 3) := by decide +kernel
theorem dX6_save_5 : decode cX6_save 5 = .ok (.iconst 0, 1) := by decide +kernel
theorem dX6_save_6 : decode cX6_save 6 = .ok (.istore_n 1, 1) := by decide +kernel
theorem dX6_save_7 : decode cX6_save 7 = .ok (.iload_n 1, 1) := by decide +kernel
theorem dX6_save_8 : decode cX6_save 8 = .ok (.bipush 100, 2) := by decide +kernel
theorem dX6_save_10 : decode cX6_save 10 = .ok (.if_icmp .ge 21, 3) := by decide +kernel
theorem dX6_save_13 : decode cX6_save 13 = .ok (.aload_n 0, 1) := by decide +kernel
theorem dX6_save_14 : decode cX6_save 14 = .ok (.getfield 16, 3) := by decide +kernel
theorem dX6_save_17 : decode cX6_save 17 = .ok (.iload_n 1, 1) := by decide +kernel
theorem dX6_save_18 : decode cX6_save 18 = .ok (.aload_n 0, 1) := by decide +kernel
theorem dX6_save_19 : decode cX6_save 19 = .ok (.getfield 7, 3) := by decide +kernel
theorem dX6_save_22 : decode cX6_save 22 = .ok (.iload_n 1, 1) := by decide +kernel
theorem dX6_save_23 : decode cX6_save 23 = .ok (.iaload, 1) := by decide +kernel
theorem dX6_save_24 : decode cX6_save 24 = .ok (.iastore, 1) := by decide +kernel
theorem dX6_save_25 : decode cX6_save 25 = .ok (.iinc 1 1, 3) := by decide +kernel
theorem dX6_save_28 : decode cX6_save 28 = .ok (.goto (-21), 3) := by decide +kernel
theorem dX6_save_31 : decode cX6_save 31 = .ok (.aload_n 0, 1) := by decide +kernel
theorem dX6_save_32 : decode cX6_save 32 = .ok (.getfield 29, 3) := by decide +kernel
theorem dX6_save_35 : decode cX6_save 35 = .ok (.iconst 0, 1) := by decide +kernel
theorem dX6_save_36 : decode cX6_save 36 = .ok (.aload_n 0, 1) := by decide +kernel
theorem dX6_save_37 : decode cX6_save 37 = .ok (.getfield 22, 3) := by decide +kernel
theorem dX6_save_40 : decode cX6_save 40 = .ok (.iconst 0, 1) := by decide +kernel
theorem dX6_save_41 : decode cX6_save 41 = .ok (.laload, 1) := by decide +kernel
theorem dX6_save_42 : decode cX6_save 42 = .ok (.lastore, 1) := by decide +kernel
theorem dX6_save_43 : decode cX6_save 43 = .ok (.aload_n 0, 1) := by decide +kernel
theorem dX6_save_44 : decode cX6_save 44 = .ok (.getfield 29, 3) := by decide +kernel
theorem dX6_save_47 : decode cX6_save 47 = .ok (.iconst 1, 1) := by decide +kernel
theorem dX6_save_48 : decode cX6_save 48 = .ok (.aload_n 0, 1) := by decide +kernel
theorem dX6_save_49 : decode cX6_save 49 = .ok (.getfield 22, 3) := by decide +kernel
theorem dX6_save_52 : decode cX6_save 52 = .ok (.iconst 1, 1) := by decide +kernel
theorem dX6_save_53 : decode cX6_save 53 = .ok (.laload, 1) := by decide +kernel
theorem dX6_save_54 : decode cX6_save 54 = .ok (.lastore, 1) := by decide +kernel
theorem dX6_save_55 : decode cX6_save 55 = .ok (.aload_n 0, 1) := by decide +kernel
theorem dX6_save_56 : decode cX6_save 56 = .ok (.invokevirtual 217, 3) := by decide +kernel
theorem dX6_save_59 : decode cX6_save 59 = .ok (.ireturn, 1) := by decide +kernel
theorem dX6_restore_0 : decode cX6_restore 0 = .ok (.aload_n 0, 1) := by decide +kernel
theorem dX6_restore_1 : decode cX6_restore 1 = .ok (.getfield 232, 3) := by decide +kernel
theorem dX6_restore_4 : decode cX6_restore 4 = .ok (.ifCond .ne 6, 3) := by decide +kernel
theorem dX6_restore_7 : decode cX6_restore 7 = .ok (.bipush (-2), 2) := by decide +kernel
theorem dX6_restore_9 : decode cX6_restore 9 = .ok (.ireturn, 1) := by decide +kernel
theorem dX6_restore_10 : decode cX6_restore 10 = .ok (.aload_n 0, 1) := by decide +kernel
theorem dX6_restore_11 : decode cX6_restore 11 = .ok (.invokevirtual 116, 3) := by decide +kernel
theorem dX6_restore_14 : decode cX6_restore 14 = .ok (.iconst 0, 1) := by decide +kernel
theorem dX6_restore_15 : decode cX6_restore 15 = .ok (.istore_n 1, 1) := by decide +kernel
theorem dX6_restore_16 : decode cX6_restore 16 = .ok (.iload_n 1, 1) := by decide +kernel
theorem dX6_restore_17 : decode cX6_restore 17 = .ok (.bipush 100, 2) := by decide +kernel
theorem dX6_restore_19 : decode cX6_restore 19 = .ok (.if_icmp .ge 21, 3) := by decide +kernel
theorem dX6_restore_22 : decode cX6_restore 22 = .ok (.aload_n 0, 1) := by decide +kernel
theorem dX6_restore_23 : decode cX6_restore 23 = .ok (.getfield 7, 3) := by decide +kernel
theorem dX6_restore_26 : decode cX6_restore 26 = .ok (.iload_n 1, 1) := by decide +kernel
theorem dX6_restore_27 : decode cX6_restore 27 = .ok (.aload_n 0, 1) := by decide +kernel
theorem dX6_restore_28 : decode cX6_restore 28 = .ok (.getfield 16, 3) := by decide +kernel
theorem dX6_restore_31 : decode cX6_restore 31 = .ok (.iload_n 1, 1) := by decide +kernel
theorem dX6_restore_32 : decode cX6_restore 32 = .ok (.iaload, 1) := by decide +kernel
theorem dX6_restore_33 : decode cX6_restore 33 = .ok (.iastore, 1) := by decide +kernel
theorem dX6_restore_34 : decode cX6_restore 34 = .ok (.iinc 1 1, 3) := by decide +kernel
theorem dX6_restore_37 : decode cX6_restore 37 = .ok (.goto (-21), 3) := by decide +kernel
theorem dX6_restore_40 : decode cX6_restore 40 = .ok (.aload_n 0, 1) := by decide +kernel
theorem dX6_restore_41 : decode cX6_restore 41 = .ok (.getfield 22, 3) := by decide +kernel
theorem dX6_restore_44 : decode cX6_restore 44 = .ok (.iconst 0, 1) := by decide +kernel
theorem dX6_restore_45 : decode cX6_restore 45 = .ok (.aload_n 0, 1) := by decide +kernel
theorem dX6_restore_46 : decode cX6_restore 46 = .ok (.getfield 29, 3) := by decide +kernel
theorem dX6_restore_49 : decode cX6_restore 49 = .ok (.iconst 0, 1) := by decide +kernel
theorem dX6_restore_50 : decode cX6_restore 50 = .ok (.laload, 1) := by decide +kernel
theorem dX6_restore_51 : decode cX6_restore 51 = .ok (.lastore, 1) := by decide +kernel
theorem dX6_restore_52 : decode cX6_restore 52 = .ok (.aload_n 0, 1) := by decide +kernel
theorem dX6_restore_53 : decode cX6_restore 53 = .ok (.getfield 22, 3) := by decide +kernel
theorem dX6_restore_56 : decode cX6_restore 56 = .ok (.iconst 1, 1) := by decide +kernel
theorem dX6_restore_57 : decode cX6_restore 57 = .ok (.aload_n 0, 1) := by decide +kernel
theorem dX6_restore_58 : decode cX6_restore 58 = .ok (.getfield 29, 3) := by decide +kernel
theorem dX6_restore_61 : decode cX6_restore 61 = .ok (.iconst 1, 1) := by decide +kernel
theorem dX6_restore_62 : decode cX6_restore 62 = .ok (.laload, 1) := by decide +kernel
theorem dX6_restore_63 : decode cX6_restore 63 = .ok (.lastore, 1) := by decide +kernel
theorem dX6_restore_64 : decode cX6_restore 64 = .ok (.aload_n 0, 1) := by decide +kernel
theorem dX6_restore_65 : decode cX6_restore 65 = .ok (.invokevirtual 217, 3) := by decide +kernel
theorem dX6_restore_68 : decode cX6_restore 68 = .ok (.ireturn, 1) := by decide +kernel
end
section
theorem dX0_init_0 : decode cX0_init 0 = .ok (.aload_n 0, 1) := by decide +kernel
theorem dX0_init_1 : decode cX0_init 1 = .ok (.invokespecial 1, 3) := by decide +kernel
theorem dX0_init_4 : decode cX0_init 4 = .ok (.aload_n 0, 1) := by decide +kernel
theorem dX0_init_5 : decode cX0_init 5 = .ok (.iload_n 1, 1) := by decide +kernel
theorem dX0_init_6 : decode cX0_init 6 = .ok (.putfield 7, 3) := by decide +kernel
theorem dX0_init_9 : decode cX0_init 9 = .ok (.aload_n 0, 1) := by decide +kernel
theorem dX0_init_10 : decode cX0_init 10 = .ok (.iload_n 2, 1) := by decide +kernel
theorem dX0_init_11 : decode cX0_init 11 = .ok (.putfield 13, 3) := by decide +kernel
theorem dX0_init_14 : decode cX0_init 14 = .ok (.aload_n 0, 1) := by decide +kernel
theorem dX0_init_15 : decode cX0_init 15 = .ok (.aload_n 3, 1) := by decide +kernel
theorem dX0_init_16 : decode cX0_init 16 = .ok (.putfield 16, 3) := by decide +kernel
theorem dX0_init_19 : decode cX0_init 19 = .ok (.aload_n 0, 1) := by decide +kernel
theorem dX0_init_20 : decode cX0_init 20 = .ok (.lload 4, 2) := by decide +kernel
theorem dX0_init_22 : decode cX0_init 22 = .ok (.putfield 20, 3) := by decide +kernel
theorem dX0_init_25 : decode cX0_init 25 = .ok (.aload_n 0, 1) := by decide +kernel
theorem dX0_init_26 : decode cX0_init 26 = .ok (.iload 6, 2) := by decide +kernel
theorem dX0_init_28 : decode cX0_init 28 = .ok (.putfield 24, 3) := by decide +kernel
theorem dX0_init_31 : decode cX0_init 31 = .ok (.return_, 1) := by decide +kernel
theorem dX1_init_0 : decode cX1_init 0 = .ok (.aload_n 0, 1) := by decide +kernel
theorem dX1_init_1 : decode cX1_init 1 = .ok (.invokespecial 3, 3) := by decide +kernel
theorem dX1_init_4 : decode cX1_init 4 = .ok (.aload_n 0, 1) := by decide +kernel
theorem dX1_init_5 : decode cX1_init 5 = .ok (.bipush 60, 2) := by decide +kernel
theorem dX1_init_7 : decode cX1_init 7 = .ok (.newarray .char, 2) := by decide +kernel
theorem dX1_init_9 : decode cX1_init 9 = .ok (.putfield 9, 3) := by decide +kernel
theorem dX1_init_12 : decode cX1_init 12 = .ok (.aload_n 0, 1) := by decide +kernel
theorem dX1_init_13 : decode cX1_init 13 = .ok (.iconst 0, 1) := by decide +kernel
theorem dX1_init_14 : decode cX1_init 14 = .ok (.putfield 15, 3) := by decide +kernel
theorem dX1_init_17 : decode cX1_init 17 = .ok (.return_, 1) := by decide +kernel
theorem dX1_put_0 : decode cX1_put 0 = .ok (.aload_n 0, 1) := by decide +kernel
theorem dX1_put_1 : decode cX1_put 1 = .ok (.getfield 15, 3) := by decide +kernel
theorem dX1_put_4 : decode cX1_put 4 = .ok (.ifCond .lt 15, 3) := by decide +kernel
theorem dX1_put_7 : decode cX1_put 7 = .ok (.aload_n 0, 1) := by decide +kernel
theorem dX1_put_8 : decode cX1_put 8 = .ok (.getfield 15, 3) := by decide +kernel
theorem dX1_put_11 : decode cX1_put 11 = .ok (.aload_n 0, 1) := by decide +kernel
theorem dX1_put_12 : decode cX1_put 12 = .ok (.getfield 9, 3) := by decide +kernel
theorem dX1_put_15 : decode cX1_put 15 = .ok (.arraylength, 1) := by decide +kernel
theorem dX1_put_16 : decode cX1_put 16 = .ok (.if_icmp .lt 5, 3) := by decide +kernel
theorem dX1_put_19 : decode cX1_put 19 = .ok (.iconst 0, 1) := by decide +kernel
theorem dX1_put_20 : decode cX1_put 20 = .ok (.ireturn, 1) := by decide +kernel
theorem dX1_put_21 : decode cX1_put 21 = .ok (.aload_n 0, 1) := by decide +kernel
theorem dX1_put_22 : decode cX1_put 22 = .ok (.getfield 9, 3) := by decide +kernel
theorem dX1_put_25 : decode cX1_put 25 = .ok (.aload_n 0, 1) := by decide +kernel
theorem dX1_put_26 : decode cX1_put 26 = .ok (.getfield 15, 3) := by decide +kernel
theorem dX1_put_29 : decode cX1_put 29 = .ok (.iload_n 1, 1) := by decide +kernel
theorem dX1_put_30 : decode cX1_put 30 = .ok (.castore, 1) := by decide +kernel
theorem dX1_put_31 : decode cX1_put 31 = .ok (.aload_n 0, 1) := by decide +kernel
theorem dX1_put_32 : decode cX1_put 32 = .ok (.dup, 1) := by decide +kernel
theorem dX1_put_33 : decode cX1_put 33 = .ok (.getfield 15, 3) := by decide +kernel
theorem dX1_put_36 : decode cX1_put 36 = .ok (.iconst 1, 1) := by decide +kernel
theorem dX1_put_37 : decode cX1_put 37 = .ok (.iadd, 1) := by decide +kernel
theorem dX1_put_38 : decode cX1_put 38 = .ok (.putfield 15, 3) := by decide +kernel
theorem dX1_put_41 : decode cX1_put 41 = .ok (.iconst 1, 1) := by decide +kernel
theorem dX1_put_42 : decode cX1_put 42 = .ok (.ireturn, 1) := by decide +kernel
theorem dX1_signAt_0 : decode cX1_signAt 0 = .ok (.iload_n 1, 1) := by decide +kernel
theorem dX1_signAt_1 : decode cX1_signAt 1 = .ok (.ifCond .lt 29, 3) := by decide +kernel
theorem dX1_signAt_4 : decode cX1_signAt 4 = .ok (.iload_n 1, 1) := by decide +kernel
theorem dX1_signAt_5 : decode cX1_signAt 5 = .ok (.aload_n 0, 1) := by decide +kernel
theorem dX1_signAt_6 : decode cX1_signAt 6 = .ok (.getfield 15, 3) := by decide +kernel
theorem dX1_signAt_9 : decode cX1_signAt 9 = .ok (.if_icmp .ge 21, 3) := by decide +kernel
theorem dX1_signAt_12 : decode cX1_signAt 12 = .ok (.iload_n 1, 1) := by decide +kernel
theorem dX1_signAt_13 : decode cX1_signAt 13 = .ok (.aload_n 0, 1) := by decide +kernel
theorem dX1_signAt_14 : decode cX1_signAt 14 = .ok (.getfield 9, 3) := by decide +kernel
theorem dX1_signAt_17 : decode cX1_signAt 17 = .ok (.arraylength, 1) := by decide +kernel
theorem dX1_signAt_18 : decode cX1_signAt 18 = .ok (.if_icmp .ge 12, 3) := by decide +kernel
theorem dX1_signAt_21 : decode cX1_signAt 21 = .ok (.aload_n 0, 1) := by decide +kernel
theorem dX1_signAt_22 : decode cX1_signAt 22 = .ok (.getfield 9, 3) := by decide +kernel
theorem dX1_signAt_25 : decode cX1_signAt 25 = .ok (.iload_n 1, 1) := by decide +kernel
theorem dX1_signAt_26 : decode cX1_signAt 26 = .ok (.caload, 1) := by decide +kernel
theorem dX1_signAt_27 : decode cX1_signAt 27 = .ok (.goto 4, 3) := by decide +kernel
theorem dX1_signAt_30 : decode cX1_signAt 30 = .ok (.iconst 0, 1) := by decide +kernel
theorem dX1_signAt_31 : decode cX1_signAt 31 = .ok (.ireturn, 1) := by decide +kernel
theorem dX2_init_0 : decode cX2_init 0 = .ok (.aload_n 0, 1) := by decide +kernel
theorem dX2_init_1 : decode cX2_init 1 = .ok (.invokespecial 3, 3) := by decide +kernel
theorem dX2_init_4 : decode cX2_init 4 = .ok (.aload_n 0, 1) := by decide +kernel
theorem dX2_init_5 : decode cX2_init 5 = .ok (.iconst 0, 1) := by decide +kernel
theorem dX2_init_6 : decode cX2_init 6 = .ok (.putfield 9, 3) := by decide +kernel
theorem dX2_init_9 : decode cX2_init 9 = .ok (.aload_n 0, 1) := by decide +kernel
theorem dX2_init_10 : decode cX2_init 10 = .ok (.iconst 0, 1) := by decide +kernel
theorem dX2_init_11 : decode cX2_init 11 = .ok (.putfield 15, 3) := by decide +kernel
theorem dX2_init_14 : decode cX2_init 14 = .ok (.aload_n 0, 1) := by decide +kernel
theorem dX2_init_15 : decode cX2_init 15 = .ok (.iconst 0, 1) := by decide +kernel
theorem dX2_init_16 : decode cX2_init 16 = .ok (.putfield 18, 3) := by decide +kernel
theorem dX2_init_19 : decode cX2_init 19 = .ok (.aload_n 0, 1) := by decide +kernel
theorem dX2_init_20 : decode cX2_init 20 = .ok (.iconst 0, 1) := by decide +kernel
theorem dX2_init_21 : decode cX2_init 21 = .ok (.putfield 22, 3) := by decide +kernel
theorem dX2_init_24 : decode cX2_init 24 = .ok (.aload_n 0, 1) := by decide +kernel
theorem dX2_init_25 : decode cX2_init 25 = .ok (.iconst 0, 1) := by decide +kernel
theorem dX2_init_26 : decode cX2_init 26 = .ok (.putfield 25, 3) := by decide +kernel
theorem dX2_init_29 : decode cX2_init 29 = .ok (.aload_n 0, 1) := by decide +kernel
theorem dX2_init_30 : decode cX2_init 30 = .ok (.iconst 0, 1) := by decide +kernel
theorem dX2_init_31 : decode cX2_init 31 = .ok (.putfield 28, 3) := by decide +kernel
theorem dX2_init_34 : decode cX2_init 34 = .ok (.aload_n 0, 1) := by decide +kernel
theorem dX2_init_35 : decode cX2_init 35 = .ok (.aload_n 1, 1) := by decide +kernel
theorem dX2_init_36 : decode cX2_init 36 = .ok (.putfield 31, 3) := by decide +kernel
theorem dX2_init_39 : decode cX2_init 39 = .ok (.return_, 1) := by decide +kernel
theorem dX2_findFault_0 : decode cX2_findFault 0 = .ok (.iconst 0, 1) := by decide +kernel
theorem dX2_findFault_1 : decode cX2_findFault 1 = .ok (.istore_n 1, 1) := by decide +kernel
theorem dX2_findFault_2 : decode cX2_findFault 2 = .ok (.iload_n 1, 1) := by decide +kernel
theorem dX2_findFault_3 : decode cX2_findFault 3 = .ok (.bipush 60, 2) := by decide +kernel
theorem dX2_findFault_5 : decode cX2_findFault 5 = .ok (.if_icmp .ge 51, 3) := by decide +kernel
theorem dX2_findFault_8 : decode cX2_findFault 8 = .ok (.aload_n 0, 1) := by decide +kernel
theorem dX2_findFault_9 : decode cX2_findFault 9 = .ok (.invokevirtual 35, 3) := by decide +kernel
theorem dX2_findFault_12 : decode cX2_findFault 12 = .ok (.ifCond .ne 8, 3) := by decide +kernel
theorem dX2_findFault_15 : decode cX2_findFault 15 = .ok (.aload_n 0, 1) := by decide +kernel
theorem dX2_findFault_16 : decode cX2_findFault 16 = .ok (.getfield 9, 3) := by decide +kernel
theorem dX2_findFault_19 : decode cX2_findFault 19 = .ok (.ireturn, 1) := by decide +kernel
theorem dX2_findFault_20 : decode cX2_findFault 20 = .ok (.aload_n 0, 1) := by decide +kernel
theorem dX2_findFault_21 : decode cX2_findFault 21 = .ok (.getfield 9, 3) := by decide +kernel
theorem dX2_findFault_24 : decode cX2_findFault 24 = .ok (.aload_n 0, 1) := by decide +kernel
theorem dX2_findFault_25 : decode cX2_findFault 25 = .ok (.getfield 31, 3) := by decide +kernel
theorem dX2_findFault_28 : decode cX2_findFault 28 = .ok (.getfield 39, 3) := by decide +kernel
theorem dX2_findFault_31 : decode cX2_findFault 31 = .ok (.if_icmp .lt 5, 3) := by decide +kernel
theorem dX2_findFault_34 : decode cX2_findFault 34 = .ok (.iconst (-1), 1) := by decide +kernel
theorem dX2_findFault_35 : decode cX2_findFault 35 = .ok (.ireturn, 1) := by decide +kernel
theorem dX2_findFault_36 : decode cX2_findFault 36 = .ok (.aload_n 0, 1) := by decide +kernel
theorem dX2_findFault_37 : decode cX2_findFault 37 = .ok (.bipush 59, 2) := by decide +kernel
theorem dX2_findFault_39 : decode cX2_findFault 39 = .ok (.invokevirtual 44, 3) := by decide +kernel
theorem dX2_findFault_42 : decode cX2_findFault 42 = .ok (.ifCond .ne 8, 3) := by decide +kernel
theorem dX2_findFault_45 : decode cX2_findFault 45 = .ok (.aload_n 0, 1) := by decide +kernel
theorem dX2_findFault_46 : decode cX2_findFault 46 = .ok (.getfield 9, 3) := by decide +kernel
theorem dX2_findFault_49 : decode cX2_findFault 49 = .ok (.ireturn, 1) := by decide +kernel
theorem dX2_findFault_50 : decode cX2_findFault 50 = .ok (.iinc 1 1, 3) := by decide +kernel
theorem dX2_findFault_53 : decode cX2_findFault 53 = .ok (.goto (-51), 3) := by decide +kernel
theorem dX2_findFault_56 : decode cX2_findFault 56 = .ok (.aload_n 0, 1) := by decide +kernel
theorem dX2_findFault_57 : decode cX2_findFault 57 = .ok (.getfield 9, 3) := by decide +kernel
theorem dX2_findFault_60 : decode cX2_findFault 60 = .ok (.ireturn, 1) := by decide +kernel
theorem dX2_readDeed_0 : decode cX2_readDeed 0 = .ok (.aload_n 0, 1) := by decide +kernel
theorem dX2_readDeed_1 : decode cX2_readDeed 1 = .ok (.aload_n 0, 1) := by decide +kernel
theorem dX2_readDeed_2 : decode cX2_readDeed 2 = .ok (.getfield 9, 3) := by decide +kernel
theorem dX2_readDeed_5 : decode cX2_readDeed 5 = .ok (.putfield 15, 3) := by decide +kernel
theorem dX2_readDeed_8 : decode cX2_readDeed 8 = .ok (.aload_n 0, 1) := by decide +kernel
theorem dX2_readDeed_9 : decode cX2_readDeed 9 = .ok (.aload_n 0, 1) := by decide +kernel
theorem dX2_readDeed_10 : decode cX2_readDeed 10 = .ok (.getfield 31, 3) := by decide +kernel
theorem dX2_readDeed_13 : decode cX2_readDeed 13 = .ok (.aload_n 0, 1) := by decide +kernel
theorem dX2_readDeed_14 : decode cX2_readDeed 14 = .ok (.getfield 9, 3) := by decide +kernel
theorem dX2_readDeed_17 : decode cX2_readDeed 17 = .ok (.invokevirtual 48, 3) := by decide +kernel
theorem dX2_readDeed_20 : decode cX2_readDeed 20 = .ok (.putfield 18, 3) := by decide +kernel
theorem dX2_readDeed_23 : decode cX2_readDeed 23 = .ok (.aload_n 0, 1) := by decide +kernel
theorem dX2_readDeed_24 : decode cX2_readDeed 24 = .ok (.getfield 18, 3) := by decide +kernel
theorem dX2_readDeed_27 : decode cX2_readDeed 27 = .ok (.lookupswitch 110 #[(99, 56), (112, 41), (113, 41), (114, 71)], 41) := by decide +kernel
theorem dX2_readDeed_68 : decode cX2_readDeed 68 = .ok (.aload_n 0, 1) := by decide +kernel
theorem dX2_readDeed_69 : decode cX2_readDeed 69 = .ok (.dup, 1) := by decide +kernel
theorem dX2_readDeed_70 : decode cX2_readDeed 70 = .ok (.getfield 9, 3) := by decide +kernel
theorem dX2_readDeed_73 : decode cX2_readDeed 73 = .ok (.iconst 1, 1) := by decide +kernel
theorem dX2_readDeed_74 : decode cX2_readDeed 74 = .ok (.iadd, 1) := by decide +kernel
theorem dX2_readDeed_75 : decode cX2_readDeed 75 = .ok (.putfield 9, 3) := by decide +kernel
theorem dX2_readDeed_78 : decode cX2_readDeed 78 = .ok (.aload_n 0, 1) := by decide +kernel
theorem dX2_readDeed_79 : decode cX2_readDeed 79 = .ok (.invokevirtual 52, 3) := by decide +kernel
theorem dX2_readDeed_82 : decode cX2_readDeed 82 = .ok (.ireturn, 1) := by decide +kernel
theorem dX2_readDeed_83 : decode cX2_readDeed 83 = .ok (.aload_n 0, 1) := by decide +kernel
theorem dX2_readDeed_84 : decode cX2_readDeed 84 = .ok (.dup, 1) := by decide +kernel
theorem dX2_readDeed_85 : decode cX2_readDeed 85 = .ok (.getfield 9, 3) := by decide +kernel
theorem dX2_readDeed_88 : decode cX2_readDeed 88 = .ok (.iconst 1, 1) := by decide +kernel
theorem dX2_readDeed_89 : decode cX2_readDeed 89 = .ok (.iadd, 1) := by decide +kernel
theorem dX2_readDeed_90 : decode cX2_readDeed 90 = .ok (.putfield 9, 3) := by decide +kernel
theorem dX2_readDeed_93 : decode cX2_readDeed 93 = .ok (.aload_n 0, 1) := by decide +kernel
theorem dX2_readDeed_94 : decode cX2_readDeed 94 = .ok (.invokevirtual 55, 3) := by decide +kernel
theorem dX2_readDeed_97 : decode cX2_readDeed 97 = .ok (.ireturn, 1) := by decide +kernel
theorem dX2_readDeed_98 : decode cX2_readDeed 98 = .ok (.aload_n 0, 1) := by decide +kernel
theorem dX2_readDeed_99 : decode cX2_readDeed 99 = .ok (.dup, 1) := by decide +kernel
theorem dX2_readDeed_100 : decode cX2_readDeed 100 = .ok (.getfield 9, 3) := by decide +kernel
theorem dX2_readDeed_103 : decode cX2_readDeed 103 = .ok (.iconst 1, 1) := by decide +kernel
theorem dX2_readDeed_104 : decode cX2_readDeed 104 = .ok (.iadd, 1) := by decide +kernel
theorem dX2_readDeed_105 : decode cX2_readDeed 105 = .ok (.putfield 9, 3) := by decide +kernel
theorem dX2_readDeed_108 : decode cX2_readDeed 108 = .ok (.aload_n 0, 1) := by decide +kernel
theorem dX2_readDeed_109 : decode cX2_readDeed 109 = .ok (.invokevirtual 55, 3) := by decide +kernel
theorem dX2_readDeed_112 : decode cX2_readDeed 112 = .ok (.ifCond .eq 23, 3) := by decide +kernel
theorem dX2_readDeed_115 : decode cX2_readDeed 115 = .ok (.aload_n 0, 1) := by decide +kernel
theorem dX2_readDeed_116 : decode cX2_readDeed 116 = .ok (.bipush 61, 2) := by decide +kernel
theorem dX2_readDeed_118 : decode cX2_readDeed 118 = .ok (.invokevirtual 44, 3) := by decide +kernel
theorem dX2_readDeed_121 : decode cX2_readDeed 121 = .ok (.ifCond .eq 14, 3) := by decide +kernel
theorem dX2_readDeed_124 : decode cX2_readDeed 124 = .ok (.aload_n 0, 1) := by decide +kernel
theorem dX2_readDeed_125 : decode cX2_readDeed 125 = .ok (.invokevirtual 58, 3) := by decide +kernel
theorem dX2_readDeed_128 : decode cX2_readDeed 128 = .ok (.ifCond .eq 7, 3) := by decide +kernel
theorem dX2_readDeed_131 : decode cX2_readDeed 131 = .ok (.iconst 1, 1) := by decide +kernel
theorem dX2_readDeed_132 : decode cX2_readDeed 132 = .ok (.goto 4, 3) := by decide +kernel
theorem dX2_readDeed_135 : decode cX2_readDeed 135 = .ok (.iconst 0, 1) := by decide +kernel
theorem dX2_readDeed_136 : decode cX2_readDeed 136 = .ok (.ireturn, 1) := by decide +kernel
theorem dX2_readDeed_137 : decode cX2_readDeed 137 = .ok (.iconst 0, 1) := by decide +kernel
theorem dX2_readDeed_138 : decode cX2_readDeed 138 = .ok (.ireturn, 1) := by decide +kernel
theorem dX2_readSign_0 : decode cX2_readSign 0 = .ok (.aload_n 0, 1) := by decide +kernel
theorem dX2_readSign_1 : decode cX2_readSign 1 = .ok (.getfield 31, 3) := by decide +kernel
theorem dX2_readSign_4 : decode cX2_readSign 4 = .ok (.aload_n 0, 1) := by decide +kernel
theorem dX2_readSign_5 : decode cX2_readSign 5 = .ok (.getfield 9, 3) := by decide +kernel
theorem dX2_readSign_8 : decode cX2_readSign 8 = .ok (.invokevirtual 48, 3) := by decide +kernel
theorem dX2_readSign_11 : decode cX2_readSign 11 = .ok (.iload_n 1, 1) := by decide +kernel
theorem dX2_readSign_12 : decode cX2_readSign 12 = .ok (.if_icmp .eq 5, 3) := by decide +kernel
theorem dX2_readSign_15 : decode cX2_readSign 15 = .ok (.iconst 0, 1) := by decide +kernel
theorem dX2_readSign_16 : decode cX2_readSign 16 = .ok (.ireturn, 1) := by decide +kernel
theorem dX2_readSign_17 : decode cX2_readSign 17 = .ok (.aload_n 0, 1) := by decide +kernel
theorem dX2_readSign_18 : decode cX2_readSign 18 = .ok (.dup, 1) := by decide +kernel
theorem dX2_readSign_19 : decode cX2_readSign 19 = .ok (.getfield 9, 3) := by decide +kernel
theorem dX2_readSign_22 : decode cX2_readSign 22 = .ok (.iconst 1, 1) := by decide +kernel
theorem dX2_readSign_23 : decode cX2_readSign 23 = .ok (.iadd, 1) := by decide +kernel
theorem dX2_readSign_24 : decode cX2_readSign 24 = .ok (.putfield 9, 3) := by decide +kernel
theorem dX2_readSign_27 : decode cX2_readSign 27 = .ok (.iconst 1, 1) := by decide +kernel
theorem dX2_readSign_28 : decode cX2_readSign 28 = .ok (.ireturn, 1) := by decide +kernel
theorem dX2_digit_0 : decode cX2_digit 0 = .ok (.aload_n 0, 1) := by decide +kernel
theorem dX2_digit_1 : decode cX2_digit 1 = .ok (.getfield 31, 3) := by decide +kernel
theorem dX2_digit_4 : decode cX2_digit 4 = .ok (.aload_n 0, 1) := by decide +kernel
theorem dX2_digit_5 : decode cX2_digit 5 = .ok (.getfield 9, 3) := by decide +kernel
theorem dX2_digit_8 : decode cX2_digit 8 = .ok (.invokevirtual 48, 3) := by decide +kernel
theorem dX2_digit_11 : decode cX2_digit 11 = .ok (.bipush 48, 2) := by decide +kernel
theorem dX2_digit_13 : decode cX2_digit 13 = .ok (.isub, 1) := by decide +kernel
theorem dX2_digit_14 : decode cX2_digit 14 = .ok (.ireturn, 1) := by decide +kernel
theorem dX2_readTable_0 : decode cX2_readTable 0 = .ok (.aload_n 0, 1) := by decide +kernel
theorem dX2_readTable_1 : decode cX2_readTable 1 = .ok (.invokevirtual 61, 3) := by decide +kernel
theorem dX2_readTable_4 : decode cX2_readTable 4 = .ok (.invokestatic 65, 3) := by decide +kernel
theorem dX2_readTable_7 : decode cX2_readTable 7 = .ok (.ifCond .ne 5, 3) := by decide +kernel
theorem dX2_readTable_10 : decode cX2_readTable 10 = .ok (.iconst 0, 1) := by decide +kernel
theorem dX2_readTable_11 : decode cX2_readTable 11 = .ok (.ireturn, 1) := by decide +kernel
theorem dX2_readTable_12 : decode cX2_readTable 12 = .ok (.aload_n 0, 1) := by decide +kernel
theorem dX2_readTable_13 : decode cX2_readTable 13 = .ok (.aload_n 0, 1) := by decide +kernel
theorem dX2_readTable_14 : decode cX2_readTable 14 = .ok (.invokevirtual 61, 3) := by decide +kernel
theorem dX2_readTable_17 : decode cX2_readTable 17 = .ok (.putfield 25, 3) := by decide +kernel
theorem dX2_readTable_20 : decode cX2_readTable 20 = .ok (.aload_n 0, 1) := by decide +kernel
theorem dX2_readTable_21 : decode cX2_readTable 21 = .ok (.dup, 1) := by decide +kernel
theorem dX2_readTable_22 : decode cX2_readTable 22 = .ok (.getfield 9, 3) := by decide +kernel
theorem dX2_readTable_25 : decode cX2_readTable 25 = .ok (.iconst 1, 1) := by decide +kernel
theorem dX2_readTable_26 : decode cX2_readTable 26 = .ok (.iadd, 1) := by decide +kernel
theorem dX2_readTable_27 : decode cX2_readTable 27 = .ok (.putfield 9, 3) := by decide +kernel
theorem dX2_readTable_30 : decode cX2_readTable 30 = .ok (.iconst 1, 1) := by decide +kernel
theorem dX2_readTable_31 : decode cX2_readTable 31 = .ok (.ireturn, 1) := by decide +kernel
theorem dX2_readTables_0 : decode cX2_readTables 0 = .ok (.aload_n 0, 1) := by decide +kernel
theorem dX2_readTables_1 : decode cX2_readTables 1 = .ok (.iconst 0, 1) := by decide +kernel
theorem dX2_readTables_2 : decode cX2_readTables 2 = .ok (.putfield 22, 3) := by decide +kernel
theorem dX2_readTables_5 : decode cX2_readTables 5 = .ok (.iconst 0, 1) := by decide +kernel
theorem dX2_readTables_6 : decode cX2_readTables 6 = .ok (.istore_n 1, 1) := by decide +kernel
theorem dX2_readTables_7 : decode cX2_readTables 7 = .ok (.iconst 0, 1) := by decide +kernel
theorem dX2_readTables_8 : decode cX2_readTables 8 = .ok (.istore_n 2, 1) := by decide +kernel
theorem dX2_readTables_9 : decode cX2_readTables 9 = .ok (.iload_n 2, 1) := by decide +kernel
theorem dX2_readTables_10 : decode cX2_readTables 10 = .ok (.iconst 5, 1) := by decide +kernel
theorem dX2_readTables_11 : decode cX2_readTables 11 = .ok (.if_icmp .ge 50, 3) := by decide +kernel
theorem dX2_readTables_14 : decode cX2_readTables 14 = .ok (.aload_n 0, 1) := by decide +kernel
theorem dX2_readTables_15 : decode cX2_readTables 15 = .ok (.invokevirtual 61, 3) := by decide +kernel
theorem dX2_readTables_18 : decode cX2_readTables 18 = .ok (.iload_n 1, 1) := by decide +kernel
theorem dX2_readTables_19 : decode cX2_readTables 19 = .ok (.if_icmp .lt 42, 3) := by decide +kernel
theorem dX2_readTables_22 : decode cX2_readTables 22 = .ok (.aload_n 0, 1) := by decide +kernel
theorem dX2_readTables_23 : decode cX2_readTables 23 = .ok (.invokevirtual 55, 3) := by decide +kernel
theorem dX2_readTables_26 : decode cX2_readTables 26 = .ok (.ifCond .ne 6, 3) := by decide +kernel
theorem dX2_readTables_29 : decode cX2_readTables 29 = .ok (.goto 32, 3) := by decide +kernel
theorem dX2_readTables_32 : decode cX2_readTables 32 = .ok (.aload_n 0, 1) := by decide +kernel
theorem dX2_readTables_33 : decode cX2_readTables 33 = .ok (.dup, 1) := by decide +kernel
theorem dX2_readTables_34 : decode cX2_readTables 34 = .ok (.getfield 22, 3) := by decide +kernel
theorem dX2_readTables_37 : decode cX2_readTables 37 = .ok (.aload_n 0, 1) := by decide +kernel
theorem dX2_readTables_38 : decode cX2_readTables 38 = .ok (.getfield 25, 3) := by decide +kernel
theorem dX2_readTables_41 : decode cX2_readTables 41 = .ok (.invokestatic 69, 3) := by decide +kernel
theorem dX2_readTables_44 : decode cX2_readTables 44 = .ok (.ior, 1) := by decide +kernel
theorem dX2_readTables_45 : decode cX2_readTables 45 = .ok (.putfield 22, 3) := by decide +kernel
theorem dX2_readTables_48 : decode cX2_readTables 48 = .ok (.aload_n 0, 1) := by decide +kernel
theorem dX2_readTables_49 : decode cX2_readTables 49 = .ok (.getfield 25, 3) := by decide +kernel
theorem dX2_readTables_52 : decode cX2_readTables 52 = .ok (.iconst 1, 1) := by decide +kernel
theorem dX2_readTables_53 : decode cX2_readTables 53 = .ok (.iadd, 1) := by decide +kernel
theorem dX2_readTables_54 : decode cX2_readTables 54 = .ok (.istore_n 1, 1) := by decide +kernel
theorem dX2_readTables_55 : decode cX2_readTables 55 = .ok (.iinc 2 1, 3) := by decide +kernel
theorem dX2_readTables_58 : decode cX2_readTables 58 = .ok (.goto (-49), 3) := by decide +kernel
theorem dX2_readTables_61 : decode cX2_readTables 61 = .ok (.aload_n 0, 1) := by decide +kernel
theorem dX2_readTables_62 : decode cX2_readTables 62 = .ok (.getfield 22, 3) := by decide +kernel
theorem dX2_readTables_65 : decode cX2_readTables 65 = .ok (.ifCond .le 7, 3) := by decide +kernel
theorem dX2_readTables_68 : decode cX2_readTables 68 = .ok (.iconst 1, 1) := by decide +kernel
theorem dX2_readTables_69 : decode cX2_readTables 69 = .ok (.goto 4, 3) := by decide +kernel
theorem dX2_readTables_72 : decode cX2_readTables 72 = .ok (.iconst 0, 1) := by decide +kernel
theorem dX2_readTables_73 : decode cX2_readTables 73 = .ok (.ireturn, 1) := by decide +kernel
theorem dX2_readNumber_0 : decode cX2_readNumber 0 = .ok (.aload_n 0, 1) := by decide +kernel
theorem dX2_readNumber_1 : decode cX2_readNumber 1 = .ok (.iconst 0, 1) := by decide +kernel
theorem dX2_readNumber_2 : decode cX2_readNumber 2 = .ok (.putfield 28, 3) := by decide +kernel
theorem dX2_readNumber_5 : decode cX2_readNumber 5 = .ok (.iconst 0, 1) := by decide +kernel
theorem dX2_readNumber_6 : decode cX2_readNumber 6 = .ok (.istore_n 1, 1) := by decide +kernel
theorem dX2_readNumber_7 : decode cX2_readNumber 7 = .ok (.iload_n 1, 1) := by decide +kernel
theorem dX2_readNumber_8 : decode cX2_readNumber 8 = .ok (.iconst 3, 1) := by decide +kernel
theorem dX2_readNumber_9 : decode cX2_readNumber 9 = .ok (.if_icmp .ge 68, 3) := by decide +kernel
theorem dX2_readNumber_12 : decode cX2_readNumber 12 = .ok (.aload_n 0, 1) := by decide +kernel
theorem dX2_readNumber_13 : decode cX2_readNumber 13 = .ok (.getfield 28, 3) := by decide +kernel
theorem dX2_readNumber_16 : decode cX2_readNumber 16 = .ok (.bipush 10, 2) := by decide +kernel
theorem dX2_readNumber_18 : decode cX2_readNumber 18 = .ok (.imul, 1) := by decide +kernel
theorem dX2_readNumber_19 : decode cX2_readNumber 19 = .ok (.aload_n 0, 1) := by decide +kernel
theorem dX2_readNumber_20 : decode cX2_readNumber 20 = .ok (.invokevirtual 61, 3) := by decide +kernel
theorem dX2_readNumber_23 : decode cX2_readNumber 23 = .ok (.iadd, 1) := by decide +kernel
theorem dX2_readNumber_24 : decode cX2_readNumber 24 = .ok (.istore_n 2, 1) := by decide +kernel
theorem dX2_readNumber_25 : decode cX2_readNumber 25 = .ok (.aload_n 0, 1) := by decide +kernel
theorem dX2_readNumber_26 : decode cX2_readNumber 26 = .ok (.invokevirtual 61, 3) := by decide +kernel
theorem dX2_readNumber_29 : decode cX2_readNumber 29 = .ok (.ifCond .lt 48, 3) := by decide +kernel
theorem dX2_readNumber_32 : decode cX2_readNumber 32 = .ok (.aload_n 0, 1) := by decide +kernel
theorem dX2_readNumber_33 : decode cX2_readNumber 33 = .ok (.invokevirtual 61, 3) := by decide +kernel
theorem dX2_readNumber_36 : decode cX2_readNumber 36 = .ok (.bipush 9, 2) := by decide +kernel
theorem dX2_readNumber_38 : decode cX2_readNumber 38 = .ok (.if_icmp .gt 39, 3) := by decide +kernel
theorem dX2_readNumber_41 : decode cX2_readNumber 41 = .ok (.iload_n 2, 1) := by decide +kernel
theorem dX2_readNumber_42 : decode cX2_readNumber 42 = .ok (.iconst 1, 1) := by decide +kernel
theorem dX2_readNumber_43 : decode cX2_readNumber 43 = .ok (.if_icmp .lt 34, 3) := by decide +kernel
theorem dX2_readNumber_46 : decode cX2_readNumber 46 = .ok (.iload_n 2, 1) := by decide +kernel
theorem dX2_readNumber_47 : decode cX2_readNumber 47 = .ok (.sipush 500, 3) := by decide +kernel
theorem dX2_readNumber_50 : decode cX2_readNumber 50 = .ok (.if_icmp .le 6, 3) := by decide +kernel
theorem dX2_readNumber_53 : decode cX2_readNumber 53 = .ok (.goto 24, 3) := by decide +kernel
theorem dX2_readNumber_56 : decode cX2_readNumber 56 = .ok (.aload_n 0, 1) := by decide +kernel
theorem dX2_readNumber_57 : decode cX2_readNumber 57 = .ok (.iload_n 2, 1) := by decide +kernel
theorem dX2_readNumber_58 : decode cX2_readNumber 58 = .ok (.putfield 28, 3) := by decide +kernel
theorem dX2_readNumber_61 : decode cX2_readNumber 61 = .ok (.aload_n 0, 1) := by decide +kernel
theorem dX2_readNumber_62 : decode cX2_readNumber 62 = .ok (.dup, 1) := by decide +kernel
theorem dX2_readNumber_63 : decode cX2_readNumber 63 = .ok (.getfield 9, 3) := by decide +kernel
theorem dX2_readNumber_66 : decode cX2_readNumber 66 = .ok (.iconst 1, 1) := by decide +kernel
theorem dX2_readNumber_67 : decode cX2_readNumber 67 = .ok (.iadd, 1) := by decide +kernel
theorem dX2_readNumber_68 : decode cX2_readNumber 68 = .ok (.putfield 9, 3) := by decide +kernel
theorem dX2_readNumber_71 : decode cX2_readNumber 71 = .ok (.iinc 1 1, 3) := by decide +kernel
theorem dX2_readNumber_74 : decode cX2_readNumber 74 = .ok (.goto (-67), 3) := by decide +kernel
theorem dX2_readNumber_77 : decode cX2_readNumber 77 = .ok (.aload_n 0, 1) := by decide +kernel
theorem dX2_readNumber_78 : decode cX2_readNumber 78 = .ok (.getfield 28, 3) := by decide +kernel
theorem dX2_readNumber_81 : decode cX2_readNumber 81 = .ok (.ifCond .le 7, 3) := by decide +kernel
theorem dX2_readNumber_84 : decode cX2_readNumber 84 = .ok (.iconst 1, 1) := by decide +kernel
theorem dX2_readNumber_85 : decode cX2_readNumber 85 = .ok (.goto 4, 3) := by decide +kernel
theorem dX2_readNumber_88 : decode cX2_readNumber 88 = .ok (.iconst 0, 1) := by decide +kernel
theorem dX2_readNumber_89 : decode cX2_readNumber 89 = .ok (.ireturn, 1) := by decide +kernel
theorem dX3_init_0 : decode cX3_init 0 = .ok (.aload_n 0, 1) := by decide +kernel
theorem dX3_init_1 : decode cX3_init 1 = .ok (.invokespecial 3, 3) := by decide +kernel
theorem dX3_init_4 : decode cX3_init 4 = .ok (.aload_n 0, 1) := by decide +kernel
theorem dX3_init_5 : decode cX3_init 5 = .ok (.bipush 32, 2) := by decide +kernel
theorem dX3_init_7 : decode cX3_init 7 = .ok (.newarray .long, 2) := by decide +kernel
theorem dX3_init_9 : decode cX3_init 9 = .ok (.putfield 9, 3) := by decide +kernel
theorem dX3_init_12 : decode cX3_init 12 = .ok (.aload_n 0, 1) := by decide +kernel
theorem dX3_init_13 : decode cX3_init 13 = .ok (.bipush 32, 2) := by decide +kernel
theorem dX3_init_15 : decode cX3_init 15 = .ok (.newarray .long, 2) := by decide +kernel
theorem dX3_init_17 : decode cX3_init 17 = .ok (.putfield 15, 3) := by decide +kernel
theorem dX3_init_20 : decode cX3_init 20 = .ok (.aload_n 0, 1) := by decide +kernel
theorem dX3_init_21 : decode cX3_init 21 = .ok (.bipush 32, 2) := by decide +kernel
theorem dX3_init_23 : decode cX3_init 23 = .ok (.newarray .int, 2) := by decide +kernel
theorem dX3_init_25 : decode cX3_init 25 = .ok (.putfield 18, 3) := by decide +kernel
theorem dX3_init_28 : decode cX3_init 28 = .ok (.aload_n 0, 1) := by decide +kernel
theorem dX3_init_29 : decode cX3_init 29 = .ok (.getfield 9, 3) := by decide +kernel
theorem dX3_init_32 : decode cX3_init 32 = .ok (.iconst 0, 1) := by decide +kernel
theorem dX3_init_33 : decode cX3_init 33 = .ok (.lconst 1, 1) := by decide +kernel
theorem dX3_init_34 : decode cX3_init 34 = .ok (.lastore, 1) := by decide +kernel
theorem dX3_init_35 : decode cX3_init 35 = .ok (.return_, 1) := by decide +kernel
theorem dX3_reckon_0 : decode cX3_reckon 0 = .ok (.iconst 0, 1) := by decide +kernel
theorem dX3_reckon_1 : decode cX3_reckon 1 = .ok (.istore_n 3, 1) := by decide +kernel
theorem dX3_reckon_2 : decode cX3_reckon 2 = .ok (.iload_n 3, 1) := by decide +kernel
theorem dX3_reckon_3 : decode cX3_reckon 3 = .ok (.iconst 5, 1) := by decide +kernel
theorem dX3_reckon_4 : decode cX3_reckon 4 = .ok (.if_icmp .ge 96, 3) := by decide +kernel
theorem dX3_reckon_7 : decode cX3_reckon 7 = .ok (.iconst 0, 1) := by decide +kernel
theorem dX3_reckon_8 : decode cX3_reckon 8 = .ok (.istore 4, 2) := by decide +kernel
theorem dX3_reckon_10 : decode cX3_reckon 10 = .ok (.iload 4, 2) := by decide +kernel
theorem dX3_reckon_12 : decode cX3_reckon 12 = .ok (.iload_n 3, 1) := by decide +kernel
theorem dX3_reckon_13 : decode cX3_reckon 13 = .ok (.invokestatic 22, 3) := by decide +kernel
theorem dX3_reckon_16 : decode cX3_reckon 16 = .ok (.if_icmp .ge 78, 3) := by decide +kernel
theorem dX3_reckon_19 : decode cX3_reckon 19 = .ok (.aload_n 0, 1) := by decide +kernel
theorem dX3_reckon_20 : decode cX3_reckon 20 = .ok (.getfield 9, 3) := by decide +kernel
theorem dX3_reckon_23 : decode cX3_reckon 23 = .ok (.iload 4, 2) := by decide +kernel
theorem dX3_reckon_25 : decode cX3_reckon 25 = .ok (.laload, 1) := by decide +kernel
theorem dX3_reckon_26 : decode cX3_reckon 26 = .ok (.aload_n 1, 1) := by decide +kernel
theorem dX3_reckon_27 : decode cX3_reckon 27 = .ok (.iload_n 3, 1) := by decide +kernel
theorem dX3_reckon_28 : decode cX3_reckon 28 = .ok (.iaload, 1) := by decide +kernel
theorem dX3_reckon_29 : decode cX3_reckon 29 = .ok (.i2l, 1) := by decide +kernel
theorem dX3_reckon_30 : decode cX3_reckon 30 = .ok (.lmul, 1) := by decide +kernel
theorem dX3_reckon_31 : decode cX3_reckon 31 = .ok (.lstore 5, 2) := by decide +kernel
theorem dX3_reckon_33 : decode cX3_reckon 33 = .ok (.iconst 0, 1) := by decide +kernel
theorem dX3_reckon_34 : decode cX3_reckon 34 = .ok (.istore 7, 2) := by decide +kernel
theorem dX3_reckon_36 : decode cX3_reckon 36 = .ok (.iload 7, 2) := by decide +kernel
theorem dX3_reckon_38 : decode cX3_reckon 38 = .ok (.iload_n 3, 1) := by decide +kernel
theorem dX3_reckon_39 : decode cX3_reckon 39 = .ok (.if_icmp .ge 35, 3) := by decide +kernel
theorem dX3_reckon_42 : decode cX3_reckon 42 = .ok (.iload 4, 2) := by decide +kernel
theorem dX3_reckon_44 : decode cX3_reckon 44 = .ok (.iload 7, 2) := by decide +kernel
theorem dX3_reckon_46 : decode cX3_reckon 46 = .ok (.invokestatic 26, 3) := by decide +kernel
theorem dX3_reckon_49 : decode cX3_reckon 49 = .ok (.ifCond .eq 19, 3) := by decide +kernel
theorem dX3_reckon_52 : decode cX3_reckon 52 = .ok (.lload 5, 2) := by decide +kernel
theorem dX3_reckon_54 : decode cX3_reckon 54 = .ok (.aload_n 2, 1) := by decide +kernel
theorem dX3_reckon_55 : decode cX3_reckon 55 = .ok (.iload 7, 2) := by decide +kernel
theorem dX3_reckon_57 : decode cX3_reckon 57 = .ok (.aaload, 1) := by decide +kernel
theorem dX3_reckon_58 : decode cX3_reckon 58 = .ok (.iload_n 3, 1) := by decide +kernel
theorem dX3_reckon_59 : decode cX3_reckon 59 = .ok (.iaload, 1) := by decide +kernel
theorem dX3_reckon_60 : decode cX3_reckon 60 = .ok (.i2l, 1) := by decide +kernel
theorem dX3_reckon_61 : decode cX3_reckon 61 = .ok (.lmul, 1) := by decide +kernel
theorem dX3_reckon_62 : decode cX3_reckon 62 = .ok (.ldc2_w 30, 3) := by decide +kernel
theorem dX3_reckon_65 : decode cX3_reckon 65 = .ok (.ldiv, 1) := by decide +kernel
theorem dX3_reckon_66 : decode cX3_reckon 66 = .ok (.lstore 5, 2) := by decide +kernel
theorem dX3_reckon_68 : decode cX3_reckon 68 = .ok (.iinc 7 1, 3) := by decide +kernel
theorem dX3_reckon_71 : decode cX3_reckon 71 = .ok (.goto (-35), 3) := by decide +kernel
theorem dX3_reckon_74 : decode cX3_reckon 74 = .ok (.aload_n 0, 1) := by decide +kernel
theorem dX3_reckon_75 : decode cX3_reckon 75 = .ok (.getfield 9, 3) := by decide +kernel
theorem dX3_reckon_78 : decode cX3_reckon 78 = .ok (.iload 4, 2) := by decide +kernel
theorem dX3_reckon_80 : decode cX3_reckon 80 = .ok (.iload_n 3, 1) := by decide +kernel
theorem dX3_reckon_81 : decode cX3_reckon 81 = .ok (.invokestatic 22, 3) := by decide +kernel
theorem dX3_reckon_84 : decode cX3_reckon 84 = .ok (.iadd, 1) := by decide +kernel
theorem dX3_reckon_85 : decode cX3_reckon 85 = .ok (.lload 5, 2) := by decide +kernel
theorem dX3_reckon_87 : decode cX3_reckon 87 = .ok (.lastore, 1) := by decide +kernel
theorem dX3_reckon_88 : decode cX3_reckon 88 = .ok (.iinc 4 1, 3) := by decide +kernel
theorem dX3_reckon_91 : decode cX3_reckon 91 = .ok (.goto (-81), 3) := by decide +kernel
theorem dX3_reckon_94 : decode cX3_reckon 94 = .ok (.iinc 3 1, 3) := by decide +kernel
theorem dX3_reckon_97 : decode cX3_reckon 97 = .ok (.goto (-95), 3) := by decide +kernel
theorem dX3_reckon_100 : decode cX3_reckon 100 = .ok (.iconst 1, 1) := by decide +kernel
theorem dX3_reckon_101 : decode cX3_reckon 101 = .ok (.istore_n 3, 1) := by decide +kernel
theorem dX3_reckon_102 : decode cX3_reckon 102 = .ok (.iload_n 3, 1) := by decide +kernel
theorem dX3_reckon_103 : decode cX3_reckon 103 = .ok (.bipush 32, 2) := by decide +kernel
theorem dX3_reckon_105 : decode cX3_reckon 105 = .ok (.if_icmp .ge 14, 3) := by decide +kernel
theorem dX3_reckon_108 : decode cX3_reckon 108 = .ok (.aload_n 0, 1) := by decide +kernel
theorem dX3_reckon_109 : decode cX3_reckon 109 = .ok (.iload_n 3, 1) := by decide +kernel
theorem dX3_reckon_110 : decode cX3_reckon 110 = .ok (.invokevirtual 32, 3) := by decide +kernel
theorem dX3_reckon_113 : decode cX3_reckon 113 = .ok (.iinc 3 1, 3) := by decide +kernel
theorem dX3_reckon_116 : decode cX3_reckon 116 = .ok (.goto (-14), 3) := by decide +kernel
theorem dX3_reckon_119 : decode cX3_reckon 119 = .ok (.return_, 1) := by decide +kernel
theorem dX3_planSet_0 : decode cX3_planSet 0 = .ok (.ldc2_w 38, 3) := by decide +kernel
theorem dX3_planSet_3 : decode cX3_planSet 3 = .ok (.lstore_n 2, 1) := by decide +kernel
theorem dX3_planSet_4 : decode cX3_planSet 4 = .ok (.iconst 0, 1) := by decide +kernel
theorem dX3_planSet_5 : decode cX3_planSet 5 = .ok (.istore 4, 2) := by decide +kernel
theorem dX3_planSet_7 : decode cX3_planSet 7 = .ok (.iconst 0, 1) := by decide +kernel
theorem dX3_planSet_8 : decode cX3_planSet 8 = .ok (.istore 5, 2) := by decide +kernel
theorem dX3_planSet_10 : decode cX3_planSet 10 = .ok (.iload 5, 2) := by decide +kernel
theorem dX3_planSet_12 : decode cX3_planSet 12 = .ok (.iconst 5, 1) := by decide +kernel
theorem dX3_planSet_13 : decode cX3_planSet 13 = .ok (.if_icmp .ge 90, 3) := by decide +kernel
theorem dX3_planSet_16 : decode cX3_planSet 16 = .ok (.iload_n 1, 1) := by decide +kernel
theorem dX3_planSet_17 : decode cX3_planSet 17 = .ok (.iload 5, 2) := by decide +kernel
theorem dX3_planSet_19 : decode cX3_planSet 19 = .ok (.invokestatic 22, 3) := by decide +kernel
theorem dX3_planSet_22 : decode cX3_planSet 22 = .ok (.isub, 1) := by decide +kernel
theorem dX3_planSet_23 : decode cX3_planSet 23 = .ok (.istore 6, 2) := by decide +kernel
theorem dX3_planSet_25 : decode cX3_planSet 25 = .ok (.iload_n 1, 1) := by decide +kernel
theorem dX3_planSet_26 : decode cX3_planSet 26 = .ok (.iload 5, 2) := by decide +kernel
theorem dX3_planSet_28 : decode cX3_planSet 28 = .ok (.invokestatic 26, 3) := by decide +kernel
theorem dX3_planSet_31 : decode cX3_planSet 31 = .ok (.ifCond .eq 66, 3) := by decide +kernel
theorem dX3_planSet_34 : decode cX3_planSet 34 = .ok (.iload 6, 2) := by decide +kernel
theorem dX3_planSet_36 : decode cX3_planSet 36 = .ok (.ifCond .lt 61, 3) := by decide +kernel
theorem dX3_planSet_39 : decode cX3_planSet 39 = .ok (.iload 6, 2) := by decide +kernel
theorem dX3_planSet_41 : decode cX3_planSet 41 = .ok (.bipush 32, 2) := by decide +kernel
theorem dX3_planSet_43 : decode cX3_planSet 43 = .ok (.if_icmp .ge 54, 3) := by decide +kernel
theorem dX3_planSet_46 : decode cX3_planSet 46 = .ok (.aload_n 0, 1) := by decide +kernel
theorem dX3_planSet_47 : decode cX3_planSet 47 = .ok (.getfield 18, 3) := by decide +kernel
theorem dX3_planSet_50 : decode cX3_planSet 50 = .ok (.iload 6, 2) := by decide +kernel
theorem dX3_planSet_52 : decode cX3_planSet 52 = .ok (.iaload, 1) := by decide +kernel
theorem dX3_planSet_53 : decode cX3_planSet 53 = .ok (.iload 5, 2) := by decide +kernel
theorem dX3_planSet_55 : decode cX3_planSet 55 = .ok (.invokestatic 40, 3) := by decide +kernel
theorem dX3_planSet_58 : decode cX3_planSet 58 = .ok (.istore 7, 2) := by decide +kernel
theorem dX3_planSet_60 : decode cX3_planSet 60 = .ok (.aload_n 0, 1) := by decide +kernel
theorem dX3_planSet_61 : decode cX3_planSet 61 = .ok (.getfield 15, 3) := by decide +kernel
theorem dX3_planSet_64 : decode cX3_planSet 64 = .ok (.iload 6, 2) := by decide +kernel
theorem dX3_planSet_66 : decode cX3_planSet 66 = .ok (.laload, 1) := by decide +kernel
theorem dX3_planSet_67 : decode cX3_planSet 67 = .ok (.lstore 8, 2) := by decide +kernel
theorem dX3_planSet_69 : decode cX3_planSet 69 = .ok (.lload 8, 2) := by decide +kernel
theorem dX3_planSet_71 : decode cX3_planSet 71 = .ok (.lload_n 2, 1) := by decide +kernel
theorem dX3_planSet_72 : decode cX3_planSet 72 = .ok (.lcmp, 1) := by decide +kernel
theorem dX3_planSet_73 : decode cX3_planSet 73 = .ok (.ifCond .lt 17, 3) := by decide +kernel
theorem dX3_planSet_76 : decode cX3_planSet 76 = .ok (.lload 8, 2) := by decide +kernel
theorem dX3_planSet_78 : decode cX3_planSet 78 = .ok (.lload_n 2, 1) := by decide +kernel
theorem dX3_planSet_79 : decode cX3_planSet 79 = .ok (.lcmp, 1) := by decide +kernel
theorem dX3_planSet_80 : decode cX3_planSet 80 = .ok (.ifCond .ne 17, 3) := by decide +kernel
theorem dX3_planSet_83 : decode cX3_planSet 83 = .ok (.iload 7, 2) := by decide +kernel
theorem dX3_planSet_85 : decode cX3_planSet 85 = .ok (.iload 4, 2) := by decide +kernel
theorem dX3_planSet_87 : decode cX3_planSet 87 = .ok (.if_icmp .ge 10, 3) := by decide +kernel
theorem dX3_planSet_90 : decode cX3_planSet 90 = .ok (.lload 8, 2) := by decide +kernel
theorem dX3_planSet_92 : decode cX3_planSet 92 = .ok (.lstore_n 2, 1) := by decide +kernel
theorem dX3_planSet_93 : decode cX3_planSet 93 = .ok (.iload 7, 2) := by decide +kernel
theorem dX3_planSet_95 : decode cX3_planSet 95 = .ok (.istore 4, 2) := by decide +kernel
theorem dX3_planSet_97 : decode cX3_planSet 97 = .ok (.iinc 5 1, 3) := by decide +kernel
theorem dX3_planSet_100 : decode cX3_planSet 100 = .ok (.goto (-90), 3) := by decide +kernel
theorem dX3_planSet_103 : decode cX3_planSet 103 = .ok (.iload_n 1, 1) := by decide +kernel
theorem dX3_planSet_104 : decode cX3_planSet 104 = .ok (.invokestatic 44, 3) := by decide +kernel
theorem dX3_planSet_107 : decode cX3_planSet 107 = .ok (.ifCond .eq 29, 3) := by decide +kernel
theorem dX3_planSet_110 : decode cX3_planSet 110 = .ok (.aload_n 0, 1) := by decide +kernel
theorem dX3_planSet_111 : decode cX3_planSet 111 = .ok (.getfield 15, 3) := by decide +kernel
theorem dX3_planSet_114 : decode cX3_planSet 114 = .ok (.iload_n 1, 1) := by decide +kernel
theorem dX3_planSet_115 : decode cX3_planSet 115 = .ok (.lload_n 2, 1) := by decide +kernel
theorem dX3_planSet_116 : decode cX3_planSet 116 = .ok (.aload_n 0, 1) := by decide +kernel
theorem dX3_planSet_117 : decode cX3_planSet 117 = .ok (.getfield 9, 3) := by decide +kernel
theorem dX3_planSet_120 : decode cX3_planSet 120 = .ok (.iload_n 1, 1) := by decide +kernel
theorem dX3_planSet_121 : decode cX3_planSet 121 = .ok (.laload, 1) := by decide +kernel
theorem dX3_planSet_122 : decode cX3_planSet 122 = .ok (.lconst 1, 1) := by decide +kernel
theorem dX3_planSet_123 : decode cX3_planSet 123 = .ok (.invokestatic 48, 3) := by decide +kernel
theorem dX3_planSet_126 : decode cX3_planSet 126 = .ok (.ladd, 1) := by decide +kernel
theorem dX3_planSet_127 : decode cX3_planSet 127 = .ok (.lastore, 1) := by decide +kernel
theorem dX3_planSet_128 : decode cX3_planSet 128 = .ok (.aload_n 0, 1) := by decide +kernel
theorem dX3_planSet_129 : decode cX3_planSet 129 = .ok (.getfield 18, 3) := by decide +kernel
theorem dX3_planSet_132 : decode cX3_planSet 132 = .ok (.iload_n 1, 1) := by decide +kernel
theorem dX3_planSet_133 : decode cX3_planSet 133 = .ok (.iload 4, 2) := by decide +kernel
theorem dX3_planSet_135 : decode cX3_planSet 135 = .ok (.iastore, 1) := by decide +kernel
theorem dX3_planSet_136 : decode cX3_planSet 136 = .ok (.return_, 1) := by decide +kernel
theorem dX3_sizeOf_0 : decode cX3_sizeOf 0 = .ok (.iload_n 1, 1) := by decide +kernel
theorem dX3_sizeOf_1 : decode cX3_sizeOf 1 = .ok (.invokestatic 44, 3) := by decide +kernel
theorem dX3_sizeOf_4 : decode cX3_sizeOf 4 = .ok (.ifCond .eq 16, 3) := by decide +kernel
theorem dX3_sizeOf_7 : decode cX3_sizeOf 7 = .ok (.aload_n 0, 1) := by decide +kernel
theorem dX3_sizeOf_8 : decode cX3_sizeOf 8 = .ok (.getfield 9, 3) := by decide +kernel
theorem dX3_sizeOf_11 : decode cX3_sizeOf 11 = .ok (.iload_n 1, 1) := by decide +kernel
theorem dX3_sizeOf_12 : decode cX3_sizeOf 12 = .ok (.laload, 1) := by decide +kernel
theorem dX3_sizeOf_13 : decode cX3_sizeOf 13 = .ok (.lconst 1, 1) := by decide +kernel
theorem dX3_sizeOf_14 : decode cX3_sizeOf 14 = .ok (.invokestatic 48, 3) := by decide +kernel
theorem dX3_sizeOf_17 : decode cX3_sizeOf 17 = .ok (.goto 4, 3) := by decide +kernel
theorem dX3_sizeOf_20 : decode cX3_sizeOf 20 = .ok (.lconst 0, 1) := by decide +kernel
theorem dX3_sizeOf_21 : decode cX3_sizeOf 21 = .ok (.lreturn, 1) := by decide +kernel
theorem dX3_leastBySets_0 : decode cX3_leastBySets 0 = .ok (.iload_n 1, 1) := by decide +kernel
theorem dX3_leastBySets_1 : decode cX3_leastBySets 1 = .ok (.invokestatic 44, 3) := by decide +kernel
theorem dX3_leastBySets_4 : decode cX3_leastBySets 4 = .ok (.ifCond .eq 12, 3) := by decide +kernel
theorem dX3_leastBySets_7 : decode cX3_leastBySets 7 = .ok (.aload_n 0, 1) := by decide +kernel
theorem dX3_leastBySets_8 : decode cX3_leastBySets 8 = .ok (.getfield 15, 3) := by decide +kernel
theorem dX3_leastBySets_11 : decode cX3_leastBySets 11 = .ok (.iload_n 1, 1) := by decide +kernel
theorem dX3_leastBySets_12 : decode cX3_leastBySets 12 = .ok (.laload, 1) := by decide +kernel
theorem dX3_leastBySets_13 : decode cX3_leastBySets 13 = .ok (.goto 4, 3) := by decide +kernel
theorem dX3_leastBySets_16 : decode cX3_leastBySets 16 = .ok (.lconst 0, 1) := by decide +kernel
theorem dX3_leastBySets_17 : decode cX3_leastBySets 17 = .ok (.lreturn, 1) := by decide +kernel
theorem dX3_bestOrder_0 : decode cX3_bestOrder 0 = .ok (.iload_n 1, 1) := by decide +kernel
theorem dX3_bestOrder_1 : decode cX3_bestOrder 1 = .ok (.invokestatic 44, 3) := by decide +kernel
theorem dX3_bestOrder_4 : decode cX3_bestOrder 4 = .ok (.ifCond .eq 12, 3) := by decide +kernel
theorem dX3_bestOrder_7 : decode cX3_bestOrder 7 = .ok (.aload_n 0, 1) := by decide +kernel
theorem dX3_bestOrder_8 : decode cX3_bestOrder 8 = .ok (.getfield 18, 3) := by decide +kernel
theorem dX3_bestOrder_11 : decode cX3_bestOrder 11 = .ok (.iload_n 1, 1) := by decide +kernel
theorem dX3_bestOrder_12 : decode cX3_bestOrder 12 = .ok (.iaload, 1) := by decide +kernel
theorem dX3_bestOrder_13 : decode cX3_bestOrder 13 = .ok (.goto 4, 3) := by decide +kernel
theorem dX3_bestOrder_16 : decode cX3_bestOrder 16 = .ok (.iconst 0, 1) := by decide +kernel
theorem dX3_bestOrder_17 : decode cX3_bestOrder 17 = .ok (.ireturn, 1) := by decide +kernel
theorem dX3_leastByOrders_0 : decode cX3_leastByOrders 0 = .ok (.aload_n 0, 1) := by decide +kernel
theorem dX3_leastByOrders_1 : decode cX3_leastByOrders 1 = .ok (.iload_n 1, 1) := by decide +kernel
theorem dX3_leastByOrders_2 : decode cX3_leastByOrders 2 = .ok (.iconst 0, 1) := by decide +kernel
theorem dX3_leastByOrders_3 : decode cX3_leastByOrders 3 = .ok (.iconst 0, 1) := by decide +kernel
theorem dX3_leastByOrders_4 : decode cX3_leastByOrders 4 = .ok (.invokestatic 54, 3) := by decide +kernel
theorem dX3_leastByOrders_7 : decode cX3_leastByOrders 7 = .ok (.lreturn, 1) := by decide +kernel
theorem dX3_leastOnward_0 : decode cX3_leastOnward 0 = .ok (.iload_n 2, 1) := by decide +kernel
theorem dX3_leastOnward_1 : decode cX3_leastOnward 1 = .ok (.iload_n 1, 1) := by decide +kernel
theorem dX3_leastOnward_2 : decode cX3_leastOnward 2 = .ok (.if_icmp .eq 8, 3) := by decide +kernel
theorem dX3_leastOnward_5 : decode cX3_leastOnward 5 = .ok (.iload_n 3, 1) := by decide +kernel
theorem dX3_leastOnward_6 : decode cX3_leastOnward 6 = .ok (.iconst 5, 1) := by decide +kernel
theorem dX3_leastOnward_7 : decode cX3_leastOnward 7 = .ok (.if_icmp .lt 5, 3) := by decide +kernel
theorem dX3_leastOnward_10 : decode cX3_leastOnward 10 = .ok (.lconst 0, 1) := by decide +kernel
theorem dX3_leastOnward_11 : decode cX3_leastOnward 11 = .ok (.lreturn, 1) := by decide +kernel
theorem dX3_leastOnward_12 : decode cX3_leastOnward 12 = .ok (.ldc2_w 38, 3) := by decide +kernel
theorem dX3_leastOnward_15 : decode cX3_leastOnward 15 = .ok (.lstore 4, 2) := by decide +kernel
theorem dX3_leastOnward_17 : decode cX3_leastOnward 17 = .ok (.iconst 0, 1) := by decide +kernel
theorem dX3_leastOnward_18 : decode cX3_leastOnward 18 = .ok (.istore 6, 2) := by decide +kernel
theorem dX3_leastOnward_20 : decode cX3_leastOnward 20 = .ok (.iload 6, 2) := by decide +kernel
theorem dX3_leastOnward_22 : decode cX3_leastOnward 22 = .ok (.iconst 5, 1) := by decide +kernel
theorem dX3_leastOnward_23 : decode cX3_leastOnward 23 = .ok (.if_icmp .ge 64, 3) := by decide +kernel
theorem dX3_leastOnward_26 : decode cX3_leastOnward 26 = .ok (.iload_n 1, 1) := by decide +kernel
theorem dX3_leastOnward_27 : decode cX3_leastOnward 27 = .ok (.iload 6, 2) := by decide +kernel
theorem dX3_leastOnward_29 : decode cX3_leastOnward 29 = .ok (.invokestatic 26, 3) := by decide +kernel
theorem dX3_leastOnward_32 : decode cX3_leastOnward 32 = .ok (.ifCond .eq 49, 3) := by decide +kernel
theorem dX3_leastOnward_35 : decode cX3_leastOnward 35 = .ok (.iload_n 2, 1) := by decide +kernel
theorem dX3_leastOnward_36 : decode cX3_leastOnward 36 = .ok (.iload 6, 2) := by decide +kernel
theorem dX3_leastOnward_38 : decode cX3_leastOnward 38 = .ok (.invokestatic 26, 3) := by decide +kernel
theorem dX3_leastOnward_41 : decode cX3_leastOnward 41 = .ok (.ifCond .ne 40, 3) := by decide +kernel
theorem dX3_leastOnward_44 : decode cX3_leastOnward 44 = .ok (.iload_n 2, 1) := by decide +kernel
theorem dX3_leastOnward_45 : decode cX3_leastOnward 45 = .ok (.iload 6, 2) := by decide +kernel
theorem dX3_leastOnward_47 : decode cX3_leastOnward 47 = .ok (.invokestatic 22, 3) := by decide +kernel
theorem dX3_leastOnward_50 : decode cX3_leastOnward 50 = .ok (.ior, 1) := by decide +kernel
theorem dX3_leastOnward_51 : decode cX3_leastOnward 51 = .ok (.istore 7, 2) := by decide +kernel
theorem dX3_leastOnward_53 : decode cX3_leastOnward 53 = .ok (.aload_n 0, 1) := by decide +kernel
theorem dX3_leastOnward_54 : decode cX3_leastOnward 54 = .ok (.iload 7, 2) := by decide +kernel
theorem dX3_leastOnward_56 : decode cX3_leastOnward 56 = .ok (.invokevirtual 58, 3) := by decide +kernel
theorem dX3_leastOnward_59 : decode cX3_leastOnward 59 = .ok (.aload_n 0, 1) := by decide +kernel
theorem dX3_leastOnward_60 : decode cX3_leastOnward 60 = .ok (.iload_n 1, 1) := by decide +kernel
theorem dX3_leastOnward_61 : decode cX3_leastOnward 61 = .ok (.iload 7, 2) := by decide +kernel
theorem dX3_leastOnward_63 : decode cX3_leastOnward 63 = .ok (.iload_n 3, 1) := by decide +kernel
theorem dX3_leastOnward_64 : decode cX3_leastOnward 64 = .ok (.iconst 1, 1) := by decide +kernel
theorem dX3_leastOnward_65 : decode cX3_leastOnward 65 = .ok (.iadd, 1) := by decide +kernel
theorem dX3_leastOnward_66 : decode cX3_leastOnward 66 = .ok (.invokestatic 54, 3) := by decide +kernel
theorem dX3_leastOnward_69 : decode cX3_leastOnward 69 = .ok (.ladd, 1) := by decide +kernel
theorem dX3_leastOnward_70 : decode cX3_leastOnward 70 = .ok (.lstore 8, 2) := by decide +kernel
theorem dX3_leastOnward_72 : decode cX3_leastOnward 72 = .ok (.lload 4, 2) := by decide +kernel
theorem dX3_leastOnward_74 : decode cX3_leastOnward 74 = .ok (.lload 8, 2) := by decide +kernel
theorem dX3_leastOnward_76 : decode cX3_leastOnward 76 = .ok (.invokestatic 62, 3) := by decide +kernel
theorem dX3_leastOnward_79 : decode cX3_leastOnward 79 = .ok (.lstore 4, 2) := by decide +kernel
theorem dX3_leastOnward_81 : decode cX3_leastOnward 81 = .ok (.iinc 6 1, 3) := by decide +kernel
theorem dX3_leastOnward_84 : decode cX3_leastOnward 84 = .ok (.goto (-64), 3) := by decide +kernel
theorem dX3_leastOnward_87 : decode cX3_leastOnward 87 = .ok (.lload 4, 2) := by decide +kernel
theorem dX3_leastOnward_89 : decode cX3_leastOnward 89 = .ok (.lreturn, 1) := by decide +kernel
theorem dX3_costOf_0 : decode cX3_costOf 0 = .ok (.iload_n 1, 1) := by decide +kernel
theorem dX3_costOf_1 : decode cX3_costOf 1 = .ok (.invokestatic 65, 3) := by decide +kernel
theorem dX3_costOf_4 : decode cX3_costOf 4 = .ok (.istore_n 3, 1) := by decide +kernel
theorem dX3_costOf_5 : decode cX3_costOf 5 = .ok (.lconst 0, 1) := by decide +kernel
theorem dX3_costOf_6 : decode cX3_costOf 6 = .ok (.lstore 4, 2) := by decide +kernel
theorem dX3_costOf_8 : decode cX3_costOf 8 = .ok (.iconst 0, 1) := by decide +kernel
theorem dX3_costOf_9 : decode cX3_costOf 9 = .ok (.istore 6, 2) := by decide +kernel
theorem dX3_costOf_11 : decode cX3_costOf 11 = .ok (.iconst 0, 1) := by decide +kernel
theorem dX3_costOf_12 : decode cX3_costOf 12 = .ok (.istore 7, 2) := by decide +kernel
theorem dX3_costOf_14 : decode cX3_costOf 14 = .ok (.iload 7, 2) := by decide +kernel
theorem dX3_costOf_16 : decode cX3_costOf 16 = .ok (.iload_n 3, 1) := by decide +kernel
theorem dX3_costOf_17 : decode cX3_costOf 17 = .ok (.if_icmp .ge 35, 3) := by decide +kernel
theorem dX3_costOf_20 : decode cX3_costOf 20 = .ok (.iload 6, 2) := by decide +kernel
theorem dX3_costOf_22 : decode cX3_costOf 22 = .ok (.iload_n 2, 1) := by decide +kernel
theorem dX3_costOf_23 : decode cX3_costOf 23 = .ok (.iload_n 3, 1) := by decide +kernel
theorem dX3_costOf_24 : decode cX3_costOf 24 = .ok (.iload 7, 2) := by decide +kernel
theorem dX3_costOf_26 : decode cX3_costOf 26 = .ok (.invokestatic 70, 3) := by decide +kernel
theorem dX3_costOf_29 : decode cX3_costOf 29 = .ok (.invokestatic 22, 3) := by decide +kernel
theorem dX3_costOf_32 : decode cX3_costOf 32 = .ok (.ior, 1) := by decide +kernel
theorem dX3_costOf_33 : decode cX3_costOf 33 = .ok (.istore 6, 2) := by decide +kernel
theorem dX3_costOf_35 : decode cX3_costOf 35 = .ok (.lload 4, 2) := by decide +kernel
theorem dX3_costOf_37 : decode cX3_costOf 37 = .ok (.aload_n 0, 1) := by decide +kernel
theorem dX3_costOf_38 : decode cX3_costOf 38 = .ok (.iload 6, 2) := by decide +kernel
theorem dX3_costOf_40 : decode cX3_costOf 40 = .ok (.invokevirtual 58, 3) := by decide +kernel
theorem dX3_costOf_43 : decode cX3_costOf 43 = .ok (.ladd, 1) := by decide +kernel
theorem dX3_costOf_44 : decode cX3_costOf 44 = .ok (.lstore 4, 2) := by decide +kernel
theorem dX3_costOf_46 : decode cX3_costOf 46 = .ok (.iinc 7 1, 3) := by decide +kernel
theorem dX3_costOf_49 : decode cX3_costOf 49 = .ok (.goto (-35), 3) := by decide +kernel
theorem dX3_costOf_52 : decode cX3_costOf 52 = .ok (.lload 4, 2) := by decide +kernel
theorem dX3_costOf_54 : decode cX3_costOf 54 = .ok (.lreturn, 1) := by decide +kernel
theorem dX3_excessOf_0 : decode cX3_excessOf 0 = .ok (.aload_n 0, 1) := by decide +kernel
theorem dX3_excessOf_1 : decode cX3_excessOf 1 = .ok (.iload_n 1, 1) := by decide +kernel
theorem dX3_excessOf_2 : decode cX3_excessOf 2 = .ok (.iload_n 2, 1) := by decide +kernel
theorem dX3_excessOf_3 : decode cX3_excessOf 3 = .ok (.invokevirtual 74, 3) := by decide +kernel
theorem dX3_excessOf_6 : decode cX3_excessOf 6 = .ok (.aload_n 0, 1) := by decide +kernel
theorem dX3_excessOf_7 : decode cX3_excessOf 7 = .ok (.iload_n 1, 1) := by decide +kernel
theorem dX3_excessOf_8 : decode cX3_excessOf 8 = .ok (.invokevirtual 78, 3) := by decide +kernel
theorem dX3_excessOf_11 : decode cX3_excessOf 11 = .ok (.lsub, 1) := by decide +kernel
theorem dX3_excessOf_12 : decode cX3_excessOf 12 = .ok (.lreturn, 1) := by decide +kernel
theorem dX4_init_0 : decode cX4_init 0 = .ok (.aload_n 0, 1) := by decide +kernel
theorem dX4_init_1 : decode cX4_init 1 = .ok (.invokespecial 3, 3) := by decide +kernel
theorem dX4_init_4 : decode cX4_init 4 = .ok (.aload_n 0, 1) := by decide +kernel
theorem dX4_init_5 : decode cX4_init 5 = .ok (.iconst 5, 1) := by decide +kernel
theorem dX4_init_6 : decode cX4_init 6 = .ok (.newarray .int, 2) := by decide +kernel
theorem dX4_init_8 : decode cX4_init 8 = .ok (.putfield 9, 3) := by decide +kernel
theorem dX4_init_11 : decode cX4_init 11 = .ok (.aload_n 0, 1) := by decide +kernel
theorem dX4_init_12 : decode cX4_init 12 = .ok (.iconst 5, 1) := by decide +kernel
theorem dX4_init_13 : decode cX4_init 13 = .ok (.newarray .int, 2) := by decide +kernel
theorem dX4_init_15 : decode cX4_init 15 = .ok (.putfield 15, 3) := by decide +kernel
theorem dX4_init_18 : decode cX4_init 18 = .ok (.aload_n 0, 1) := by decide +kernel
theorem dX4_init_19 : decode cX4_init 19 = .ok (.iconst 5, 1) := by decide +kernel
theorem dX4_init_20 : decode cX4_init 20 = .ok (.iconst 5, 1) := by decide +kernel
theorem dX4_init_21 : decode cX4_init 21 = .ok (.multianewarray 18 2, 4) := by decide +kernel
theorem dX4_init_25 : decode cX4_init 25 = .ok (.putfield 20, 3) := by decide +kernel
theorem dX4_init_28 : decode cX4_init 28 = .ok (.aload_n 0, 1) := by decide +kernel
theorem dX4_init_29 : decode cX4_init 29 = .ok (.new 23, 3) := by decide +kernel
theorem dX4_init_32 : decode cX4_init 32 = .ok (.dup, 1) := by decide +kernel
theorem dX4_init_33 : decode cX4_init 33 = .ok (.invokespecial 25, 3) := by decide +kernel
theorem dX4_init_36 : decode cX4_init 36 = .ok (.putfield 26, 3) := by decide +kernel
theorem dX4_init_39 : decode cX4_init 39 = .ok (.iconst 0, 1) := by decide +kernel
theorem dX4_init_40 : decode cX4_init 40 = .ok (.istore_n 1, 1) := by decide +kernel
theorem dX4_init_41 : decode cX4_init 41 = .ok (.iload_n 1, 1) := by decide +kernel
theorem dX4_init_42 : decode cX4_init 42 = .ok (.iconst 5, 1) := by decide +kernel
theorem dX4_init_43 : decode cX4_init 43 = .ok (.if_icmp .ge 48, 3) := by decide +kernel
theorem dX4_init_46 : decode cX4_init 46 = .ok (.aload_n 0, 1) := by decide +kernel
theorem dX4_init_47 : decode cX4_init 47 = .ok (.getfield 9, 3) := by decide +kernel
theorem dX4_init_50 : decode cX4_init 50 = .ok (.iload_n 1, 1) := by decide +kernel
theorem dX4_init_51 : decode cX4_init 51 = .ok (.bipush 10, 2) := by decide +kernel
theorem dX4_init_53 : decode cX4_init 53 = .ok (.iastore, 1) := by decide +kernel
theorem dX4_init_54 : decode cX4_init 54 = .ok (.aload_n 0, 1) := by decide +kernel
theorem dX4_init_55 : decode cX4_init 55 = .ok (.getfield 15, 3) := by decide +kernel
theorem dX4_init_58 : decode cX4_init 58 = .ok (.iload_n 1, 1) := by decide +kernel
theorem dX4_init_59 : decode cX4_init 59 = .ok (.bipush 10, 2) := by decide +kernel
theorem dX4_init_61 : decode cX4_init 61 = .ok (.iastore, 1) := by decide +kernel
theorem dX4_init_62 : decode cX4_init 62 = .ok (.iconst 0, 1) := by decide +kernel
theorem dX4_init_63 : decode cX4_init 63 = .ok (.istore_n 2, 1) := by decide +kernel
theorem dX4_init_64 : decode cX4_init 64 = .ok (.iload_n 2, 1) := by decide +kernel
theorem dX4_init_65 : decode cX4_init 65 = .ok (.iconst 5, 1) := by decide +kernel
theorem dX4_init_66 : decode cX4_init 66 = .ok (.if_icmp .ge 19, 3) := by decide +kernel
theorem dX4_init_69 : decode cX4_init 69 = .ok (.aload_n 0, 1) := by decide +kernel
theorem dX4_init_70 : decode cX4_init 70 = .ok (.getfield 20, 3) := by decide +kernel
theorem dX4_init_73 : decode cX4_init 73 = .ok (.iload_n 1, 1) := by decide +kernel
theorem dX4_init_74 : decode cX4_init 74 = .ok (.aaload, 1) := by decide +kernel
theorem dX4_init_75 : decode cX4_init 75 = .ok (.iload_n 2, 1) := by decide +kernel
theorem dX4_init_76 : decode cX4_init 76 = .ok (.bipush 100, 2) := by decide +kernel
theorem dX4_init_78 : decode cX4_init 78 = .ok (.iastore, 1) := by decide +kernel
theorem dX4_init_79 : decode cX4_init 79 = .ok (.iinc 2 1, 3) := by decide +kernel
theorem dX4_init_82 : decode cX4_init 82 = .ok (.goto (-18), 3) := by decide +kernel
theorem dX4_init_85 : decode cX4_init 85 = .ok (.iinc 1 1, 3) := by decide +kernel
theorem dX4_init_88 : decode cX4_init 88 = .ok (.goto (-47), 3) := by decide +kernel
theorem dX4_init_91 : decode cX4_init 91 = .ok (.aload_n 0, 1) := by decide +kernel
theorem dX4_init_92 : decode cX4_init 92 = .ok (.sipush 200, 3) := by decide +kernel
theorem dX4_init_95 : decode cX4_init 95 = .ok (.putfield 30, 3) := by decide +kernel
theorem dX4_init_98 : decode cX4_init 98 = .ok (.return_, 1) := by decide +kernel
theorem dX4_init__0 : decode cX4_init_ 0 = .ok (.aload_n 0, 1) := by decide +kernel
theorem dX4_init__1 : decode cX4_init_ 1 = .ok (.invokespecial 3, 3) := by decide +kernel
theorem dX4_init__4 : decode cX4_init_ 4 = .ok (.aload_n 0, 1) := by decide +kernel
theorem dX4_init__5 : decode cX4_init_ 5 = .ok (.iconst 5, 1) := by decide +kernel
theorem dX4_init__6 : decode cX4_init_ 6 = .ok (.newarray .int, 2) := by decide +kernel
theorem dX4_init__8 : decode cX4_init_ 8 = .ok (.putfield 9, 3) := by decide +kernel
theorem dX4_init__11 : decode cX4_init_ 11 = .ok (.aload_n 0, 1) := by decide +kernel
theorem dX4_init__12 : decode cX4_init_ 12 = .ok (.iconst 5, 1) := by decide +kernel
theorem dX4_init__13 : decode cX4_init_ 13 = .ok (.newarray .int, 2) := by decide +kernel
theorem dX4_init__15 : decode cX4_init_ 15 = .ok (.putfield 15, 3) := by decide +kernel
theorem dX4_init__18 : decode cX4_init_ 18 = .ok (.aload_n 0, 1) := by decide +kernel
theorem dX4_init__19 : decode cX4_init_ 19 = .ok (.iconst 5, 1) := by decide +kernel
theorem dX4_init__20 : decode cX4_init_ 20 = .ok (.iconst 5, 1) := by decide +kernel
theorem dX4_init__21 : decode cX4_init_ 21 = .ok (.multianewarray 18 2, 4) := by decide +kernel
theorem dX4_init__25 : decode cX4_init_ 25 = .ok (.putfield 20, 3) := by decide +kernel
theorem dX4_init__28 : decode cX4_init_ 28 = .ok (.aload_n 0, 1) := by decide +kernel
theorem dX4_init__29 : decode cX4_init_ 29 = .ok (.new 23, 3) := by decide +kernel
theorem dX4_init__32 : decode cX4_init_ 32 = .ok (.dup, 1) := by decide +kernel
theorem dX4_init__33 : decode cX4_init_ 33 = .ok (.invokespecial 25, 3) := by decide +kernel
theorem dX4_init__36 : decode cX4_init_ 36 = .ok (.putfield 26, 3) := by decide +kernel
theorem dX4_init__39 : decode cX4_init_ 39 = .ok (.iconst 0, 1) := by decide +kernel
theorem dX4_init__40 : decode cX4_init_ 40 = .ok (.istore_n 2, 1) := by decide +kernel
theorem dX4_init__41 : decode cX4_init_ 41 = .ok (.iload_n 2, 1) := by decide +kernel
theorem dX4_init__42 : decode cX4_init_ 42 = .ok (.iconst 5, 1) := by decide +kernel
theorem dX4_init__43 : decode cX4_init_ 43 = .ok (.if_icmp .ge 62, 3) := by decide +kernel
theorem dX4_init__46 : decode cX4_init_ 46 = .ok (.aload_n 0, 1) := by decide +kernel
theorem dX4_init__47 : decode cX4_init_ 47 = .ok (.getfield 9, 3) := by decide +kernel
theorem dX4_init__50 : decode cX4_init_ 50 = .ok (.iload_n 2, 1) := by decide +kernel
theorem dX4_init__51 : decode cX4_init_ 51 = .ok (.aload_n 1, 1) := by decide +kernel
theorem dX4_init__52 : decode cX4_init_ 52 = .ok (.getfield 9, 3) := by decide +kernel
theorem dX4_init__55 : decode cX4_init_ 55 = .ok (.iload_n 2, 1) := by decide +kernel
theorem dX4_init__56 : decode cX4_init_ 56 = .ok (.iaload, 1) := by decide +kernel
theorem dX4_init__57 : decode cX4_init_ 57 = .ok (.iastore, 1) := by decide +kernel
theorem dX4_init__58 : decode cX4_init_ 58 = .ok (.aload_n 0, 1) := by decide +kernel
theorem dX4_init__59 : decode cX4_init_ 59 = .ok (.getfield 15, 3) := by decide +kernel
theorem dX4_init__62 : decode cX4_init_ 62 = .ok (.iload_n 2, 1) := by decide +kernel
theorem dX4_init__63 : decode cX4_init_ 63 = .ok (.aload_n 1, 1) := by decide +kernel
theorem dX4_init__64 : decode cX4_init_ 64 = .ok (.getfield 15, 3) := by decide +kernel
theorem dX4_init__67 : decode cX4_init_ 67 = .ok (.iload_n 2, 1) := by decide +kernel
theorem dX4_init__68 : decode cX4_init_ 68 = .ok (.iaload, 1) := by decide +kernel
theorem dX4_init__69 : decode cX4_init_ 69 = .ok (.iastore, 1) := by decide +kernel
theorem dX4_init__70 : decode cX4_init_ 70 = .ok (.iconst 0, 1) := by decide +kernel
theorem dX4_init__71 : decode cX4_init_ 71 = .ok (.istore_n 3, 1) := by decide +kernel
theorem dX4_init__72 : decode cX4_init_ 72 = .ok (.iload_n 3, 1) := by decide +kernel
theorem dX4_init__73 : decode cX4_init_ 73 = .ok (.iconst 5, 1) := by decide +kernel
theorem dX4_init__74 : decode cX4_init_ 74 = .ok (.if_icmp .ge 25, 3) := by decide +kernel
theorem dX4_init__77 : decode cX4_init_ 77 = .ok (.aload_n 0, 1) := by decide +kernel
theorem dX4_init__78 : decode cX4_init_ 78 = .ok (.getfield 20, 3) := by decide +kernel
theorem dX4_init__81 : decode cX4_init_ 81 = .ok (.iload_n 2, 1) := by decide +kernel
theorem dX4_init__82 : decode cX4_init_ 82 = .ok (.aaload, 1) := by decide +kernel
theorem dX4_init__83 : decode cX4_init_ 83 = .ok (.iload_n 3, 1) := by decide +kernel
theorem dX4_init__84 : decode cX4_init_ 84 = .ok (.aload_n 1, 1) := by decide +kernel
theorem dX4_init__85 : decode cX4_init_ 85 = .ok (.getfield 20, 3) := by decide +kernel
theorem dX4_init__88 : decode cX4_init_ 88 = .ok (.iload_n 2, 1) := by decide +kernel
theorem dX4_init__89 : decode cX4_init_ 89 = .ok (.aaload, 1) := by decide +kernel
theorem dX4_init__90 : decode cX4_init_ 90 = .ok (.iload_n 3, 1) := by decide +kernel
theorem dX4_init__91 : decode cX4_init_ 91 = .ok (.iaload, 1) := by decide +kernel
theorem dX4_init__92 : decode cX4_init_ 92 = .ok (.iastore, 1) := by decide +kernel
theorem dX4_init__93 : decode cX4_init_ 93 = .ok (.iinc 3 1, 3) := by decide +kernel
theorem dX4_init__96 : decode cX4_init_ 96 = .ok (.goto (-24), 3) := by decide +kernel
theorem dX4_init__99 : decode cX4_init_ 99 = .ok (.iinc 2 1, 3) := by decide +kernel
theorem dX4_init__102 : decode cX4_init_ 102 = .ok (.goto (-61), 3) := by decide +kernel
theorem dX4_init__105 : decode cX4_init_ 105 = .ok (.iconst 0, 1) := by decide +kernel
theorem dX4_init__106 : decode cX4_init_ 106 = .ok (.istore_n 2, 1) := by decide +kernel
theorem dX4_init__107 : decode cX4_init_ 107 = .ok (.iload_n 2, 1) := by decide +kernel
theorem dX4_init__108 : decode cX4_init_ 108 = .ok (.aload_n 1, 1) := by decide +kernel
theorem dX4_init__109 : decode cX4_init_ 109 = .ok (.getfield 26, 3) := by decide +kernel
theorem dX4_init__112 : decode cX4_init_ 112 = .ok (.invokevirtual 34, 3) := by decide +kernel
theorem dX4_init__115 : decode cX4_init_ 115 = .ok (.if_icmp .ge 28, 3) := by decide +kernel
theorem dX4_init__118 : decode cX4_init_ 118 = .ok (.aload_n 0, 1) := by decide +kernel
theorem dX4_init__119 : decode cX4_init_ 119 = .ok (.getfield 26, 3) := by decide +kernel
theorem dX4_init__122 : decode cX4_init_ 122 = .ok (.aload_n 1, 1) := by decide +kernel
theorem dX4_init__123 : decode cX4_init_ 123 = .ok (.getfield 26, 3) := by decide +kernel
theorem dX4_init__126 : decode cX4_init_ 126 = .ok (.iload_n 2, 1) := by decide +kernel
theorem dX4_init__127 : decode cX4_init_ 127 = .ok (.invokevirtual 38, 3) := by decide +kernel
theorem dX4_init__130 : decode cX4_init_ 130 = .ok (.checkcast 42, 3) := by decide +kernel
theorem dX4_init__133 : decode cX4_init_ 133 = .ok (.invokevirtual 44, 3) := by decide +kernel
theorem dX4_init__136 : decode cX4_init_ 136 = .ok (.pop, 1) := by decide +kernel
theorem dX4_init__137 : decode cX4_init_ 137 = .ok (.iinc 2 1, 3) := by decide +kernel
theorem dX4_init__140 : decode cX4_init_ 140 = .ok (.goto (-33), 3) := by decide +kernel
theorem dX4_init__143 : decode cX4_init_ 143 = .ok (.aload_n 0, 1) := by decide +kernel
theorem dX4_init__144 : decode cX4_init_ 144 = .ok (.aload_n 1, 1) := by decide +kernel
theorem dX4_init__145 : decode cX4_init_ 145 = .ok (.getfield 30, 3) := by decide +kernel
theorem dX4_init__148 : decode cX4_init_ 148 = .ok (.putfield 30, 3) := by decide +kernel
theorem dX4_init__151 : decode cX4_init_ 151 = .ok (.aload_n 0, 1) := by decide +kernel
theorem dX4_init__152 : decode cX4_init_ 152 = .ok (.aload_n 1, 1) := by decide +kernel
theorem dX4_init__153 : decode cX4_init_ 153 = .ok (.getfield 48, 3) := by decide +kernel
theorem dX4_init__156 : decode cX4_init_ 156 = .ok (.putfield 48, 3) := by decide +kernel
theorem dX4_init__159 : decode cX4_init_ 159 = .ok (.aload_n 0, 1) := by decide +kernel
theorem dX4_init__160 : decode cX4_init_ 160 = .ok (.aload_n 1, 1) := by decide +kernel
theorem dX4_init__161 : decode cX4_init_ 161 = .ok (.getfield 52, 3) := by decide +kernel
theorem dX4_init__164 : decode cX4_init_ 164 = .ok (.putfield 52, 3) := by decide +kernel
theorem dX4_init__167 : decode cX4_init_ 167 = .ok (.aload_n 0, 1) := by decide +kernel
theorem dX4_init__168 : decode cX4_init_ 168 = .ok (.aload_n 1, 1) := by decide +kernel
theorem dX4_init__169 : decode cX4_init_ 169 = .ok (.getfield 55, 3) := by decide +kernel
theorem dX4_init__172 : decode cX4_init_ 172 = .ok (.putfield 55, 3) := by decide +kernel
theorem dX4_init__175 : decode cX4_init_ 175 = .ok (.aload_n 0, 1) := by decide +kernel
theorem dX4_init__176 : decode cX4_init_ 176 = .ok (.aload_n 1, 1) := by decide +kernel
theorem dX4_init__177 : decode cX4_init_ 177 = .ok (.getfield 58, 3) := by decide +kernel
theorem dX4_init__180 : decode cX4_init_ 180 = .ok (.putfield 58, 3) := by decide +kernel
theorem dX4_init__183 : decode cX4_init_ 183 = .ok (.aload_n 0, 1) := by decide +kernel
theorem dX4_init__184 : decode cX4_init_ 184 = .ok (.aload_n 1, 1) := by decide +kernel
theorem dX4_init__185 : decode cX4_init_ 185 = .ok (.getfield 61, 3) := by decide +kernel
theorem dX4_init__188 : decode cX4_init_ 188 = .ok (.putfield 61, 3) := by decide +kernel
theorem dX4_init__191 : decode cX4_init_ 191 = .ok (.aload_n 0, 1) := by decide +kernel
theorem dX4_init__192 : decode cX4_init_ 192 = .ok (.aload_n 1, 1) := by decide +kernel
theorem dX4_init__193 : decode cX4_init_ 193 = .ok (.getfield 64, 3) := by decide +kernel
theorem dX4_init__196 : decode cX4_init_ 196 = .ok (.putfield 64, 3) := by decide +kernel
theorem dX4_init__199 : decode cX4_init_ 199 = .ok (.aload_n 0, 1) := by decide +kernel
theorem dX4_init__200 : decode cX4_init_ 200 = .ok (.aload_n 1, 1) := by decide +kernel
theorem dX4_init__201 : decode cX4_init_ 201 = .ok (.getfield 67, 3) := by decide +kernel
theorem dX4_init__204 : decode cX4_init_ 204 = .ok (.putfield 67, 3) := by decide +kernel
theorem dX4_init__207 : decode cX4_init_ 207 = .ok (.aload_n 0, 1) := by decide +kernel
theorem dX4_init__208 : decode cX4_init_ 208 = .ok (.aload_n 1, 1) := by decide +kernel
theorem dX4_init__209 : decode cX4_init_ 209 = .ok (.getfield 70, 3) := by decide +kernel
theorem dX4_init__212 : decode cX4_init_ 212 = .ok (.putfield 70, 3) := by decide +kernel
theorem dX4_init__215 : decode cX4_init_ 215 = .ok (.aload_n 0, 1) := by decide +kernel
theorem dX4_init__216 : decode cX4_init_ 216 = .ok (.aload_n 1, 1) := by decide +kernel
theorem dX4_init__217 : decode cX4_init_ 217 = .ok (.getfield 73, 3) := by decide +kernel
theorem dX4_init__220 : decode cX4_init_ 220 = .ok (.putfield 73, 3) := by decide +kernel
theorem dX4_init__223 : decode cX4_init_ 223 = .ok (.return_, 1) := by decide +kernel
theorem dX4_placeOf_0 : decode cX4_placeOf 0 = .ok (.iconst 0, 1) := by decide +kernel
theorem dX4_placeOf_1 : decode cX4_placeOf 1 = .ok (.istore_n 2, 1) := by decide +kernel
theorem dX4_placeOf_2 : decode cX4_placeOf 2 = .ok (.iload_n 2, 1) := by decide +kernel
theorem dX4_placeOf_3 : decode cX4_placeOf 3 = .ok (.aload_n 0, 1) := by decide +kernel
theorem dX4_placeOf_4 : decode cX4_placeOf 4 = .ok (.getfield 26, 3) := by decide +kernel
theorem dX4_placeOf_7 : decode cX4_placeOf 7 = .ok (.invokevirtual 34, 3) := by decide +kernel
theorem dX4_placeOf_10 : decode cX4_placeOf 10 = .ok (.if_icmp .ge 29, 3) := by decide +kernel
theorem dX4_placeOf_13 : decode cX4_placeOf 13 = .ok (.aload_n 0, 1) := by decide +kernel
theorem dX4_placeOf_14 : decode cX4_placeOf 14 = .ok (.getfield 26, 3) := by decide +kernel
theorem dX4_placeOf_17 : decode cX4_placeOf 17 = .ok (.iload_n 2, 1) := by decide +kernel
theorem dX4_placeOf_18 : decode cX4_placeOf 18 = .ok (.invokevirtual 38, 3) := by decide +kernel
theorem dX4_placeOf_21 : decode cX4_placeOf 21 = .ok (.checkcast 42, 3) := by decide +kernel
theorem dX4_placeOf_24 : decode cX4_placeOf 24 = .ok (.getfield 76, 3) := by decide +kernel
theorem dX4_placeOf_27 : decode cX4_placeOf 27 = .ok (.iload_n 1, 1) := by decide +kernel
theorem dX4_placeOf_28 : decode cX4_placeOf 28 = .ok (.if_icmp .ne 5, 3) := by decide +kernel
theorem dX4_placeOf_31 : decode cX4_placeOf 31 = .ok (.iload_n 2, 1) := by decide +kernel
theorem dX4_placeOf_32 : decode cX4_placeOf 32 = .ok (.ireturn, 1) := by decide +kernel
theorem dX4_placeOf_33 : decode cX4_placeOf 33 = .ok (.iinc 2 1, 3) := by decide +kernel
theorem dX4_placeOf_36 : decode cX4_placeOf 36 = .ok (.goto (-34), 3) := by decide +kernel
theorem dX4_placeOf_39 : decode cX4_placeOf 39 = .ok (.iconst (-1), 1) := by decide +kernel
theorem dX4_placeOf_40 : decode cX4_placeOf 40 = .ok (.ireturn, 1) := by decide +kernel
theorem dX4_keptWith_0 : decode cX4_keptWith 0 = .ok (.iconst 0, 1) := by decide +kernel
theorem dX4_keptWith_1 : decode cX4_keptWith 1 = .ok (.istore_n 2, 1) := by decide +kernel
theorem dX4_keptWith_2 : decode cX4_keptWith 2 = .ok (.iconst 0, 1) := by decide +kernel
theorem dX4_keptWith_3 : decode cX4_keptWith 3 = .ok (.istore_n 3, 1) := by decide +kernel
theorem dX4_keptWith_4 : decode cX4_keptWith 4 = .ok (.iload_n 3, 1) := by decide +kernel
theorem dX4_keptWith_5 : decode cX4_keptWith 5 = .ok (.aload_n 0, 1) := by decide +kernel
theorem dX4_keptWith_6 : decode cX4_keptWith 6 = .ok (.getfield 26, 3) := by decide +kernel
theorem dX4_keptWith_9 : decode cX4_keptWith 9 = .ok (.invokevirtual 34, 3) := by decide +kernel
theorem dX4_keptWith_12 : decode cX4_keptWith 12 = .ok (.if_icmp .ge 33, 3) := by decide +kernel
theorem dX4_keptWith_15 : decode cX4_keptWith 15 = .ok (.aload_n 0, 1) := by decide +kernel
theorem dX4_keptWith_16 : decode cX4_keptWith 16 = .ok (.getfield 26, 3) := by decide +kernel
theorem dX4_keptWith_19 : decode cX4_keptWith 19 = .ok (.iload_n 3, 1) := by decide +kernel
theorem dX4_keptWith_20 : decode cX4_keptWith 20 = .ok (.invokevirtual 38, 3) := by decide +kernel
theorem dX4_keptWith_23 : decode cX4_keptWith 23 = .ok (.checkcast 42, 3) := by decide +kernel
theorem dX4_keptWith_26 : decode cX4_keptWith 26 = .ok (.getfield 76, 3) := by decide +kernel
theorem dX4_keptWith_29 : decode cX4_keptWith 29 = .ok (.iload_n 1, 1) := by decide +kernel
theorem dX4_keptWith_30 : decode cX4_keptWith 30 = .ok (.invokestatic 79, 3) := by decide +kernel
theorem dX4_keptWith_33 : decode cX4_keptWith 33 = .ok (.ifCond .eq 6, 3) := by decide +kernel
theorem dX4_keptWith_36 : decode cX4_keptWith 36 = .ok (.iinc 2 1, 3) := by decide +kernel
theorem dX4_keptWith_39 : decode cX4_keptWith 39 = .ok (.iinc 3 1, 3) := by decide +kernel
theorem dX4_keptWith_42 : decode cX4_keptWith 42 = .ok (.goto (-38), 3) := by decide +kernel
theorem dX4_keptWith_45 : decode cX4_keptWith 45 = .ok (.iload_n 2, 1) := by decide +kernel
theorem dX4_keptWith_46 : decode cX4_keptWith 46 = .ok (.ireturn, 1) := by decide +kernel
theorem dX4_countPinned_0 : decode cX4_countPinned 0 = .ok (.iconst 0, 1) := by decide +kernel
theorem dX4_countPinned_1 : decode cX4_countPinned 1 = .ok (.istore_n 1, 1) := by decide +kernel
theorem dX4_countPinned_2 : decode cX4_countPinned 2 = .ok (.iconst 0, 1) := by decide +kernel
theorem dX4_countPinned_3 : decode cX4_countPinned 3 = .ok (.istore_n 2, 1) := by decide +kernel
theorem dX4_countPinned_4 : decode cX4_countPinned 4 = .ok (.iload_n 2, 1) := by decide +kernel
theorem dX4_countPinned_5 : decode cX4_countPinned 5 = .ok (.aload_n 0, 1) := by decide +kernel
theorem dX4_countPinned_6 : decode cX4_countPinned 6 = .ok (.getfield 26, 3) := by decide +kernel
theorem dX4_countPinned_9 : decode cX4_countPinned 9 = .ok (.invokevirtual 34, 3) := by decide +kernel
theorem dX4_countPinned_12 : decode cX4_countPinned 12 = .ok (.if_icmp .ge 29, 3) := by decide +kernel
theorem dX4_countPinned_15 : decode cX4_countPinned 15 = .ok (.aload_n 0, 1) := by decide +kernel
theorem dX4_countPinned_16 : decode cX4_countPinned 16 = .ok (.getfield 26, 3) := by decide +kernel
theorem dX4_countPinned_19 : decode cX4_countPinned 19 = .ok (.iload_n 2, 1) := by decide +kernel
theorem dX4_countPinned_20 : decode cX4_countPinned 20 = .ok (.invokevirtual 38, 3) := by decide +kernel
theorem dX4_countPinned_23 : decode cX4_countPinned 23 = .ok (.checkcast 42, 3) := by decide +kernel
theorem dX4_countPinned_26 : decode cX4_countPinned 26 = .ok (.getfield 83, 3) := by decide +kernel
theorem dX4_countPinned_29 : decode cX4_countPinned 29 = .ok (.ifCond .eq 6, 3) := by decide +kernel
theorem dX4_countPinned_32 : decode cX4_countPinned 32 = .ok (.iinc 1 1, 3) := by decide +kernel
theorem dX4_countPinned_35 : decode cX4_countPinned 35 = .ok (.iinc 2 1, 3) := by decide +kernel
theorem dX4_countPinned_38 : decode cX4_countPinned 38 = .ok (.goto (-34), 3) := by decide +kernel
theorem dX4_countPinned_41 : decode cX4_countPinned 41 = .ok (.iload_n 1, 1) := by decide +kernel
theorem dX4_countPinned_42 : decode cX4_countPinned 42 = .ok (.ireturn, 1) := by decide +kernel
theorem dX4_setPinned_0 : decode cX4_setPinned 0 = .ok (.iload_n 1, 1) := by decide +kernel
theorem dX4_setPinned_1 : decode cX4_setPinned 1 = .ok (.ifCond .lt 59, 3) := by decide +kernel
theorem dX4_setPinned_4 : decode cX4_setPinned 4 = .ok (.iload_n 1, 1) := by decide +kernel
theorem dX4_setPinned_5 : decode cX4_setPinned 5 = .ok (.aload_n 0, 1) := by decide +kernel
theorem dX4_setPinned_6 : decode cX4_setPinned 6 = .ok (.getfield 26, 3) := by decide +kernel
theorem dX4_setPinned_9 : decode cX4_setPinned 9 = .ok (.invokevirtual 34, 3) := by decide +kernel
theorem dX4_setPinned_12 : decode cX4_setPinned 12 = .ok (.if_icmp .ge 48, 3) := by decide +kernel
theorem dX4_setPinned_15 : decode cX4_setPinned 15 = .ok (.aload_n 0, 1) := by decide +kernel
theorem dX4_setPinned_16 : decode cX4_setPinned 16 = .ok (.getfield 26, 3) := by decide +kernel
theorem dX4_setPinned_19 : decode cX4_setPinned 19 = .ok (.iload_n 1, 1) := by decide +kernel
theorem dX4_setPinned_20 : decode cX4_setPinned 20 = .ok (.invokevirtual 38, 3) := by decide +kernel
theorem dX4_setPinned_23 : decode cX4_setPinned 23 = .ok (.checkcast 42, 3) := by decide +kernel
theorem dX4_setPinned_26 : decode cX4_setPinned 26 = .ok (.astore_n 3, 1) := by decide +kernel
theorem dX4_setPinned_27 : decode cX4_setPinned 27 = .ok (.aload_n 0, 1) := by decide +kernel
theorem dX4_setPinned_28 : decode cX4_setPinned 28 = .ok (.getfield 26, 3) := by decide +kernel
theorem dX4_setPinned_31 : decode cX4_setPinned 31 = .ok (.iload_n 1, 1) := by decide +kernel
theorem dX4_setPinned_32 : decode cX4_setPinned 32 = .ok (.new 42, 3) := by decide +kernel
theorem dX4_setPinned_35 : decode cX4_setPinned 35 = .ok (.dup, 1) := by decide +kernel
theorem dX4_setPinned_36 : decode cX4_setPinned 36 = .ok (.aload_n 3, 1) := by decide +kernel
theorem dX4_setPinned_37 : decode cX4_setPinned 37 = .ok (.getfield 76, 3) := by decide +kernel
theorem dX4_setPinned_40 : decode cX4_setPinned 40 = .ok (.aload_n 3, 1) := by decide +kernel
theorem dX4_setPinned_41 : decode cX4_setPinned 41 = .ok (.getfield 87, 3) := by decide +kernel
theorem dX4_setPinned_44 : decode cX4_setPinned 44 = .ok (.aload_n 3, 1) := by decide +kernel
theorem dX4_setPinned_45 : decode cX4_setPinned 45 = .ok (.getfield 90, 3) := by decide +kernel
theorem dX4_setPinned_48 : decode cX4_setPinned 48 = .ok (.aload_n 3, 1) := by decide +kernel
theorem dX4_setPinned_49 : decode cX4_setPinned 49 = .ok (.getfield 91, 3) := by decide +kernel
theorem dX4_setPinned_52 : decode cX4_setPinned 52 = .ok (.iload_n 2, 1) := by decide +kernel
theorem dX4_setPinned_53 : decode cX4_setPinned 53 = .ok (.invokespecial 94, 3) := by decide +kernel
theorem dX4_setPinned_56 : decode cX4_setPinned 56 = .ok (.invokevirtual 97, 3) := by decide +kernel
theorem dX4_setPinned_59 : decode cX4_setPinned 59 = .ok (.pop, 1) := by decide +kernel
theorem dX4_setPinned_60 : decode cX4_setPinned 60 = .ok (.return_, 1) := by decide +kernel
theorem dX4_useAgain_0 : decode cX4_useAgain 0 = .ok (.iload_n 1, 1) := by decide +kernel
theorem dX4_useAgain_1 : decode cX4_useAgain 1 = .ok (.ifCond .lt 73, 3) := by decide +kernel
theorem dX4_useAgain_4 : decode cX4_useAgain 4 = .ok (.iload_n 1, 1) := by decide +kernel
theorem dX4_useAgain_5 : decode cX4_useAgain 5 = .ok (.aload_n 0, 1) := by decide +kernel
theorem dX4_useAgain_6 : decode cX4_useAgain 6 = .ok (.getfield 26, 3) := by decide +kernel
theorem dX4_useAgain_9 : decode cX4_useAgain 9 = .ok (.invokevirtual 34, 3) := by decide +kernel
theorem dX4_useAgain_12 : decode cX4_useAgain 12 = .ok (.if_icmp .ge 62, 3) := by decide +kernel
theorem dX4_useAgain_15 : decode cX4_useAgain 15 = .ok (.aload_n 0, 1) := by decide +kernel
theorem dX4_useAgain_16 : decode cX4_useAgain 16 = .ok (.getfield 26, 3) := by decide +kernel
theorem dX4_useAgain_19 : decode cX4_useAgain 19 = .ok (.iload_n 1, 1) := by decide +kernel
theorem dX4_useAgain_20 : decode cX4_useAgain 20 = .ok (.invokevirtual 101, 3) := by decide +kernel
theorem dX4_useAgain_23 : decode cX4_useAgain 23 = .ok (.checkcast 42, 3) := by decide +kernel
theorem dX4_useAgain_26 : decode cX4_useAgain 26 = .ok (.astore_n 2, 1) := by decide +kernel
theorem dX4_useAgain_27 : decode cX4_useAgain 27 = .ok (.aload_n 0, 1) := by decide +kernel
theorem dX4_useAgain_28 : decode cX4_useAgain 28 = .ok (.getfield 26, 3) := by decide +kernel
theorem dX4_useAgain_31 : decode cX4_useAgain 31 = .ok (.new 42, 3) := by decide +kernel
theorem dX4_useAgain_34 : decode cX4_useAgain 34 = .ok (.dup, 1) := by decide +kernel
theorem dX4_useAgain_35 : decode cX4_useAgain 35 = .ok (.aload_n 2, 1) := by decide +kernel
theorem dX4_useAgain_36 : decode cX4_useAgain 36 = .ok (.getfield 76, 3) := by decide +kernel
theorem dX4_useAgain_39 : decode cX4_useAgain 39 = .ok (.aload_n 2, 1) := by decide +kernel
theorem dX4_useAgain_40 : decode cX4_useAgain 40 = .ok (.getfield 87, 3) := by decide +kernel
theorem dX4_useAgain_43 : decode cX4_useAgain 43 = .ok (.aload_n 2, 1) := by decide +kernel
theorem dX4_useAgain_44 : decode cX4_useAgain 44 = .ok (.getfield 90, 3) := by decide +kernel
theorem dX4_useAgain_47 : decode cX4_useAgain 47 = .ok (.aload_n 2, 1) := by decide +kernel
theorem dX4_useAgain_48 : decode cX4_useAgain 48 = .ok (.getfield 91, 3) := by decide +kernel
theorem dX4_useAgain_51 : decode cX4_useAgain 51 = .ok (.lconst 1, 1) := by decide +kernel
theorem dX4_useAgain_52 : decode cX4_useAgain 52 = .ok (.ladd, 1) := by decide +kernel
theorem dX4_useAgain_53 : decode cX4_useAgain 53 = .ok (.aload_n 2, 1) := by decide +kernel
theorem dX4_useAgain_54 : decode cX4_useAgain 54 = .ok (.getfield 83, 3) := by decide +kernel
theorem dX4_useAgain_57 : decode cX4_useAgain 57 = .ok (.invokespecial 94, 3) := by decide +kernel
theorem dX4_useAgain_60 : decode cX4_useAgain 60 = .ok (.invokevirtual 44, 3) := by decide +kernel
theorem dX4_useAgain_63 : decode cX4_useAgain 63 = .ok (.pop, 1) := by decide +kernel
theorem dX4_useAgain_64 : decode cX4_useAgain 64 = .ok (.aload_n 0, 1) := by decide +kernel
theorem dX4_useAgain_65 : decode cX4_useAgain 65 = .ok (.dup, 1) := by decide +kernel
theorem dX4_useAgain_66 : decode cX4_useAgain 66 = .ok (.getfield 48, 3) := by decide +kernel
theorem dX4_useAgain_69 : decode cX4_useAgain 69 = .ok (.lconst 1, 1) := by decide +kernel
theorem dX4_useAgain_70 : decode cX4_useAgain 70 = .ok (.ladd, 1) := by decide +kernel
theorem dX4_useAgain_71 : decode cX4_useAgain 71 = .ok (.putfield 48, 3) := by decide +kernel
theorem dX4_useAgain_74 : decode cX4_useAgain 74 = .ok (.return_, 1) := by decide +kernel
theorem dX4_keepNew_0 : decode cX4_keepNew 0 = .ok (.aload_n 0, 1) := by decide +kernel
theorem dX4_keepNew_1 : decode cX4_keepNew 1 = .ok (.dup, 1) := by decide +kernel
theorem dX4_keepNew_2 : decode cX4_keepNew 2 = .ok (.getfield 52, 3) := by decide +kernel
theorem dX4_keepNew_5 : decode cX4_keepNew 5 = .ok (.lconst 1, 1) := by decide +kernel
theorem dX4_keepNew_6 : decode cX4_keepNew 6 = .ok (.ladd, 1) := by decide +kernel
theorem dX4_keepNew_7 : decode cX4_keepNew 7 = .ok (.putfield 52, 3) := by decide +kernel
theorem dX4_keepNew_10 : decode cX4_keepNew 10 = .ok (.aload_n 0, 1) := by decide +kernel
theorem dX4_keepNew_11 : decode cX4_keepNew 11 = .ok (.dup, 1) := by decide +kernel
theorem dX4_keepNew_12 : decode cX4_keepNew 12 = .ok (.getfield 58, 3) := by decide +kernel
theorem dX4_keepNew_15 : decode cX4_keepNew 15 = .ok (.lload_n 3, 1) := by decide +kernel
theorem dX4_keepNew_16 : decode cX4_keepNew 16 = .ok (.ladd, 1) := by decide +kernel
theorem dX4_keepNew_17 : decode cX4_keepNew 17 = .ok (.putfield 58, 3) := by decide +kernel
theorem dX4_keepNew_20 : decode cX4_keepNew 20 = .ok (.aload_n 0, 1) := by decide +kernel
theorem dX4_keepNew_21 : decode cX4_keepNew 21 = .ok (.getfield 26, 3) := by decide +kernel
theorem dX4_keepNew_24 : decode cX4_keepNew 24 = .ok (.invokevirtual 34, 3) := by decide +kernel
theorem dX4_keepNew_27 : decode cX4_keepNew 27 = .ok (.iconst 4, 1) := by decide +kernel
theorem dX4_keepNew_28 : decode cX4_keepNew 28 = .ok (.if_icmp .lt 23, 3) := by decide +kernel
theorem dX4_keepNew_31 : decode cX4_keepNew 31 = .ok (.aload_n 0, 1) := by decide +kernel
theorem dX4_keepNew_32 : decode cX4_keepNew 32 = .ok (.invokevirtual 104, 3) := by decide +kernel
theorem dX4_keepNew_35 : decode cX4_keepNew 35 = .ok (.ifCond .ne 16, 3) := by decide +kernel
theorem dX4_keepNew_38 : decode cX4_keepNew 38 = .ok (.aload_n 0, 1) := by decide +kernel
theorem dX4_keepNew_39 : decode cX4_keepNew 39 = .ok (.dup, 1) := by decide +kernel
theorem dX4_keepNew_40 : decode cX4_keepNew 40 = .ok (.getfield 73, 3) := by decide +kernel
theorem dX4_keepNew_43 : decode cX4_keepNew 43 = .ok (.lconst 1, 1) := by decide +kernel
theorem dX4_keepNew_44 : decode cX4_keepNew 44 = .ok (.ladd, 1) := by decide +kernel
theorem dX4_keepNew_45 : decode cX4_keepNew 45 = .ok (.putfield 73, 3) := by decide +kernel
theorem dX4_keepNew_48 : decode cX4_keepNew 48 = .ok (.goto 32, 3) := by decide +kernel
theorem dX4_keepNew_51 : decode cX4_keepNew 51 = .ok (.aload_n 0, 1) := by decide +kernel
theorem dX4_keepNew_52 : decode cX4_keepNew 52 = .ok (.getfield 26, 3) := by decide +kernel
theorem dX4_keepNew_55 : decode cX4_keepNew 55 = .ok (.new 42, 3) := by decide +kernel
theorem dX4_keepNew_58 : decode cX4_keepNew 58 = .ok (.dup, 1) := by decide +kernel
theorem dX4_keepNew_59 : decode cX4_keepNew 59 = .ok (.iload_n 1, 1) := by decide +kernel
theorem dX4_keepNew_60 : decode cX4_keepNew 60 = .ok (.iload_n 2, 1) := by decide +kernel
theorem dX4_keepNew_61 : decode cX4_keepNew 61 = .ok (.aload_n 0, 1) := by decide +kernel
theorem dX4_keepNew_62 : decode cX4_keepNew 62 = .ok (.getfield 15, 3) := by decide +kernel
theorem dX4_keepNew_65 : decode cX4_keepNew 65 = .ok (.invokevirtual 108, 3) := by decide +kernel
theorem dX4_keepNew_68 : decode cX4_keepNew 68 = .ok (.checkcast 109, 3) := by decide +kernel
theorem dX4_keepNew_71 : decode cX4_keepNew 71 = .ok (.lconst 1, 1) := by decide +kernel
theorem dX4_keepNew_72 : decode cX4_keepNew 72 = .ok (.iconst 0, 1) := by decide +kernel
theorem dX4_keepNew_73 : decode cX4_keepNew 73 = .ok (.invokespecial 94, 3) := by decide +kernel
theorem dX4_keepNew_76 : decode cX4_keepNew 76 = .ok (.invokevirtual 44, 3) := by decide +kernel
theorem dX4_keepNew_79 : decode cX4_keepNew 79 = .ok (.pop, 1) := by decide +kernel
theorem dX4_keepNew_80 : decode cX4_keepNew 80 = .ok (.return_, 1) := by decide +kernel
theorem dX4_pushOneOut_0 : decode cX4_pushOneOut 0 = .ok (.iconst 0, 1) := by decide +kernel
theorem dX4_pushOneOut_1 : decode cX4_pushOneOut 1 = .ok (.istore_n 1, 1) := by decide +kernel
theorem dX4_pushOneOut_2 : decode cX4_pushOneOut 2 = .ok (.iload_n 1, 1) := by decide +kernel
theorem dX4_pushOneOut_3 : decode cX4_pushOneOut 3 = .ok (.aload_n 0, 1) := by decide +kernel
theorem dX4_pushOneOut_4 : decode cX4_pushOneOut 4 = .ok (.getfield 26, 3) := by decide +kernel
theorem dX4_pushOneOut_7 : decode cX4_pushOneOut 7 = .ok (.invokevirtual 34, 3) := by decide +kernel
theorem dX4_pushOneOut_10 : decode cX4_pushOneOut 10 = .ok (.if_icmp .ge 47, 3) := by decide +kernel
theorem dX4_pushOneOut_13 : decode cX4_pushOneOut 13 = .ok (.aload_n 0, 1) := by decide +kernel
theorem dX4_pushOneOut_14 : decode cX4_pushOneOut 14 = .ok (.getfield 26, 3) := by decide +kernel
theorem dX4_pushOneOut_17 : decode cX4_pushOneOut 17 = .ok (.iload_n 1, 1) := by decide +kernel
theorem dX4_pushOneOut_18 : decode cX4_pushOneOut 18 = .ok (.invokevirtual 38, 3) := by decide +kernel
theorem dX4_pushOneOut_21 : decode cX4_pushOneOut 21 = .ok (.checkcast 42, 3) := by decide +kernel
theorem dX4_pushOneOut_24 : decode cX4_pushOneOut 24 = .ok (.getfield 83, 3) := by decide +kernel
theorem dX4_pushOneOut_27 : decode cX4_pushOneOut 27 = .ok (.ifCond .ne 24, 3) := by decide +kernel
theorem dX4_pushOneOut_30 : decode cX4_pushOneOut 30 = .ok (.aload_n 0, 1) := by decide +kernel
theorem dX4_pushOneOut_31 : decode cX4_pushOneOut 31 = .ok (.getfield 26, 3) := by decide +kernel
theorem dX4_pushOneOut_34 : decode cX4_pushOneOut 34 = .ok (.iload_n 1, 1) := by decide +kernel
theorem dX4_pushOneOut_35 : decode cX4_pushOneOut 35 = .ok (.invokevirtual 101, 3) := by decide +kernel
theorem dX4_pushOneOut_38 : decode cX4_pushOneOut 38 = .ok (.pop, 1) := by decide +kernel
theorem dX4_pushOneOut_39 : decode cX4_pushOneOut 39 = .ok (.aload_n 0, 1) := by decide +kernel
theorem dX4_pushOneOut_40 : decode cX4_pushOneOut 40 = .ok (.dup, 1) := by decide +kernel
theorem dX4_pushOneOut_41 : decode cX4_pushOneOut 41 = .ok (.getfield 64, 3) := by decide +kernel
theorem dX4_pushOneOut_44 : decode cX4_pushOneOut 44 = .ok (.lconst 1, 1) := by decide +kernel
theorem dX4_pushOneOut_45 : decode cX4_pushOneOut 45 = .ok (.ladd, 1) := by decide +kernel
theorem dX4_pushOneOut_46 : decode cX4_pushOneOut 46 = .ok (.putfield 64, 3) := by decide +kernel
theorem dX4_pushOneOut_49 : decode cX4_pushOneOut 49 = .ok (.iconst 1, 1) := by decide +kernel
theorem dX4_pushOneOut_50 : decode cX4_pushOneOut 50 = .ok (.ireturn, 1) := by decide +kernel
theorem dX4_pushOneOut_51 : decode cX4_pushOneOut 51 = .ok (.iinc 1 1, 3) := by decide +kernel
theorem dX4_pushOneOut_54 : decode cX4_pushOneOut 54 = .ok (.goto (-52), 3) := by decide +kernel
theorem dX4_pushOneOut_57 : decode cX4_pushOneOut 57 = .ok (.iconst 0, 1) := by decide +kernel
theorem dX4_pushOneOut_58 : decode cX4_pushOneOut 58 = .ok (.ireturn, 1) := by decide +kernel
theorem dX4_countTables_0 : decode cX4_countTables 0 = .ok (.iconst 0, 1) := by decide +kernel
theorem dX4_countTables_1 : decode cX4_countTables 1 = .ok (.istore_n 2, 1) := by decide +kernel
theorem dX4_countTables_2 : decode cX4_countTables 2 = .ok (.iload_n 2, 1) := by decide +kernel
theorem dX4_countTables_3 : decode cX4_countTables 3 = .ok (.iconst 5, 1) := by decide +kernel
theorem dX4_countTables_4 : decode cX4_countTables 4 = .ok (.if_icmp .ge 29, 3) := by decide +kernel
theorem dX4_countTables_7 : decode cX4_countTables 7 = .ok (.iload_n 1, 1) := by decide +kernel
theorem dX4_countTables_8 : decode cX4_countTables 8 = .ok (.iload_n 2, 1) := by decide +kernel
theorem dX4_countTables_9 : decode cX4_countTables 9 = .ok (.invokestatic 113, 3) := by decide +kernel
theorem dX4_countTables_12 : decode cX4_countTables 12 = .ok (.ifCond .eq 15, 3) := by decide +kernel
theorem dX4_countTables_15 : decode cX4_countTables 15 = .ok (.aload_n 0, 1) := by decide +kernel
theorem dX4_countTables_16 : decode cX4_countTables 16 = .ok (.getfield 15, 3) := by decide +kernel
theorem dX4_countTables_19 : decode cX4_countTables 19 = .ok (.iload_n 2, 1) := by decide +kernel
theorem dX4_countTables_20 : decode cX4_countTables 20 = .ok (.aload_n 0, 1) := by decide +kernel
theorem dX4_countTables_21 : decode cX4_countTables 21 = .ok (.getfield 9, 3) := by decide +kernel
theorem dX4_countTables_24 : decode cX4_countTables 24 = .ok (.iload_n 2, 1) := by decide +kernel
theorem dX4_countTables_25 : decode cX4_countTables 25 = .ok (.iaload, 1) := by decide +kernel
theorem dX4_countTables_26 : decode cX4_countTables 26 = .ok (.iastore, 1) := by decide +kernel
theorem dX4_countTables_27 : decode cX4_countTables 27 = .ok (.iinc 2 1, 3) := by decide +kernel
theorem dX4_countTables_30 : decode cX4_countTables 30 = .ok (.goto (-28), 3) := by decide +kernel
theorem dX4_countTables_33 : decode cX4_countTables 33 = .ok (.aload_n 0, 1) := by decide +kernel
theorem dX4_countTables_34 : decode cX4_countTables 34 = .ok (.invokevirtual 116, 3) := by decide +kernel
theorem dX4_countTables_37 : decode cX4_countTables 37 = .ok (.ireturn, 1) := by decide +kernel
theorem dX4_throwOutDrifted_0 : decode cX4_throwOutDrifted 0 = .ok (.aload_n 0, 1) := by decide +kernel
theorem dX4_throwOutDrifted_1 : decode cX4_throwOutDrifted 1 = .ok (.getfield 26, 3) := by decide +kernel
theorem dX4_throwOutDrifted_4 : decode cX4_throwOutDrifted 4 = .ok (.invokevirtual 34, 3) := by decide +kernel
theorem dX4_throwOutDrifted_7 : decode cX4_throwOutDrifted 7 = .ok (.istore_n 1, 1) := by decide +kernel
theorem dX4_throwOutDrifted_8 : decode cX4_throwOutDrifted 8 = .ok (.iload_n 1, 1) := by decide +kernel
theorem dX4_throwOutDrifted_9 : decode cX4_throwOutDrifted 9 = .ok (.iconst 1, 1) := by decide +kernel
theorem dX4_throwOutDrifted_10 : decode cX4_throwOutDrifted 10 = .ok (.isub, 1) := by decide +kernel
theorem dX4_throwOutDrifted_11 : decode cX4_throwOutDrifted 11 = .ok (.istore_n 2, 1) := by decide +kernel
theorem dX4_throwOutDrifted_12 : decode cX4_throwOutDrifted 12 = .ok (.iload_n 2, 1) := by decide +kernel
theorem dX4_throwOutDrifted_13 : decode cX4_throwOutDrifted 13 = .ok (.ifCond .lt 46, 3) := by decide +kernel
theorem dX4_throwOutDrifted_16 : decode cX4_throwOutDrifted 16 = .ok (.aload_n 0, 1) := by decide +kernel
theorem dX4_throwOutDrifted_17 : decode cX4_throwOutDrifted 17 = .ok (.getfield 26, 3) := by decide +kernel
theorem dX4_throwOutDrifted_20 : decode cX4_throwOutDrifted 20 = .ok (.iload_n 2, 1) := by decide +kernel
theorem dX4_throwOutDrifted_21 : decode cX4_throwOutDrifted 21 = .ok (.invokevirtual 38, 3) := by decide +kernel
theorem dX4_throwOutDrifted_24 : decode cX4_throwOutDrifted 24 = .ok (.checkcast 42, 3) := by decide +kernel
theorem dX4_throwOutDrifted_27 : decode cX4_throwOutDrifted 27 = .ok (.astore_n 3, 1) := by decide +kernel
theorem dX4_throwOutDrifted_28 : decode cX4_throwOutDrifted 28 = .ok (.aload_n 3, 1) := by decide +kernel
theorem dX4_throwOutDrifted_29 : decode cX4_throwOutDrifted 29 = .ok (.getfield 83, 3) := by decide +kernel
theorem dX4_throwOutDrifted_32 : decode cX4_throwOutDrifted 32 = .ok (.ifCond .ne 21, 3) := by decide +kernel
theorem dX4_throwOutDrifted_35 : decode cX4_throwOutDrifted 35 = .ok (.aload_n 0, 1) := by decide +kernel
theorem dX4_throwOutDrifted_36 : decode cX4_throwOutDrifted 36 = .ok (.aload_n 3, 1) := by decide +kernel
theorem dX4_throwOutDrifted_37 : decode cX4_throwOutDrifted 37 = .ok (.iconst 0, 1) := by decide +kernel
theorem dX4_throwOutDrifted_38 : decode cX4_throwOutDrifted 38 = .ok (.invokevirtual 119, 3) := by decide +kernel
theorem dX4_throwOutDrifted_41 : decode cX4_throwOutDrifted 41 = .ok (.ifCond .eq 12, 3) := by decide +kernel
theorem dX4_throwOutDrifted_44 : decode cX4_throwOutDrifted 44 = .ok (.aload_n 0, 1) := by decide +kernel
theorem dX4_throwOutDrifted_45 : decode cX4_throwOutDrifted 45 = .ok (.getfield 26, 3) := by decide +kernel
theorem dX4_throwOutDrifted_48 : decode cX4_throwOutDrifted 48 = .ok (.iload_n 2, 1) := by decide +kernel
theorem dX4_throwOutDrifted_49 : decode cX4_throwOutDrifted 49 = .ok (.invokevirtual 101, 3) := by decide +kernel
theorem dX4_throwOutDrifted_52 : decode cX4_throwOutDrifted 52 = .ok (.pop, 1) := by decide +kernel
theorem dX4_throwOutDrifted_53 : decode cX4_throwOutDrifted 53 = .ok (.iinc 2 (-1), 3) := by decide +kernel
theorem dX4_throwOutDrifted_56 : decode cX4_throwOutDrifted 56 = .ok (.goto (-44), 3) := by decide +kernel
theorem dX4_throwOutDrifted_59 : decode cX4_throwOutDrifted 59 = .ok (.iload_n 1, 1) := by decide +kernel
theorem dX4_throwOutDrifted_60 : decode cX4_throwOutDrifted 60 = .ok (.aload_n 0, 1) := by decide +kernel
theorem dX4_throwOutDrifted_61 : decode cX4_throwOutDrifted 61 = .ok (.getfield 26, 3) := by decide +kernel
theorem dX4_throwOutDrifted_64 : decode cX4_throwOutDrifted 64 = .ok (.invokevirtual 34, 3) := by decide +kernel
theorem dX4_throwOutDrifted_67 : decode cX4_throwOutDrifted 67 = .ok (.isub, 1) := by decide +kernel
theorem dX4_throwOutDrifted_68 : decode cX4_throwOutDrifted 68 = .ok (.istore_n 2, 1) := by decide +kernel
theorem dX4_throwOutDrifted_69 : decode cX4_throwOutDrifted 69 = .ok (.aload_n 0, 1) := by decide +kernel
theorem dX4_throwOutDrifted_70 : decode cX4_throwOutDrifted 70 = .ok (.dup, 1) := by decide +kernel
theorem dX4_throwOutDrifted_71 : decode cX4_throwOutDrifted 71 = .ok (.getfield 61, 3) := by decide +kernel
theorem dX4_throwOutDrifted_74 : decode cX4_throwOutDrifted 74 = .ok (.iload_n 2, 1) := by decide +kernel
theorem dX4_throwOutDrifted_75 : decode cX4_throwOutDrifted 75 = .ok (.i2l, 1) := by decide +kernel
theorem dX4_throwOutDrifted_76 : decode cX4_throwOutDrifted 76 = .ok (.ladd, 1) := by decide +kernel
theorem dX4_throwOutDrifted_77 : decode cX4_throwOutDrifted 77 = .ok (.putfield 61, 3) := by decide +kernel
theorem dX4_throwOutDrifted_80 : decode cX4_throwOutDrifted 80 = .ok (.iload_n 2, 1) := by decide +kernel
theorem dX4_throwOutDrifted_81 : decode cX4_throwOutDrifted 81 = .ok (.ireturn, 1) := by decide +kernel
theorem dX4_throwOutJoins_0 : decode cX4_throwOutJoins 0 = .ok (.aload_n 0, 1) := by decide +kernel
theorem dX4_throwOutJoins_1 : decode cX4_throwOutJoins 1 = .ok (.getfield 26, 3) := by decide +kernel
theorem dX4_throwOutJoins_4 : decode cX4_throwOutJoins 4 = .ok (.invokevirtual 34, 3) := by decide +kernel
theorem dX4_throwOutJoins_7 : decode cX4_throwOutJoins 7 = .ok (.istore_n 2, 1) := by decide +kernel
theorem dX4_throwOutJoins_8 : decode cX4_throwOutJoins 8 = .ok (.iload_n 2, 1) := by decide +kernel
theorem dX4_throwOutJoins_9 : decode cX4_throwOutJoins 9 = .ok (.iconst 1, 1) := by decide +kernel
theorem dX4_throwOutJoins_10 : decode cX4_throwOutJoins 10 = .ok (.isub, 1) := by decide +kernel
theorem dX4_throwOutJoins_11 : decode cX4_throwOutJoins 11 = .ok (.istore_n 3, 1) := by decide +kernel
theorem dX4_throwOutJoins_12 : decode cX4_throwOutJoins 12 = .ok (.iload_n 3, 1) := by decide +kernel
theorem dX4_throwOutJoins_13 : decode cX4_throwOutJoins 13 = .ok (.ifCond .lt 51, 3) := by decide +kernel
theorem dX4_throwOutJoins_16 : decode cX4_throwOutJoins 16 = .ok (.aload_n 0, 1) := by decide +kernel
theorem dX4_throwOutJoins_17 : decode cX4_throwOutJoins 17 = .ok (.getfield 26, 3) := by decide +kernel
theorem dX4_throwOutJoins_20 : decode cX4_throwOutJoins 20 = .ok (.iload_n 3, 1) := by decide +kernel
theorem dX4_throwOutJoins_21 : decode cX4_throwOutJoins 21 = .ok (.invokevirtual 38, 3) := by decide +kernel
theorem dX4_throwOutJoins_24 : decode cX4_throwOutJoins 24 = .ok (.checkcast 42, 3) := by decide +kernel
theorem dX4_throwOutJoins_27 : decode cX4_throwOutJoins 27 = .ok (.astore 4, 2) := by decide +kernel
theorem dX4_throwOutJoins_29 : decode cX4_throwOutJoins 29 = .ok (.aload 4, 2) := by decide +kernel
theorem dX4_throwOutJoins_31 : decode cX4_throwOutJoins 31 = .ok (.getfield 83, 3) := by decide +kernel
theorem dX4_throwOutJoins_34 : decode cX4_throwOutJoins 34 = .ok (.ifCond .ne 24, 3) := by decide +kernel
theorem dX4_throwOutJoins_37 : decode cX4_throwOutJoins 37 = .ok (.aload 4, 2) := by decide +kernel
theorem dX4_throwOutJoins_39 : decode cX4_throwOutJoins 39 = .ok (.getfield 76, 3) := by decide +kernel
theorem dX4_throwOutJoins_42 : decode cX4_throwOutJoins 42 = .ok (.iload_n 1, 1) := by decide +kernel
theorem dX4_throwOutJoins_43 : decode cX4_throwOutJoins 43 = .ok (.invokestatic 79, 3) := by decide +kernel
theorem dX4_throwOutJoins_46 : decode cX4_throwOutJoins 46 = .ok (.ifCond .eq 12, 3) := by decide +kernel
theorem dX4_throwOutJoins_49 : decode cX4_throwOutJoins 49 = .ok (.aload_n 0, 1) := by decide +kernel
theorem dX4_throwOutJoins_50 : decode cX4_throwOutJoins 50 = .ok (.getfield 26, 3) := by decide +kernel
theorem dX4_throwOutJoins_53 : decode cX4_throwOutJoins 53 = .ok (.iload_n 3, 1) := by decide +kernel
theorem dX4_throwOutJoins_54 : decode cX4_throwOutJoins 54 = .ok (.invokevirtual 101, 3) := by decide +kernel
theorem dX4_throwOutJoins_57 : decode cX4_throwOutJoins 57 = .ok (.pop, 1) := by decide +kernel
theorem dX4_throwOutJoins_58 : decode cX4_throwOutJoins 58 = .ok (.iinc 3 (-1), 3) := by decide +kernel
theorem dX4_throwOutJoins_61 : decode cX4_throwOutJoins 61 = .ok (.goto (-49), 3) := by decide +kernel
theorem dX4_throwOutJoins_64 : decode cX4_throwOutJoins 64 = .ok (.iload_n 2, 1) := by decide +kernel
theorem dX4_throwOutJoins_65 : decode cX4_throwOutJoins 65 = .ok (.aload_n 0, 1) := by decide +kernel
theorem dX4_throwOutJoins_66 : decode cX4_throwOutJoins 66 = .ok (.getfield 26, 3) := by decide +kernel
theorem dX4_throwOutJoins_69 : decode cX4_throwOutJoins 69 = .ok (.invokevirtual 34, 3) := by decide +kernel
theorem dX4_throwOutJoins_72 : decode cX4_throwOutJoins 72 = .ok (.isub, 1) := by decide +kernel
theorem dX4_throwOutJoins_73 : decode cX4_throwOutJoins 73 = .ok (.istore_n 3, 1) := by decide +kernel
theorem dX4_throwOutJoins_74 : decode cX4_throwOutJoins 74 = .ok (.aload_n 0, 1) := by decide +kernel
theorem dX4_throwOutJoins_75 : decode cX4_throwOutJoins 75 = .ok (.dup, 1) := by decide +kernel
theorem dX4_throwOutJoins_76 : decode cX4_throwOutJoins 76 = .ok (.getfield 67, 3) := by decide +kernel
theorem dX4_throwOutJoins_79 : decode cX4_throwOutJoins 79 = .ok (.iload_n 3, 1) := by decide +kernel
theorem dX4_throwOutJoins_80 : decode cX4_throwOutJoins 80 = .ok (.i2l, 1) := by decide +kernel
theorem dX4_throwOutJoins_81 : decode cX4_throwOutJoins 81 = .ok (.ladd, 1) := by decide +kernel
theorem dX4_throwOutJoins_82 : decode cX4_throwOutJoins 82 = .ok (.putfield 67, 3) := by decide +kernel
theorem dX4_throwOutJoins_85 : decode cX4_throwOutJoins 85 = .ok (.iload_n 3, 1) := by decide +kernel
theorem dX4_throwOutJoins_86 : decode cX4_throwOutJoins 86 = .ok (.ireturn, 1) := by decide +kernel
theorem dX4_driftsOnceCounted_0 : decode cX4_driftsOnceCounted 0 = .ok (.iconst 0, 1) := by decide +kernel
theorem dX4_driftsOnceCounted_1 : decode cX4_driftsOnceCounted 1 = .ok (.istore_n 3, 1) := by decide +kernel
theorem dX4_driftsOnceCounted_2 : decode cX4_driftsOnceCounted 2 = .ok (.iload_n 3, 1) := by decide +kernel
theorem dX4_driftsOnceCounted_3 : decode cX4_driftsOnceCounted 3 = .ok (.iconst 5, 1) := by decide +kernel
theorem dX4_driftsOnceCounted_4 : decode cX4_driftsOnceCounted 4 = .ok (.if_icmp .ge 89, 3) := by decide +kernel
theorem dX4_driftsOnceCounted_7 : decode cX4_driftsOnceCounted 7 = .ok (.iload_n 3, 1) := by decide +kernel
theorem dX4_driftsOnceCounted_8 : decode cX4_driftsOnceCounted 8 = .ok (.aload_n 1, 1) := by decide +kernel
theorem dX4_driftsOnceCounted_9 : decode cX4_driftsOnceCounted 9 = .ok (.getfield 90, 3) := by decide +kernel
theorem dX4_driftsOnceCounted_12 : decode cX4_driftsOnceCounted 12 = .ok (.arraylength, 1) := by decide +kernel
theorem dX4_driftsOnceCounted_13 : decode cX4_driftsOnceCounted 13 = .ok (.if_icmp .ge 80, 3) := by decide +kernel
theorem dX4_driftsOnceCounted_16 : decode cX4_driftsOnceCounted 16 = .ok (.iload_n 2, 1) := by decide +kernel
theorem dX4_driftsOnceCounted_17 : decode cX4_driftsOnceCounted 17 = .ok (.iload_n 3, 1) := by decide +kernel
theorem dX4_driftsOnceCounted_18 : decode cX4_driftsOnceCounted 18 = .ok (.invokestatic 113, 3) := by decide +kernel
theorem dX4_driftsOnceCounted_21 : decode cX4_driftsOnceCounted 21 = .ok (.ifCond .eq 12, 3) := by decide +kernel
theorem dX4_driftsOnceCounted_24 : decode cX4_driftsOnceCounted 24 = .ok (.aload_n 0, 1) := by decide +kernel
theorem dX4_driftsOnceCounted_25 : decode cX4_driftsOnceCounted 25 = .ok (.getfield 9, 3) := by decide +kernel
theorem dX4_driftsOnceCounted_28 : decode cX4_driftsOnceCounted 28 = .ok (.iload_n 3, 1) := by decide +kernel
theorem dX4_driftsOnceCounted_29 : decode cX4_driftsOnceCounted 29 = .ok (.iaload, 1) := by decide +kernel
theorem dX4_driftsOnceCounted_30 : decode cX4_driftsOnceCounted 30 = .ok (.goto 9, 3) := by decide +kernel
theorem dX4_driftsOnceCounted_33 : decode cX4_driftsOnceCounted 33 = .ok (.aload_n 0, 1) := by decide +kernel
theorem dX4_driftsOnceCounted_34 : decode cX4_driftsOnceCounted 34 = .ok (.getfield 15, 3) := by decide +kernel
theorem dX4_driftsOnceCounted_37 : decode cX4_driftsOnceCounted 37 = .ok (.iload_n 3, 1) := by decide +kernel
theorem dX4_driftsOnceCounted_38 : decode cX4_driftsOnceCounted 38 = .ok (.iaload, 1) := by decide +kernel
theorem dX4_driftsOnceCounted_39 : decode cX4_driftsOnceCounted 39 = .ok (.istore 4, 2) := by decide +kernel
theorem dX4_driftsOnceCounted_41 : decode cX4_driftsOnceCounted 41 = .ok (.aload_n 1, 1) := by decide +kernel
theorem dX4_driftsOnceCounted_42 : decode cX4_driftsOnceCounted 42 = .ok (.getfield 90, 3) := by decide +kernel
theorem dX4_driftsOnceCounted_45 : decode cX4_driftsOnceCounted 45 = .ok (.iload_n 3, 1) := by decide +kernel
theorem dX4_driftsOnceCounted_46 : decode cX4_driftsOnceCounted 46 = .ok (.iaload, 1) := by decide +kernel
theorem dX4_driftsOnceCounted_47 : decode cX4_driftsOnceCounted 47 = .ok (.istore 5, 2) := by decide +kernel
theorem dX4_driftsOnceCounted_49 : decode cX4_driftsOnceCounted 49 = .ok (.aload_n 1, 1) := by decide +kernel
theorem dX4_driftsOnceCounted_50 : decode cX4_driftsOnceCounted 50 = .ok (.getfield 76, 3) := by decide +kernel
theorem dX4_driftsOnceCounted_53 : decode cX4_driftsOnceCounted 53 = .ok (.iload_n 3, 1) := by decide +kernel
theorem dX4_driftsOnceCounted_54 : decode cX4_driftsOnceCounted 54 = .ok (.invokestatic 113, 3) := by decide +kernel
theorem dX4_driftsOnceCounted_57 : decode cX4_driftsOnceCounted 57 = .ok (.ifCond .eq 30, 3) := by decide +kernel
theorem dX4_driftsOnceCounted_60 : decode cX4_driftsOnceCounted 60 = .ok (.iload 4, 2) := by decide +kernel
theorem dX4_driftsOnceCounted_62 : decode cX4_driftsOnceCounted 62 = .ok (.iload 5, 2) := by decide +kernel
theorem dX4_driftsOnceCounted_64 : decode cX4_driftsOnceCounted 64 = .ok (.invokestatic 123, 3) := by decide +kernel
theorem dX4_driftsOnceCounted_67 : decode cX4_driftsOnceCounted 67 = .ok (.bipush 100, 2) := by decide +kernel
theorem dX4_driftsOnceCounted_69 : decode cX4_driftsOnceCounted 69 = .ok (.imul, 1) := by decide +kernel
theorem dX4_driftsOnceCounted_70 : decode cX4_driftsOnceCounted 70 = .ok (.iload 4, 2) := by decide +kernel
theorem dX4_driftsOnceCounted_72 : decode cX4_driftsOnceCounted 72 = .ok (.iload 5, 2) := by decide +kernel
theorem dX4_driftsOnceCounted_74 : decode cX4_driftsOnceCounted 74 = .ok (.invokestatic 129, 3) := by decide +kernel
theorem dX4_driftsOnceCounted_77 : decode cX4_driftsOnceCounted 77 = .ok (.aload_n 0, 1) := by decide +kernel
theorem dX4_driftsOnceCounted_78 : decode cX4_driftsOnceCounted 78 = .ok (.getfield 30, 3) := by decide +kernel
theorem dX4_driftsOnceCounted_81 : decode cX4_driftsOnceCounted 81 = .ok (.imul, 1) := by decide +kernel
theorem dX4_driftsOnceCounted_82 : decode cX4_driftsOnceCounted 82 = .ok (.if_icmp .le 5, 3) := by decide +kernel
theorem dX4_driftsOnceCounted_85 : decode cX4_driftsOnceCounted 85 = .ok (.iconst 1, 1) := by decide +kernel
theorem dX4_driftsOnceCounted_86 : decode cX4_driftsOnceCounted 86 = .ok (.ireturn, 1) := by decide +kernel
theorem dX4_driftsOnceCounted_87 : decode cX4_driftsOnceCounted 87 = .ok (.iinc 3 1, 3) := by decide +kernel
theorem dX4_driftsOnceCounted_90 : decode cX4_driftsOnceCounted 90 = .ok (.goto (-88), 3) := by decide +kernel
theorem dX4_driftsOnceCounted_93 : decode cX4_driftsOnceCounted 93 = .ok (.iconst 0, 1) := by decide +kernel
theorem dX4_driftsOnceCounted_94 : decode cX4_driftsOnceCounted 94 = .ok (.ireturn, 1) := by decide +kernel
theorem dX4_driftToBear_0 : decode cX4_driftToBear 0 = .ok (.iconst 0, 1) := by decide +kernel
theorem dX4_driftToBear_1 : decode cX4_driftToBear 1 = .ok (.istore_n 2, 1) := by decide +kernel
theorem dX4_driftToBear_2 : decode cX4_driftToBear 2 = .ok (.iconst 0, 1) := by decide +kernel
theorem dX4_driftToBear_3 : decode cX4_driftToBear 3 = .ok (.istore_n 3, 1) := by decide +kernel
theorem dX4_driftToBear_4 : decode cX4_driftToBear 4 = .ok (.iload_n 3, 1) := by decide +kernel
theorem dX4_driftToBear_5 : decode cX4_driftToBear 5 = .ok (.iconst 5, 1) := by decide +kernel
theorem dX4_driftToBear_6 : decode cX4_driftToBear 6 = .ok (.if_icmp .ge 49, 3) := by decide +kernel
theorem dX4_driftToBear_9 : decode cX4_driftToBear 9 = .ok (.iload_n 3, 1) := by decide +kernel
theorem dX4_driftToBear_10 : decode cX4_driftToBear 10 = .ok (.aload_n 1, 1) := by decide +kernel
theorem dX4_driftToBear_11 : decode cX4_driftToBear 11 = .ok (.getfield 90, 3) := by decide +kernel
theorem dX4_driftToBear_14 : decode cX4_driftToBear 14 = .ok (.arraylength, 1) := by decide +kernel
theorem dX4_driftToBear_15 : decode cX4_driftToBear 15 = .ok (.if_icmp .ge 40, 3) := by decide +kernel
theorem dX4_driftToBear_18 : decode cX4_driftToBear 18 = .ok (.aload_n 1, 1) := by decide +kernel
theorem dX4_driftToBear_19 : decode cX4_driftToBear 19 = .ok (.getfield 76, 3) := by decide +kernel
theorem dX4_driftToBear_22 : decode cX4_driftToBear 22 = .ok (.iload_n 3, 1) := by decide +kernel
theorem dX4_driftToBear_23 : decode cX4_driftToBear 23 = .ok (.invokestatic 113, 3) := by decide +kernel
theorem dX4_driftToBear_26 : decode cX4_driftToBear 26 = .ok (.ifCond .eq 23, 3) := by decide +kernel
theorem dX4_driftToBear_29 : decode cX4_driftToBear 29 = .ok (.iload_n 2, 1) := by decide +kernel
theorem dX4_driftToBear_30 : decode cX4_driftToBear 30 = .ok (.aload_n 0, 1) := by decide +kernel
theorem dX4_driftToBear_31 : decode cX4_driftToBear 31 = .ok (.getfield 15, 3) := by decide +kernel
theorem dX4_driftToBear_34 : decode cX4_driftToBear 34 = .ok (.iload_n 3, 1) := by decide +kernel
theorem dX4_driftToBear_35 : decode cX4_driftToBear 35 = .ok (.iaload, 1) := by decide +kernel
theorem dX4_driftToBear_36 : decode cX4_driftToBear 36 = .ok (.aload_n 1, 1) := by decide +kernel
theorem dX4_driftToBear_37 : decode cX4_driftToBear 37 = .ok (.getfield 90, 3) := by decide +kernel
theorem dX4_driftToBear_40 : decode cX4_driftToBear 40 = .ok (.iload_n 3, 1) := by decide +kernel
theorem dX4_driftToBear_41 : decode cX4_driftToBear 41 = .ok (.iaload, 1) := by decide +kernel
theorem dX4_driftToBear_42 : decode cX4_driftToBear 42 = .ok (.invokestatic 132, 3) := by decide +kernel
theorem dX4_driftToBear_45 : decode cX4_driftToBear 45 = .ok (.invokestatic 123, 3) := by decide +kernel
theorem dX4_driftToBear_48 : decode cX4_driftToBear 48 = .ok (.istore_n 2, 1) := by decide +kernel
theorem dX4_driftToBear_49 : decode cX4_driftToBear 49 = .ok (.iinc 3 1, 3) := by decide +kernel
theorem dX4_driftToBear_52 : decode cX4_driftToBear 52 = .ok (.goto (-48), 3) := by decide +kernel
theorem dX4_driftToBear_55 : decode cX4_driftToBear 55 = .ok (.iload_n 2, 1) := by decide +kernel
theorem dX4_driftToBear_56 : decode cX4_driftToBear 56 = .ok (.ireturn, 1) := by decide +kernel
theorem dJ6_bitCount_0f7a4_0 : decode cJ6_bitCount_0f7a4 0 = .ok (.iload_n 0, 1) := by decide +kernel
theorem dJ6_bitCount_0f7a4_1 : decode cJ6_bitCount_0f7a4 1 = .ok (.iload_n 0, 1) := by decide +kernel
theorem dJ6_bitCount_0f7a4_2 : decode cJ6_bitCount_0f7a4 2 = .ok (.iconst 1, 1) := by decide +kernel
theorem dJ6_bitCount_0f7a4_3 : decode cJ6_bitCount_0f7a4 3 = .ok (.iushr, 1) := by decide +kernel
theorem dJ6_bitCount_0f7a4_4 : decode cJ6_bitCount_0f7a4 4 = .ok (.ldc_w 265, 3) := by decide +kernel
theorem dJ6_bitCount_0f7a4_7 : decode cJ6_bitCount_0f7a4 7 = .ok (.iand, 1) := by decide +kernel
theorem dJ6_bitCount_0f7a4_8 : decode cJ6_bitCount_0f7a4 8 = .ok (.isub, 1) := by decide +kernel
theorem dJ6_bitCount_0f7a4_9 : decode cJ6_bitCount_0f7a4 9 = .ok (.istore_n 0, 1) := by decide +kernel
theorem dJ6_bitCount_0f7a4_10 : decode cJ6_bitCount_0f7a4 10 = .ok (.iload_n 0, 1) := by decide +kernel
theorem dJ6_bitCount_0f7a4_11 : decode cJ6_bitCount_0f7a4 11 = .ok (.ldc_w 266, 3) := by decide +kernel
theorem dJ6_bitCount_0f7a4_14 : decode cJ6_bitCount_0f7a4 14 = .ok (.iand, 1) := by decide +kernel
theorem dJ6_bitCount_0f7a4_15 : decode cJ6_bitCount_0f7a4 15 = .ok (.iload_n 0, 1) := by decide +kernel
theorem dJ6_bitCount_0f7a4_16 : decode cJ6_bitCount_0f7a4 16 = .ok (.iconst 2, 1) := by decide +kernel
theorem dJ6_bitCount_0f7a4_17 : decode cJ6_bitCount_0f7a4 17 = .ok (.iushr, 1) := by decide +kernel
theorem dJ6_bitCount_0f7a4_18 : decode cJ6_bitCount_0f7a4 18 = .ok (.ldc_w 266, 3) := by decide +kernel
theorem dJ6_bitCount_0f7a4_21 : decode cJ6_bitCount_0f7a4 21 = .ok (.iand, 1) := by decide +kernel
theorem dJ6_bitCount_0f7a4_22 : decode cJ6_bitCount_0f7a4 22 = .ok (.iadd, 1) := by decide +kernel
theorem dJ6_bitCount_0f7a4_23 : decode cJ6_bitCount_0f7a4 23 = .ok (.istore_n 0, 1) := by decide +kernel
theorem dJ6_bitCount_0f7a4_24 : decode cJ6_bitCount_0f7a4 24 = .ok (.iload_n 0, 1) := by decide +kernel
theorem dJ6_bitCount_0f7a4_25 : decode cJ6_bitCount_0f7a4 25 = .ok (.iload_n 0, 1) := by decide +kernel
theorem dJ6_bitCount_0f7a4_26 : decode cJ6_bitCount_0f7a4 26 = .ok (.iconst 4, 1) := by decide +kernel
theorem dJ6_bitCount_0f7a4_27 : decode cJ6_bitCount_0f7a4 27 = .ok (.iushr, 1) := by decide +kernel
theorem dJ6_bitCount_0f7a4_28 : decode cJ6_bitCount_0f7a4 28 = .ok (.iadd, 1) := by decide +kernel
theorem dJ6_bitCount_0f7a4_29 : decode cJ6_bitCount_0f7a4 29 = .ok (.ldc_w 267, 3) := by decide +kernel
theorem dJ6_bitCount_0f7a4_32 : decode cJ6_bitCount_0f7a4 32 = .ok (.iand, 1) := by decide +kernel
theorem dJ6_bitCount_0f7a4_33 : decode cJ6_bitCount_0f7a4 33 = .ok (.istore_n 0, 1) := by decide +kernel
theorem dJ6_bitCount_0f7a4_34 : decode cJ6_bitCount_0f7a4 34 = .ok (.iload_n 0, 1) := by decide +kernel
theorem dJ6_bitCount_0f7a4_35 : decode cJ6_bitCount_0f7a4 35 = .ok (.iload_n 0, 1) := by decide +kernel
theorem dJ6_bitCount_0f7a4_36 : decode cJ6_bitCount_0f7a4 36 = .ok (.bipush 8, 2) := by decide +kernel
theorem dJ6_bitCount_0f7a4_38 : decode cJ6_bitCount_0f7a4 38 = .ok (.iushr, 1) := by decide +kernel
theorem dJ6_bitCount_0f7a4_39 : decode cJ6_bitCount_0f7a4 39 = .ok (.iadd, 1) := by decide +kernel
theorem dJ6_bitCount_0f7a4_40 : decode cJ6_bitCount_0f7a4 40 = .ok (.istore_n 0, 1) := by decide +kernel
theorem dJ6_bitCount_0f7a4_41 : decode cJ6_bitCount_0f7a4 41 = .ok (.iload_n 0, 1) := by decide +kernel
theorem dJ6_bitCount_0f7a4_42 : decode cJ6_bitCount_0f7a4 42 = .ok (.iload_n 0, 1) := by decide +kernel
theorem dJ6_bitCount_0f7a4_43 : decode cJ6_bitCount_0f7a4 43 = .ok (.bipush 16, 2) := by decide +kernel
theorem dJ6_bitCount_0f7a4_45 : decode cJ6_bitCount_0f7a4 45 = .ok (.iushr, 1) := by decide +kernel
theorem dJ6_bitCount_0f7a4_46 : decode cJ6_bitCount_0f7a4 46 = .ok (.iadd, 1) := by decide +kernel
theorem dJ6_bitCount_0f7a4_47 : decode cJ6_bitCount_0f7a4 47 = .ok (.istore_n 0, 1) := by decide +kernel
theorem dJ6_bitCount_0f7a4_48 : decode cJ6_bitCount_0f7a4 48 = .ok (.iload_n 0, 1) := by decide +kernel
theorem dJ6_bitCount_0f7a4_49 : decode cJ6_bitCount_0f7a4 49 = .ok (.bipush 63, 2) := by decide +kernel
theorem dJ6_bitCount_0f7a4_51 : decode cJ6_bitCount_0f7a4 51 = .ok (.iand, 1) := by decide +kernel
theorem dJ6_bitCount_0f7a4_52 : decode cJ6_bitCount_0f7a4 52 = .ok (.ireturn, 1) := by decide +kernel
theorem dJ9_max_7cf53_0 : decode cJ9_max_7cf53 0 = .ok (.iload_n 0, 1) := by decide +kernel
theorem dJ9_max_7cf53_1 : decode cJ9_max_7cf53 1 = .ok (.iload_n 1, 1) := by decide +kernel
theorem dJ9_max_7cf53_2 : decode cJ9_max_7cf53 2 = .ok (.if_icmp .lt 7, 3) := by decide +kernel
theorem dJ9_max_7cf53_5 : decode cJ9_max_7cf53 5 = .ok (.iload_n 0, 1) := by decide +kernel
theorem dJ9_max_7cf53_6 : decode cJ9_max_7cf53 6 = .ok (.goto 4, 3) := by decide +kernel
theorem dJ9_max_7cf53_9 : decode cJ9_max_7cf53 9 = .ok (.iload_n 1, 1) := by decide +kernel
theorem dJ9_max_7cf53_10 : decode cJ9_max_7cf53 10 = .ok (.ireturn, 1) := by decide +kernel
theorem dJ9_max_f86c9_0 : decode cJ9_max_f86c9 0 = .ok (.lload_n 0, 1) := by decide +kernel
theorem dJ9_max_f86c9_1 : decode cJ9_max_f86c9 1 = .ok (.lload_n 2, 1) := by decide +kernel
theorem dJ9_max_f86c9_2 : decode cJ9_max_f86c9 2 = .ok (.lcmp, 1) := by decide +kernel
theorem dJ9_max_f86c9_3 : decode cJ9_max_f86c9 3 = .ok (.ifCond .lt 7, 3) := by decide +kernel
theorem dJ9_max_f86c9_6 : decode cJ9_max_f86c9 6 = .ok (.lload_n 0, 1) := by decide +kernel
theorem dJ9_max_f86c9_7 : decode cJ9_max_f86c9 7 = .ok (.goto 4, 3) := by decide +kernel
theorem dJ9_max_f86c9_10 : decode cJ9_max_f86c9 10 = .ok (.lload_n 2, 1) := by decide +kernel
theorem dJ9_max_f86c9_11 : decode cJ9_max_f86c9 11 = .ok (.lreturn, 1) := by decide +kernel
theorem dJ9_min_7cf53_0 : decode cJ9_min_7cf53 0 = .ok (.iload_n 0, 1) := by decide +kernel
theorem dJ9_min_7cf53_1 : decode cJ9_min_7cf53 1 = .ok (.iload_n 1, 1) := by decide +kernel
theorem dJ9_min_7cf53_2 : decode cJ9_min_7cf53 2 = .ok (.if_icmp .gt 7, 3) := by decide +kernel
theorem dJ9_min_7cf53_5 : decode cJ9_min_7cf53 5 = .ok (.iload_n 0, 1) := by decide +kernel
theorem dJ9_min_7cf53_6 : decode cJ9_min_7cf53 6 = .ok (.goto 4, 3) := by decide +kernel
theorem dJ9_min_7cf53_9 : decode cJ9_min_7cf53 9 = .ok (.iload_n 1, 1) := by decide +kernel
theorem dJ9_min_7cf53_10 : decode cJ9_min_7cf53 10 = .ok (.ireturn, 1) := by decide +kernel
theorem dJ9_min_f86c9_0 : decode cJ9_min_f86c9 0 = .ok (.lload_n 0, 1) := by decide +kernel
theorem dJ9_min_f86c9_1 : decode cJ9_min_f86c9 1 = .ok (.lload_n 2, 1) := by decide +kernel
theorem dJ9_min_f86c9_2 : decode cJ9_min_f86c9 2 = .ok (.lcmp, 1) := by decide +kernel
theorem dJ9_min_f86c9_3 : decode cJ9_min_f86c9 3 = .ok (.ifCond .gt 7, 3) := by decide +kernel
theorem dJ9_min_f86c9_6 : decode cJ9_min_f86c9 6 = .ok (.lload_n 0, 1) := by decide +kernel
theorem dJ9_min_f86c9_7 : decode cJ9_min_f86c9 7 = .ok (.goto 4, 3) := by decide +kernel
theorem dJ9_min_f86c9_10 : decode cJ9_min_f86c9 10 = .ok (.lload_n 2, 1) := by decide +kernel
theorem dJ9_min_f86c9_11 : decode cJ9_min_f86c9 11 = .ok (.lreturn, 1) := by decide +kernel
theorem dJxa1e45_init_da8c8_0 : decode cJxa1e45_init_da8c8 0 = .ok (.aload_n 0, 1) := by decide +kernel
theorem dJxa1e45_init_da8c8_1 : decode cJxa1e45_init_da8c8 1 = .ok (.invokespecial 1, 3) := by decide +kernel
theorem dJxa1e45_init_da8c8_4 : decode cJxa1e45_init_da8c8 4 = .ok (.return_, 1) := by decide +kernel
theorem dJxc12de_init_da8c8_0 : decode cJxc12de_init_da8c8 0 = .ok (.aload_n 0, 1) := by decide +kernel
theorem dJxc12de_init_da8c8_1 : decode cJxc12de_init_da8c8 1 = .ok (.invokespecial 1, 3) := by decide +kernel
theorem dJxc12de_init_da8c8_4 : decode cJxc12de_init_da8c8 4 = .ok (.aload_n 0, 1) := by decide +kernel
theorem dJxc12de_init_da8c8_5 : decode cJxc12de_init_da8c8 5 = .ok (.iconst 0, 1) := by decide +kernel
theorem dJxc12de_init_da8c8_6 : decode cJxc12de_init_da8c8 6 = .ok (.putfield 7, 3) := by decide +kernel
theorem dJxc12de_init_da8c8_9 : decode cJxc12de_init_da8c8 9 = .ok (.return_, 1) := by decide +kernel
theorem dJx4a65c_init_da8c8_0 : decode cJx4a65c_init_da8c8 0 = .ok (.aload_n 0, 1) := by decide +kernel
theorem dJx4a65c_init_da8c8_1 : decode cJx4a65c_init_da8c8 1 = .ok (.invokespecial 1, 3) := by decide +kernel
theorem dJx4a65c_init_da8c8_4 : decode cJx4a65c_init_da8c8 4 = .ok (.aload_n 0, 1) := by decide +kernel
theorem dJx4a65c_init_da8c8_5 : decode cJx4a65c_init_da8c8 5 = .ok (.getstatic 39, 3) := by decide +kernel
theorem dJx4a65c_init_da8c8_8 : decode cJx4a65c_init_da8c8 8 = .ok (.putfield 9, 3) := by decide +kernel
theorem dJx4a65c_init_da8c8_11 : decode cJx4a65c_init_da8c8 11 = .ok (.return_, 1) := by decide +kernel
theorem dJx4a65c_grow_92f84_0 : decode cJx4a65c_grow_92f84 0 = .ok (.aload_n 0, 1) := by decide +kernel
theorem dJx4a65c_grow_92f84_1 : decode cJx4a65c_grow_92f84 1 = .ok (.getfield 9, 3) := by decide +kernel
theorem dJx4a65c_grow_92f84_4 : decode cJx4a65c_grow_92f84 4 = .ok (.arraylength, 1) := by decide +kernel
theorem dJx4a65c_grow_92f84_5 : decode cJx4a65c_grow_92f84 5 = .ok (.istore_n 2, 1) := by decide +kernel
theorem dJx4a65c_grow_92f84_6 : decode cJx4a65c_grow_92f84 6 = .ok (.iload_n 2, 1) := by decide +kernel
theorem dJx4a65c_grow_92f84_7 : decode cJx4a65c_grow_92f84 7 = .ok (.ifCond .gt 13, 3) := by decide +kernel
theorem dJx4a65c_grow_92f84_10 : decode cJx4a65c_grow_92f84 10 = .ok (.aload_n 0, 1) := by decide +kernel
theorem dJx4a65c_grow_92f84_11 : decode cJx4a65c_grow_92f84 11 = .ok (.getfield 9, 3) := by decide +kernel
theorem dJx4a65c_grow_92f84_14 : decode cJx4a65c_grow_92f84 14 = .ok (.getstatic 39, 3) := by decide +kernel
theorem dJx4a65c_grow_92f84_17 : decode cJx4a65c_grow_92f84 17 = .ok (.if_acmp .eq 28, 3) := by decide +kernel
theorem dJx4a65c_grow_92f84_20 : decode cJx4a65c_grow_92f84 20 = .ok (.iload_n 2, 1) := by decide +kernel
theorem dJx4a65c_grow_92f84_21 : decode cJx4a65c_grow_92f84 21 = .ok (.iload_n 1, 1) := by decide +kernel
theorem dJx4a65c_grow_92f84_22 : decode cJx4a65c_grow_92f84 22 = .ok (.iload_n 2, 1) := by decide +kernel
theorem dJx4a65c_grow_92f84_23 : decode cJx4a65c_grow_92f84 23 = .ok (.isub, 1) := by decide +kernel
theorem dJx4a65c_grow_92f84_24 : decode cJx4a65c_grow_92f84 24 = .ok (.iload_n 2, 1) := by decide +kernel
theorem dJx4a65c_grow_92f84_25 : decode cJx4a65c_grow_92f84 25 = .ok (.iconst 1, 1) := by decide +kernel
theorem dJx4a65c_grow_92f84_26 : decode cJx4a65c_grow_92f84 26 = .ok (.ishr, 1) := by decide +kernel
theorem dJx4a65c_grow_92f84_27 : decode cJx4a65c_grow_92f84 27 = .ok (.invokestatic 73, 3) := by decide +kernel
theorem dJx4a65c_grow_92f84_30 : decode cJx4a65c_grow_92f84 30 = .ok (.istore_n 3, 1) := by decide +kernel
theorem dJx4a65c_grow_92f84_31 : decode cJx4a65c_grow_92f84 31 = .ok (.aload_n 0, 1) := by decide +kernel
theorem dJx4a65c_grow_92f84_32 : decode cJx4a65c_grow_92f84 32 = .ok (.aload_n 0, 1) := by decide +kernel
theorem dJx4a65c_grow_92f84_33 : decode cJx4a65c_grow_92f84 33 = .ok (.getfield 9, 3) := by decide +kernel
theorem dJx4a65c_grow_92f84_36 : decode cJx4a65c_grow_92f84 36 = .ok (.iload_n 3, 1) := by decide +kernel
theorem dJx4a65c_grow_92f84_37 : decode cJx4a65c_grow_92f84 37 = .ok (.invokestatic 66, 3) := by decide +kernel
theorem dJx4a65c_grow_92f84_40 : decode cJx4a65c_grow_92f84 40 = .ok (.dup_x1, 1) := by decide +kernel
theorem dJx4a65c_grow_92f84_41 : decode cJx4a65c_grow_92f84 41 = .ok (.putfield 9, 3) := by decide +kernel
theorem dJx4a65c_grow_92f84_44 : decode cJx4a65c_grow_92f84 44 = .ok (.areturn, 1) := by decide +kernel
theorem dJx4a65c_grow_92f84_45 : decode cJx4a65c_grow_92f84 45 = .ok (.aload_n 0, 1) := by decide +kernel
theorem dJx4a65c_grow_92f84_46 : decode cJx4a65c_grow_92f84 46 = .ok (.bipush 10, 2) := by decide +kernel
theorem dJx4a65c_grow_92f84_48 : decode cJx4a65c_grow_92f84 48 = .ok (.iload_n 1, 1) := by decide +kernel
theorem dJx4a65c_grow_92f84_49 : decode cJx4a65c_grow_92f84 49 = .ok (.invokestatic 79, 3) := by decide +kernel
theorem dJx4a65c_grow_92f84_52 : decode cJx4a65c_grow_92f84 52 = .ok (.anewarray 7, 3) := by decide +kernel
theorem dJx4a65c_grow_92f84_55 : decode cJx4a65c_grow_92f84 55 = .ok (.dup_x1, 1) := by decide +kernel
theorem dJx4a65c_grow_92f84_56 : decode cJx4a65c_grow_92f84 56 = .ok (.putfield 9, 3) := by decide +kernel
theorem dJx4a65c_grow_92f84_59 : decode cJx4a65c_grow_92f84 59 = .ok (.areturn, 1) := by decide +kernel
theorem dJx4a65c_grow_d5877_0 : decode cJx4a65c_grow_d5877 0 = .ok (.aload_n 0, 1) := by decide +kernel
theorem dJx4a65c_grow_d5877_1 : decode cJx4a65c_grow_d5877 1 = .ok (.aload_n 0, 1) := by decide +kernel
theorem dJx4a65c_grow_d5877_2 : decode cJx4a65c_grow_d5877 2 = .ok (.getfield 48, 3) := by decide +kernel
theorem dJx4a65c_grow_d5877_5 : decode cJx4a65c_grow_d5877 5 = .ok (.iconst 1, 1) := by decide +kernel
theorem dJx4a65c_grow_d5877_6 : decode cJx4a65c_grow_d5877 6 = .ok (.iadd, 1) := by decide +kernel
theorem dJx4a65c_grow_d5877_7 : decode cJx4a65c_grow_d5877 7 = .ok (.invokevirtual 69, 3) := by decide +kernel
theorem dJx4a65c_grow_d5877_10 : decode cJx4a65c_grow_d5877 10 = .ok (.areturn, 1) := by decide +kernel
theorem dJx4a65c_size_8abf5_0 : decode cJx4a65c_size_8abf5 0 = .ok (.aload_n 0, 1) := by decide +kernel
theorem dJx4a65c_size_8abf5_1 : decode cJx4a65c_size_8abf5 1 = .ok (.getfield 48, 3) := by decide +kernel
theorem dJx4a65c_size_8abf5_4 : decode cJx4a65c_size_8abf5 4 = .ok (.ireturn, 1) := by decide +kernel
theorem dJx4a65c_elementData_915e3_0 : decode cJx4a65c_elementData_915e3 0 = .ok (.aload_n 0, 1) := by decide +kernel
theorem dJx4a65c_elementData_915e3_1 : decode cJx4a65c_elementData_915e3 1 = .ok (.getfield 9, 3) := by decide +kernel
theorem dJx4a65c_elementData_915e3_4 : decode cJx4a65c_elementData_915e3 4 = .ok (.iload_n 1, 1) := by decide +kernel
theorem dJx4a65c_elementData_915e3_5 : decode cJx4a65c_elementData_915e3 5 = .ok (.aaload, 1) := by decide +kernel
theorem dJx4a65c_elementData_915e3_6 : decode cJx4a65c_elementData_915e3 6 = .ok (.areturn, 1) := by decide +kernel
theorem dJx4a65c_get_915e3_0 : decode cJx4a65c_get_915e3 0 = .ok (.iload_n 1, 1) := by decide +kernel
theorem dJx4a65c_get_915e3_1 : decode cJx4a65c_get_915e3 1 = .ok (.aload_n 0, 1) := by decide +kernel
theorem dJx4a65c_get_915e3_2 : decode cJx4a65c_get_915e3 2 = .ok (.getfield 48, 3) := by decide +kernel
theorem dJx4a65c_get_915e3_5 : decode cJx4a65c_get_915e3 5 = .ok (.invokestatic 118, 3) := by decide +kernel
theorem dJx4a65c_get_915e3_8 : decode cJx4a65c_get_915e3 8 = .ok (.pop, 1) := by decide +kernel
theorem dJx4a65c_get_915e3_9 : decode cJx4a65c_get_915e3 9 = .ok (.aload_n 0, 1) := by decide +kernel
theorem dJx4a65c_get_915e3_10 : decode cJx4a65c_get_915e3 10 = .ok (.iload_n 1, 1) := by decide +kernel
theorem dJx4a65c_get_915e3_11 : decode cJx4a65c_get_915e3 11 = .ok (.invokevirtual 123, 3) := by decide +kernel
theorem dJx4a65c_get_915e3_14 : decode cJx4a65c_get_915e3 14 = .ok (.areturn, 1) := by decide +kernel
theorem dJx4a65c_set_bcc79_0 : decode cJx4a65c_set_bcc79 0 = .ok (.iload_n 1, 1) := by decide +kernel
theorem dJx4a65c_set_bcc79_1 : decode cJx4a65c_set_bcc79 1 = .ok (.aload_n 0, 1) := by decide +kernel
theorem dJx4a65c_set_bcc79_2 : decode cJx4a65c_set_bcc79 2 = .ok (.getfield 48, 3) := by decide +kernel
theorem dJx4a65c_set_bcc79_5 : decode cJx4a65c_set_bcc79 5 = .ok (.invokestatic 118, 3) := by decide +kernel
theorem dJx4a65c_set_bcc79_8 : decode cJx4a65c_set_bcc79 8 = .ok (.pop, 1) := by decide +kernel
theorem dJx4a65c_set_bcc79_9 : decode cJx4a65c_set_bcc79 9 = .ok (.aload_n 0, 1) := by decide +kernel
theorem dJx4a65c_set_bcc79_10 : decode cJx4a65c_set_bcc79 10 = .ok (.iload_n 1, 1) := by decide +kernel
theorem dJx4a65c_set_bcc79_11 : decode cJx4a65c_set_bcc79 11 = .ok (.invokevirtual 123, 3) := by decide +kernel
theorem dJx4a65c_set_bcc79_14 : decode cJx4a65c_set_bcc79 14 = .ok (.astore_n 3, 1) := by decide +kernel
theorem dJx4a65c_set_bcc79_15 : decode cJx4a65c_set_bcc79 15 = .ok (.aload_n 0, 1) := by decide +kernel
theorem dJx4a65c_set_bcc79_16 : decode cJx4a65c_set_bcc79 16 = .ok (.getfield 9, 3) := by decide +kernel
theorem dJx4a65c_set_bcc79_19 : decode cJx4a65c_set_bcc79 19 = .ok (.iload_n 1, 1) := by decide +kernel
theorem dJx4a65c_set_bcc79_20 : decode cJx4a65c_set_bcc79 20 = .ok (.aload_n 2, 1) := by decide +kernel
theorem dJx4a65c_set_bcc79_21 : decode cJx4a65c_set_bcc79 21 = .ok (.aastore, 1) := by decide +kernel
theorem dJx4a65c_set_bcc79_22 : decode cJx4a65c_set_bcc79 22 = .ok (.aload_n 3, 1) := by decide +kernel
theorem dJx4a65c_set_bcc79_23 : decode cJx4a65c_set_bcc79 23 = .ok (.areturn, 1) := by decide +kernel
theorem dJx4a65c_add_72be8_0 : decode cJx4a65c_add_72be8 0 = .ok (.iload_n 3, 1) := by decide +kernel
theorem dJx4a65c_add_72be8_1 : decode cJx4a65c_add_72be8 1 = .ok (.aload_n 2, 1) := by decide +kernel
theorem dJx4a65c_add_72be8_2 : decode cJx4a65c_add_72be8 2 = .ok (.arraylength, 1) := by decide +kernel
theorem dJx4a65c_add_72be8_3 : decode cJx4a65c_add_72be8 3 = .ok (.if_icmp .ne 8, 3) := by decide +kernel
theorem dJx4a65c_add_72be8_6 : decode cJx4a65c_add_72be8 6 = .ok (.aload_n 0, 1) := by decide +kernel
theorem dJx4a65c_add_72be8_7 : decode cJx4a65c_add_72be8 7 = .ok (.invokevirtual 129, 3) := by decide +kernel
theorem dJx4a65c_add_72be8_10 : decode cJx4a65c_add_72be8 10 = .ok (.astore_n 2, 1) := by decide +kernel
theorem dJx4a65c_add_72be8_11 : decode cJx4a65c_add_72be8 11 = .ok (.aload_n 2, 1) := by decide +kernel
theorem dJx4a65c_add_72be8_12 : decode cJx4a65c_add_72be8 12 = .ok (.iload_n 3, 1) := by decide +kernel
theorem dJx4a65c_add_72be8_13 : decode cJx4a65c_add_72be8 13 = .ok (.aload_n 1, 1) := by decide +kernel
theorem dJx4a65c_add_72be8_14 : decode cJx4a65c_add_72be8 14 = .ok (.aastore, 1) := by decide +kernel
theorem dJx4a65c_add_72be8_15 : decode cJx4a65c_add_72be8 15 = .ok (.aload_n 0, 1) := by decide +kernel
theorem dJx4a65c_add_72be8_16 : decode cJx4a65c_add_72be8 16 = .ok (.iload_n 3, 1) := by decide +kernel
theorem dJx4a65c_add_72be8_17 : decode cJx4a65c_add_72be8 17 = .ok (.iconst 1, 1) := by decide +kernel
theorem dJx4a65c_add_72be8_18 : decode cJx4a65c_add_72be8 18 = .ok (.iadd, 1) := by decide +kernel
theorem dJx4a65c_add_72be8_19 : decode cJx4a65c_add_72be8 19 = .ok (.putfield 48, 3) := by decide +kernel
theorem dJx4a65c_add_72be8_22 : decode cJx4a65c_add_72be8 22 = .ok (.return_, 1) := by decide +kernel
theorem dJx4a65c_add_9ea2d_0 : decode cJx4a65c_add_9ea2d 0 = .ok (.aload_n 0, 1) := by decide +kernel
theorem dJx4a65c_add_9ea2d_1 : decode cJx4a65c_add_9ea2d 1 = .ok (.dup, 1) := by decide +kernel
theorem dJx4a65c_add_9ea2d_2 : decode cJx4a65c_add_9ea2d 2 = .ok (.getfield 63, 3) := by decide +kernel
theorem dJx4a65c_add_9ea2d_5 : decode cJx4a65c_add_9ea2d 5 = .ok (.iconst 1, 1) := by decide +kernel
theorem dJx4a65c_add_9ea2d_6 : decode cJx4a65c_add_9ea2d 6 = .ok (.iadd, 1) := by decide +kernel
theorem dJx4a65c_add_9ea2d_7 : decode cJx4a65c_add_9ea2d 7 = .ok (.putfield 63, 3) := by decide +kernel
theorem dJx4a65c_add_9ea2d_10 : decode cJx4a65c_add_9ea2d 10 = .ok (.aload_n 0, 1) := by decide +kernel
theorem dJx4a65c_add_9ea2d_11 : decode cJx4a65c_add_9ea2d 11 = .ok (.aload_n 1, 1) := by decide +kernel
theorem dJx4a65c_add_9ea2d_12 : decode cJx4a65c_add_9ea2d 12 = .ok (.aload_n 0, 1) := by decide +kernel
theorem dJx4a65c_add_9ea2d_13 : decode cJx4a65c_add_9ea2d 13 = .ok (.getfield 9, 3) := by decide +kernel
theorem dJx4a65c_add_9ea2d_16 : decode cJx4a65c_add_9ea2d 16 = .ok (.aload_n 0, 1) := by decide +kernel
theorem dJx4a65c_add_9ea2d_17 : decode cJx4a65c_add_9ea2d 17 = .ok (.getfield 48, 3) := by decide +kernel
theorem dJx4a65c_add_9ea2d_20 : decode cJx4a65c_add_9ea2d 20 = .ok (.invokevirtual 131, 3) := by decide +kernel
theorem dJx4a65c_add_9ea2d_23 : decode cJx4a65c_add_9ea2d 23 = .ok (.iconst 1, 1) := by decide +kernel
theorem dJx4a65c_add_9ea2d_24 : decode cJx4a65c_add_9ea2d 24 = .ok (.ireturn, 1) := by decide +kernel
theorem dJx4a65c_remove_915e3_0 : decode cJx4a65c_remove_915e3 0 = .ok (.iload_n 1, 1) := by decide +kernel
theorem dJx4a65c_remove_915e3_1 : decode cJx4a65c_remove_915e3 1 = .ok (.aload_n 0, 1) := by decide +kernel
theorem dJx4a65c_remove_915e3_2 : decode cJx4a65c_remove_915e3 2 = .ok (.getfield 48, 3) := by decide +kernel
theorem dJx4a65c_remove_915e3_5 : decode cJx4a65c_remove_915e3 5 = .ok (.invokestatic 118, 3) := by decide +kernel
theorem dJx4a65c_remove_915e3_8 : decode cJx4a65c_remove_915e3 8 = .ok (.pop, 1) := by decide +kernel
theorem dJx4a65c_remove_915e3_9 : decode cJx4a65c_remove_915e3 9 = .ok (.aload_n 0, 1) := by decide +kernel
theorem dJx4a65c_remove_915e3_10 : decode cJx4a65c_remove_915e3 10 = .ok (.getfield 9, 3) := by decide +kernel
theorem dJx4a65c_remove_915e3_13 : decode cJx4a65c_remove_915e3 13 = .ok (.astore_n 2, 1) := by decide +kernel
theorem dJx4a65c_remove_915e3_14 : decode cJx4a65c_remove_915e3 14 = .ok (.aload_n 2, 1) := by decide +kernel
theorem dJx4a65c_remove_915e3_15 : decode cJx4a65c_remove_915e3 15 = .ok (.iload_n 1, 1) := by decide +kernel
theorem dJx4a65c_remove_915e3_16 : decode cJx4a65c_remove_915e3 16 = .ok (.aaload, 1) := by decide +kernel
theorem dJx4a65c_remove_915e3_17 : decode cJx4a65c_remove_915e3 17 = .ok (.astore_n 3, 1) := by decide +kernel
theorem dJx4a65c_remove_915e3_18 : decode cJx4a65c_remove_915e3 18 = .ok (.aload_n 0, 1) := by decide +kernel
theorem dJx4a65c_remove_915e3_19 : decode cJx4a65c_remove_915e3 19 = .ok (.aload_n 2, 1) := by decide +kernel
theorem dJx4a65c_remove_915e3_20 : decode cJx4a65c_remove_915e3 20 = .ok (.iload_n 1, 1) := by decide +kernel
theorem dJx4a65c_remove_915e3_21 : decode cJx4a65c_remove_915e3 21 = .ok (.invokevirtual 144, 3) := by decide +kernel
theorem dJx4a65c_remove_915e3_24 : decode cJx4a65c_remove_915e3 24 = .ok (.aload_n 3, 1) := by decide +kernel
theorem dJx4a65c_remove_915e3_25 : decode cJx4a65c_remove_915e3 25 = .ok (.areturn, 1) := by decide +kernel
theorem dJx4a65c_fastRemove_b59b0_0 : decode cJx4a65c_fastRemove_b59b0 0 = .ok (.aload_n 0, 1) := by decide +kernel
theorem dJx4a65c_fastRemove_b59b0_1 : decode cJx4a65c_fastRemove_b59b0 1 = .ok (.dup, 1) := by decide +kernel
theorem dJx4a65c_fastRemove_b59b0_2 : decode cJx4a65c_fastRemove_b59b0 2 = .ok (.getfield 63, 3) := by decide +kernel
theorem dJx4a65c_fastRemove_b59b0_5 : decode cJx4a65c_fastRemove_b59b0 5 = .ok (.iconst 1, 1) := by decide +kernel
theorem dJx4a65c_fastRemove_b59b0_6 : decode cJx4a65c_fastRemove_b59b0 6 = .ok (.iadd, 1) := by decide +kernel
theorem dJx4a65c_fastRemove_b59b0_7 : decode cJx4a65c_fastRemove_b59b0 7 = .ok (.putfield 63, 3) := by decide +kernel
theorem dJx4a65c_fastRemove_b59b0_10 : decode cJx4a65c_fastRemove_b59b0 10 = .ok (.aload_n 0, 1) := by decide +kernel
theorem dJx4a65c_fastRemove_b59b0_11 : decode cJx4a65c_fastRemove_b59b0 11 = .ok (.getfield 48, 3) := by decide +kernel
theorem dJx4a65c_fastRemove_b59b0_14 : decode cJx4a65c_fastRemove_b59b0 14 = .ok (.iconst 1, 1) := by decide +kernel
theorem dJx4a65c_fastRemove_b59b0_15 : decode cJx4a65c_fastRemove_b59b0 15 = .ok (.isub, 1) := by decide +kernel
theorem dJx4a65c_fastRemove_b59b0_16 : decode cJx4a65c_fastRemove_b59b0 16 = .ok (.dup, 1) := by decide +kernel
theorem dJx4a65c_fastRemove_b59b0_17 : decode cJx4a65c_fastRemove_b59b0 17 = .ok (.istore_n 3, 1) := by decide +kernel
theorem dJx4a65c_fastRemove_b59b0_18 : decode cJx4a65c_fastRemove_b59b0 18 = .ok (.iload_n 2, 1) := by decide +kernel
theorem dJx4a65c_fastRemove_b59b0_19 : decode cJx4a65c_fastRemove_b59b0 19 = .ok (.if_icmp .le 15, 3) := by decide +kernel
theorem dJx4a65c_fastRemove_b59b0_22 : decode cJx4a65c_fastRemove_b59b0 22 = .ok (.aload_n 1, 1) := by decide +kernel
theorem dJx4a65c_fastRemove_b59b0_23 : decode cJx4a65c_fastRemove_b59b0 23 = .ok (.iload_n 2, 1) := by decide +kernel
theorem dJx4a65c_fastRemove_b59b0_24 : decode cJx4a65c_fastRemove_b59b0 24 = .ok (.iconst 1, 1) := by decide +kernel
theorem dJx4a65c_fastRemove_b59b0_25 : decode cJx4a65c_fastRemove_b59b0 25 = .ok (.iadd, 1) := by decide +kernel
theorem dJx4a65c_fastRemove_b59b0_26 : decode cJx4a65c_fastRemove_b59b0 26 = .ok (.aload_n 1, 1) := by decide +kernel
theorem dJx4a65c_fastRemove_b59b0_27 : decode cJx4a65c_fastRemove_b59b0 27 = .ok (.iload_n 2, 1) := by decide +kernel
theorem dJx4a65c_fastRemove_b59b0_28 : decode cJx4a65c_fastRemove_b59b0 28 = .ok (.iload_n 3, 1) := by decide +kernel
theorem dJx4a65c_fastRemove_b59b0_29 : decode cJx4a65c_fastRemove_b59b0 29 = .ok (.iload_n 2, 1) := by decide +kernel
theorem dJx4a65c_fastRemove_b59b0_30 : decode cJx4a65c_fastRemove_b59b0 30 = .ok (.isub, 1) := by decide +kernel
theorem dJx4a65c_fastRemove_b59b0_31 : decode cJx4a65c_fastRemove_b59b0 31 = .ok (.invokestatic 112, 3) := by decide +kernel
theorem dJx4a65c_fastRemove_b59b0_34 : decode cJx4a65c_fastRemove_b59b0 34 = .ok (.aload_n 1, 1) := by decide +kernel
theorem dJx4a65c_fastRemove_b59b0_35 : decode cJx4a65c_fastRemove_b59b0 35 = .ok (.aload_n 0, 1) := by decide +kernel
theorem dJx4a65c_fastRemove_b59b0_36 : decode cJx4a65c_fastRemove_b59b0 36 = .ok (.iload_n 3, 1) := by decide +kernel
theorem dJx4a65c_fastRemove_b59b0_37 : decode cJx4a65c_fastRemove_b59b0 37 = .ok (.dup_x1, 1) := by decide +kernel
theorem dJx4a65c_fastRemove_b59b0_38 : decode cJx4a65c_fastRemove_b59b0 38 = .ok (.putfield 48, 3) := by decide +kernel
theorem dJx4a65c_fastRemove_b59b0_41 : decode cJx4a65c_fastRemove_b59b0 41 = .ok (.aconst_null, 1) := by decide +kernel
theorem dJx4a65c_fastRemove_b59b0_42 : decode cJx4a65c_fastRemove_b59b0 42 = .ok (.aastore, 1) := by decide +kernel
theorem dJx4a65c_fastRemove_b59b0_43 : decode cJx4a65c_fastRemove_b59b0 43 = .ok (.return_, 1) := by decide +kernel
theorem dJ7_copyOf_1904c_0 : decode cJ7_copyOf_1904c 0 = .ok (.aload_n 0, 1) := by decide +kernel
theorem dJ7_copyOf_1904c_1 : decode cJ7_copyOf_1904c 1 = .ok (.iload_n 1, 1) := by decide +kernel
theorem dJ7_copyOf_1904c_2 : decode cJ7_copyOf_1904c 2 = .ok (.aload_n 0, 1) := by decide +kernel
theorem dJ7_copyOf_1904c_3 : decode cJ7_copyOf_1904c 3 = .ok (.invokevirtual 86, 3) := by decide +kernel
theorem dJ7_copyOf_1904c_6 : decode cJ7_copyOf_1904c 6 = .ok (.invokestatic 300, 3) := by decide +kernel
theorem dJ7_copyOf_1904c_9 : decode cJ7_copyOf_1904c 9 = .ok (.areturn, 1) := by decide +kernel
theorem dJ7_copyOf_6403c_0 : decode cJ7_copyOf_6403c 0 = .ok (.aload_n 2, 1) := by decide +kernel
theorem dJ7_copyOf_6403c_1 : decode cJ7_copyOf_6403c 1 = .ok (.ldc 110, 2) := by decide +kernel
theorem dJ7_copyOf_6403c_3 : decode cJ7_copyOf_6403c 3 = .ok (.if_acmp .ne 10, 3) := by decide +kernel
theorem dJ7_copyOf_6403c_6 : decode cJ7_copyOf_6403c 6 = .ok (.iload_n 1, 1) := by decide +kernel
theorem dJ7_copyOf_6403c_7 : decode cJ7_copyOf_6403c 7 = .ok (.anewarray 2, 3) := by decide +kernel
theorem dJ7_copyOf_6403c_10 : decode cJ7_copyOf_6403c 10 = .ok (.goto 14, 3) := by decide +kernel
theorem dJ7_copyOf_6403c_13 : decode cJ7_copyOf_6403c 13 = .ok (.aload_n 2, 1) := by decide +kernel
theorem dJ7_copyOf_6403c_14 : decode cJ7_copyOf_6403c 14 = .ok (.invokevirtual 90, 3) := by decide +kernel
theorem dJ7_copyOf_6403c_17 : decode cJ7_copyOf_6403c 17 = .ok (.iload_n 1, 1) := by decide +kernel
theorem dJ7_copyOf_6403c_18 : decode cJ7_copyOf_6403c 18 = .ok (.invokestatic 95, 3) := by decide +kernel
theorem dJ7_copyOf_6403c_21 : decode cJ7_copyOf_6403c 21 = .ok (.checkcast 110, 3) := by decide +kernel
theorem dJ7_copyOf_6403c_24 : decode cJ7_copyOf_6403c 24 = .ok (.astore_n 3, 1) := by decide +kernel
theorem dJ7_copyOf_6403c_25 : decode cJ7_copyOf_6403c 25 = .ok (.aload_n 0, 1) := by decide +kernel
theorem dJ7_copyOf_6403c_26 : decode cJ7_copyOf_6403c 26 = .ok (.iconst 0, 1) := by decide +kernel
theorem dJ7_copyOf_6403c_27 : decode cJ7_copyOf_6403c 27 = .ok (.aload_n 3, 1) := by decide +kernel
theorem dJ7_copyOf_6403c_28 : decode cJ7_copyOf_6403c 28 = .ok (.iconst 0, 1) := by decide +kernel
theorem dJ7_copyOf_6403c_29 : decode cJ7_copyOf_6403c 29 = .ok (.aload_n 0, 1) := by decide +kernel
theorem dJ7_copyOf_6403c_30 : decode cJ7_copyOf_6403c 30 = .ok (.arraylength, 1) := by decide +kernel
theorem dJ7_copyOf_6403c_31 : decode cJ7_copyOf_6403c 31 = .ok (.iload_n 1, 1) := by decide +kernel
theorem dJ7_copyOf_6403c_32 : decode cJ7_copyOf_6403c 32 = .ok (.invokestatic 304, 3) := by decide +kernel
theorem dJ7_copyOf_6403c_35 : decode cJ7_copyOf_6403c 35 = .ok (.invokestatic 150, 3) := by decide +kernel
theorem dJ7_copyOf_6403c_38 : decode cJ7_copyOf_6403c 38 = .ok (.aload_n 3, 1) := by decide +kernel
theorem dJ7_copyOf_6403c_39 : decode cJ7_copyOf_6403c 39 = .ok (.areturn, 1) := by decide +kernel
theorem dJ15_checkIndex_7cf53_0 : decode cJ15_checkIndex_7cf53 0 = .ok (.iload_n 0, 1) := by decide +kernel
theorem dJ15_checkIndex_7cf53_1 : decode cJ15_checkIndex_7cf53 1 = .ok (.iload_n 1, 1) := by decide +kernel
theorem dJ15_checkIndex_7cf53_2 : decode cJ15_checkIndex_7cf53 2 = .ok (.aconst_null, 1) := by decide +kernel
theorem dJ15_checkIndex_7cf53_3 : decode cJ15_checkIndex_7cf53 3 = .ok (.invokestatic 105, 3) := by decide +kernel
theorem dJ15_checkIndex_7cf53_6 : decode cJ15_checkIndex_7cf53 6 = .ok (.ireturn, 1) := by decide +kernel
theorem dJ8_newLength_cabcc_0 : decode cJ8_newLength_cabcc 0 = .ok (.iload_n 0, 1) := by decide +kernel
theorem dJ8_newLength_cabcc_1 : decode cJ8_newLength_cabcc 1 = .ok (.iload_n 1, 1) := by decide +kernel
theorem dJ8_newLength_cabcc_2 : decode cJ8_newLength_cabcc 2 = .ok (.iload_n 2, 1) := by decide +kernel
theorem dJ8_newLength_cabcc_3 : decode cJ8_newLength_cabcc 3 = .ok (.invokestatic 194, 3) := by decide +kernel
theorem dJ8_newLength_cabcc_6 : decode cJ8_newLength_cabcc 6 = .ok (.iadd, 1) := by decide +kernel
theorem dJ8_newLength_cabcc_7 : decode cJ8_newLength_cabcc 7 = .ok (.istore_n 3, 1) := by decide +kernel
theorem dJ8_newLength_cabcc_8 : decode cJ8_newLength_cabcc 8 = .ok (.iconst 0, 1) := by decide +kernel
theorem dJ8_newLength_cabcc_9 : decode cJ8_newLength_cabcc 9 = .ok (.iload_n 3, 1) := by decide +kernel
theorem dJ8_newLength_cabcc_10 : decode cJ8_newLength_cabcc 10 = .ok (.if_icmp .ge 11, 3) := by decide +kernel
theorem dJ8_newLength_cabcc_13 : decode cJ8_newLength_cabcc 13 = .ok (.iload_n 3, 1) := by decide +kernel
theorem dJ8_newLength_cabcc_14 : decode cJ8_newLength_cabcc 14 = .ok (.ldc 200, 2) := by decide +kernel
theorem dJ8_newLength_cabcc_16 : decode cJ8_newLength_cabcc 16 = .ok (.if_icmp .gt 5, 3) := by decide +kernel
theorem dJ8_newLength_cabcc_19 : decode cJ8_newLength_cabcc 19 = .ok (.iload_n 3, 1) := by decide +kernel
theorem dJ8_newLength_cabcc_20 : decode cJ8_newLength_cabcc 20 = .ok (.ireturn, 1) := by decide +kernel
theorem dJ8_newLength_cabcc_21 : decode cJ8_newLength_cabcc 21 = .ok (.iload_n 0, 1) := by decide +kernel
theorem dJ8_newLength_cabcc_22 : decode cJ8_newLength_cabcc 22 = .ok (.iload_n 1, 1) := by decide +kernel
theorem dJ8_newLength_cabcc_23 : decode cJ8_newLength_cabcc 23 = .ok (.invokestatic 201, 3) := by decide +kernel
theorem dJ8_newLength_cabcc_26 : decode cJ8_newLength_cabcc 26 = .ok (.ireturn, 1) := by decide +kernel
theorem dJ8_hugeLength_7cf53_0 : decode cJ8_hugeLength_7cf53 0 = .ok (.iload_n 0, 1) := by decide +kernel
theorem dJ8_hugeLength_7cf53_1 : decode cJ8_hugeLength_7cf53 1 = .ok (.iload_n 1, 1) := by decide +kernel
theorem dJ8_hugeLength_7cf53_2 : decode cJ8_hugeLength_7cf53 2 = .ok (.iadd, 1) := by decide +kernel
theorem dJ8_hugeLength_7cf53_3 : decode cJ8_hugeLength_7cf53 3 = .ok (.istore_n 2, 1) := by decide +kernel
theorem dJ8_hugeLength_7cf53_4 : decode cJ8_hugeLength_7cf53 4 = .ok (.iload_n 2, 1) := by decide +kernel
theorem dJ8_hugeLength_7cf53_5 : decode cJ8_hugeLength_7cf53 5 = .ok (.ifCond .ge 44, 3) := by decide +kernel
theorem dJ8_hugeLength_7cf53_8 : decode cJ8_hugeLength_7cf53 8 = .ok (.new 204, 3) := by decide +kernel
theorem dJ8_hugeLength_7cf53_11 : decode cJ8_hugeLength_7cf53 11 = .ok (.dup, 1) := by decide +kernel
theorem dJ8_hugeLength_7cf53_12 : decode cJ8_hugeLength_7cf53 12 = .ok (.new 89, 3) := by decide +kernel
theorem dJ8_hugeLength_7cf53_15 : decode cJ8_hugeLength_7cf53 15 = .ok (.dup, 1) := by decide +kernel
theorem dJ8_hugeLength_7cf53_16 : decode cJ8_hugeLength_7cf53 16 = .ok (.invokespecial 91, 3) := by decide +kernel
theorem dJ8_hugeLength_7cf53_19 : decode cJ8_hugeLength_7cf53 19 = .ok (.ldc 206, 2) := by decide +kernel
theorem dJ8_hugeLength_7cf53_21 : decode cJ8_hugeLength_7cf53 21 = .ok (.invokevirtual 94, 3) := by decide +kernel
theorem dJ8_hugeLength_7cf53_24 : decode cJ8_hugeLength_7cf53 24 = .ok (.iload_n 0, 1) := by decide +kernel
theorem dJ8_hugeLength_7cf53_25 : decode cJ8_hugeLength_7cf53 25 = .ok (.invokevirtual 98, 3) := by decide +kernel
theorem dJ8_hugeLength_7cf53_28 : decode cJ8_hugeLength_7cf53 28 = .ok (.ldc 208, 2) := by decide +kernel
theorem dJ8_hugeLength_7cf53_30 : decode cJ8_hugeLength_7cf53 30 = .ok (.invokevirtual 94, 3) := by decide +kernel
theorem dJ8_hugeLength_7cf53_33 : decode cJ8_hugeLength_7cf53 33 = .ok (.iload_n 1, 1) := by decide +kernel
theorem dJ8_hugeLength_7cf53_34 : decode cJ8_hugeLength_7cf53 34 = .ok (.invokevirtual 98, 3) := by decide +kernel
theorem dJ8_hugeLength_7cf53_37 : decode cJ8_hugeLength_7cf53 37 = .ok (.ldc 210, 2) := by decide +kernel
theorem dJ8_hugeLength_7cf53_39 : decode cJ8_hugeLength_7cf53 39 = .ok (.invokevirtual 94, 3) := by decide +kernel
theorem dJ8_hugeLength_7cf53_42 : decode cJ8_hugeLength_7cf53 42 = .ok (.invokevirtual 101, 3) := by decide +kernel
theorem dJ8_hugeLength_7cf53_45 : decode cJ8_hugeLength_7cf53 45 = .ok (.invokespecial 212, 3) := by decide +kernel
theorem dJ8_hugeLength_7cf53_48 : decode cJ8_hugeLength_7cf53 48 = .ok (.athrow, 1) := by decide +kernel
theorem dJ8_hugeLength_7cf53_49 : decode cJ8_hugeLength_7cf53 49 = .ok (.iload_n 2, 1) := by decide +kernel
theorem dJ8_hugeLength_7cf53_50 : decode cJ8_hugeLength_7cf53 50 = .ok (.ldc 200, 2) := by decide +kernel
theorem dJ8_hugeLength_7cf53_52 : decode cJ8_hugeLength_7cf53 52 = .ok (.if_icmp .gt 6, 3) := by decide +kernel
theorem dJ8_hugeLength_7cf53_55 : decode cJ8_hugeLength_7cf53 55 = .ok (.ldc 200, 2) := by decide +kernel
theorem dJ8_hugeLength_7cf53_57 : decode cJ8_hugeLength_7cf53 57 = .ok (.ireturn, 1) := by decide +kernel
theorem dJ8_hugeLength_7cf53_58 : decode cJ8_hugeLength_7cf53 58 = .ok (.iload_n 2, 1) := by decide +kernel
theorem dJ8_hugeLength_7cf53_59 : decode cJ8_hugeLength_7cf53 59 = .ok (.ireturn, 1) := by decide +kernel
theorem dJ3_checkIndex_8e157_0 : decode cJ3_checkIndex_8e157 0 = .ok (.iload_n 0, 1) := by decide +kernel
theorem dJ3_checkIndex_8e157_1 : decode cJ3_checkIndex_8e157 1 = .ok (.ifCond .lt 8, 3) := by decide +kernel
theorem dJ3_checkIndex_8e157_4 : decode cJ3_checkIndex_8e157 4 = .ok (.iload_n 0, 1) := by decide +kernel
theorem dJ3_checkIndex_8e157_5 : decode cJ3_checkIndex_8e157 5 = .ok (.iload_n 1, 1) := by decide +kernel
theorem dJ3_checkIndex_8e157_6 : decode cJ3_checkIndex_8e157 6 = .ok (.if_icmp .lt 10, 3) := by decide +kernel
theorem dJ3_checkIndex_8e157_9 : decode cJ3_checkIndex_8e157 9 = .ok (.aload_n 2, 1) := by decide +kernel
theorem dJ3_checkIndex_8e157_10 : decode cJ3_checkIndex_8e157 10 = .ok (.iload_n 0, 1) := by decide +kernel
theorem dJ3_checkIndex_8e157_11 : decode cJ3_checkIndex_8e157 11 = .ok (.iload_n 1, 1) := by decide +kernel
theorem dJ3_checkIndex_8e157_12 : decode cJ3_checkIndex_8e157 12 = .ok (.invokestatic 95, 3) := by decide +kernel
theorem dJ3_checkIndex_8e157_15 : decode cJ3_checkIndex_8e157 15 = .ok (.athrow, 1) := by decide +kernel
theorem dJ3_checkIndex_8e157_16 : decode cJ3_checkIndex_8e157 16 = .ok (.iload_n 0, 1) := by decide +kernel
theorem dJ3_checkIndex_8e157_17 : decode cJ3_checkIndex_8e157 17 = .ok (.ireturn, 1) := by decide +kernel
end
section
theorem dX5_init_0 : decode cX5_init 0 = .ok (.aload_n 0, 1) := by decide +kernel
theorem dX5_init_1 : decode cX5_init 1 = .ok (.invokespecial 1, 3) := by decide +kernel
theorem dX5_init_4 : decode cX5_init 4 = .ok (.aload_n 0, 1) := by decide +kernel
theorem dX5_init_5 : decode cX5_init 5 = .ok (.new 7, 3) := by decide +kernel
theorem dX5_init_8 : decode cX5_init 8 = .ok (.dup, 1) := by decide +kernel
theorem dX5_init_9 : decode cX5_init 9 = .ok (.invokespecial 9, 3) := by decide +kernel
theorem dX5_init_12 : decode cX5_init 12 = .ok (.putfield 10, 3) := by decide +kernel
theorem dX5_init_15 : decode cX5_init 15 = .ok (.aload_n 0, 1) := by decide +kernel
theorem dX5_init_16 : decode cX5_init 16 = .ok (.aconst_null, 1) := by decide +kernel
theorem dX5_init_17 : decode cX5_init 17 = .ok (.putfield 16, 3) := by decide +kernel
theorem dX5_init_20 : decode cX5_init 20 = .ok (.aload_n 0, 1) := by decide +kernel
theorem dX5_init_21 : decode cX5_init 21 = .ok (.new 19, 3) := by decide +kernel
theorem dX5_init_24 : decode cX5_init 24 = .ok (.dup, 1) := by decide +kernel
theorem dX5_init_25 : decode cX5_init 25 = .ok (.invokespecial 21, 3) := by decide +kernel
theorem dX5_init_28 : decode cX5_init 28 = .ok (.putfield 22, 3) := by decide +kernel
theorem dX5_init_31 : decode cX5_init 31 = .ok (.aload_n 0, 1) := by decide +kernel
theorem dX5_init_32 : decode cX5_init 32 = .ok (.new 26, 3) := by decide +kernel
theorem dX5_init_35 : decode cX5_init 35 = .ok (.dup, 1) := by decide +kernel
theorem dX5_init_36 : decode cX5_init 36 = .ok (.invokespecial 28, 3) := by decide +kernel
theorem dX5_init_39 : decode cX5_init 39 = .ok (.putfield 29, 3) := by decide +kernel
theorem dX5_init_42 : decode cX5_init 42 = .ok (.aload_n 0, 1) := by decide +kernel
theorem dX5_init_43 : decode cX5_init 43 = .ok (.new 33, 3) := by decide +kernel
theorem dX5_init_46 : decode cX5_init 46 = .ok (.dup, 1) := by decide +kernel
theorem dX5_init_47 : decode cX5_init 47 = .ok (.invokespecial 35, 3) := by decide +kernel
theorem dX5_init_50 : decode cX5_init 50 = .ok (.putfield 36, 3) := by decide +kernel
theorem dX5_init_53 : decode cX5_init 53 = .ok (.aload_n 0, 1) := by decide +kernel
theorem dX5_init_54 : decode cX5_init 54 = .ok (.iconst (-1), 1) := by decide +kernel
theorem dX5_init_55 : decode cX5_init 55 = .ok (.putfield 40, 3) := by decide +kernel
theorem dX5_init_58 : decode cX5_init 58 = .ok (.aload_n 0, 1) := by decide +kernel
theorem dX5_init_59 : decode cX5_init 59 = .ok (.iconst (-1), 1) := by decide +kernel
theorem dX5_init_60 : decode cX5_init 60 = .ok (.putfield 44, 3) := by decide +kernel
theorem dX5_init_63 : decode cX5_init 63 = .ok (.return_, 1) := by decide +kernel
theorem dX5_rows_0 : decode cX5_rows 0 = .ok (.iload_n 1, 1) := by decide +kernel
theorem dX5_rows_1 : decode cX5_rows 1 = .ok (.invokestatic 47, 3) := by decide +kernel
theorem dX5_rows_4 : decode cX5_rows 4 = .ok (.ifCond .eq 15, 3) := by decide +kernel
theorem dX5_rows_7 : decode cX5_rows 7 = .ok (.iload_n 2, 1) := by decide +kernel
theorem dX5_rows_8 : decode cX5_rows 8 = .ok (.iconst 1, 1) := by decide +kernel
theorem dX5_rows_9 : decode cX5_rows 9 = .ok (.if_icmp .lt 10, 3) := by decide +kernel
theorem dX5_rows_12 : decode cX5_rows 12 = .ok (.iload_n 2, 1) := by decide +kernel
theorem dX5_rows_13 : decode cX5_rows 13 = .ok (.sipush 500, 3) := by decide +kernel
theorem dX5_rows_16 : decode cX5_rows 16 = .ok (.if_icmp .le 5, 3) := by decide +kernel
theorem dX5_rows_19 : decode cX5_rows 19 = .ok (.iconst (-1), 1) := by decide +kernel
theorem dX5_rows_20 : decode cX5_rows 20 = .ok (.ireturn, 1) := by decide +kernel
theorem dX5_rows_21 : decode cX5_rows 21 = .ok (.aload_n 0, 1) := by decide +kernel
theorem dX5_rows_22 : decode cX5_rows 22 = .ok (.invokevirtual 51, 3) := by decide +kernel
theorem dX5_rows_25 : decode cX5_rows 25 = .ok (.aload_n 0, 1) := by decide +kernel
theorem dX5_rows_26 : decode cX5_rows 26 = .ok (.getfield 10, 3) := by decide +kernel
theorem dX5_rows_29 : decode cX5_rows 29 = .ok (.getfield 54, 3) := by decide +kernel
theorem dX5_rows_32 : decode cX5_rows 32 = .ok (.iload_n 1, 1) := by decide +kernel
theorem dX5_rows_33 : decode cX5_rows 33 = .ok (.iaload, 1) := by decide +kernel
theorem dX5_rows_34 : decode cX5_rows 34 = .ok (.istore_n 3, 1) := by decide +kernel
theorem dX5_rows_35 : decode cX5_rows 35 = .ok (.aload_n 0, 1) := by decide +kernel
theorem dX5_rows_36 : decode cX5_rows 36 = .ok (.getfield 10, 3) := by decide +kernel
theorem dX5_rows_39 : decode cX5_rows 39 = .ok (.getfield 54, 3) := by decide +kernel
theorem dX5_rows_42 : decode cX5_rows 42 = .ok (.iload_n 1, 1) := by decide +kernel
theorem dX5_rows_43 : decode cX5_rows 43 = .ok (.iload_n 2, 1) := by decide +kernel
theorem dX5_rows_44 : decode cX5_rows 44 = .ok (.iastore, 1) := by decide +kernel
theorem dX5_rows_45 : decode cX5_rows 45 = .ok (.iload_n 3, 1) := by decide +kernel
theorem dX5_rows_46 : decode cX5_rows 46 = .ok (.ireturn, 1) := by decide +kernel
theorem dX5_part_0 : decode cX5_part 0 = .ok (.iload_n 1, 1) := by decide +kernel
theorem dX5_part_1 : decode cX5_part 1 = .ok (.iload_n 2, 1) := by decide +kernel
theorem dX5_part_2 : decode cX5_part 2 = .ok (.invokestatic 58, 3) := by decide +kernel
theorem dX5_part_5 : decode cX5_part 5 = .ok (.ifCond .eq 14, 3) := by decide +kernel
theorem dX5_part_8 : decode cX5_part 8 = .ok (.iload_n 3, 1) := by decide +kernel
theorem dX5_part_9 : decode cX5_part 9 = .ok (.iconst 1, 1) := by decide +kernel
theorem dX5_part_10 : decode cX5_part 10 = .ok (.if_icmp .lt 9, 3) := by decide +kernel
theorem dX5_part_13 : decode cX5_part 13 = .ok (.iload_n 3, 1) := by decide +kernel
theorem dX5_part_14 : decode cX5_part 14 = .ok (.bipush 100, 2) := by decide +kernel
theorem dX5_part_16 : decode cX5_part 16 = .ok (.if_icmp .le 5, 3) := by decide +kernel
theorem dX5_part_19 : decode cX5_part 19 = .ok (.iconst (-1), 1) := by decide +kernel
theorem dX5_part_20 : decode cX5_part 20 = .ok (.ireturn, 1) := by decide +kernel
theorem dX5_part_21 : decode cX5_part 21 = .ok (.aload_n 0, 1) := by decide +kernel
theorem dX5_part_22 : decode cX5_part 22 = .ok (.invokevirtual 51, 3) := by decide +kernel
theorem dX5_part_25 : decode cX5_part 25 = .ok (.aload_n 0, 1) := by decide +kernel
theorem dX5_part_26 : decode cX5_part 26 = .ok (.getfield 10, 3) := by decide +kernel
theorem dX5_part_29 : decode cX5_part 29 = .ok (.getfield 62, 3) := by decide +kernel
theorem dX5_part_32 : decode cX5_part 32 = .ok (.iload_n 1, 1) := by decide +kernel
theorem dX5_part_33 : decode cX5_part 33 = .ok (.aaload, 1) := by decide +kernel
theorem dX5_part_34 : decode cX5_part 34 = .ok (.iload_n 2, 1) := by decide +kernel
theorem dX5_part_35 : decode cX5_part 35 = .ok (.iload_n 3, 1) := by decide +kernel
theorem dX5_part_36 : decode cX5_part 36 = .ok (.iastore, 1) := by decide +kernel
theorem dX5_part_37 : decode cX5_part 37 = .ok (.aload_n 0, 1) := by decide +kernel
theorem dX5_part_38 : decode cX5_part 38 = .ok (.getfield 10, 3) := by decide +kernel
theorem dX5_part_41 : decode cX5_part 41 = .ok (.getfield 62, 3) := by decide +kernel
theorem dX5_part_44 : decode cX5_part 44 = .ok (.iload_n 2, 1) := by decide +kernel
theorem dX5_part_45 : decode cX5_part 45 = .ok (.aaload, 1) := by decide +kernel
theorem dX5_part_46 : decode cX5_part 46 = .ok (.iload_n 1, 1) := by decide +kernel
theorem dX5_part_47 : decode cX5_part 47 = .ok (.iload_n 3, 1) := by decide +kernel
theorem dX5_part_48 : decode cX5_part 48 = .ok (.iastore, 1) := by decide +kernel
theorem dX5_part_49 : decode cX5_part 49 = .ok (.aload_n 0, 1) := by decide +kernel
theorem dX5_part_50 : decode cX5_part 50 = .ok (.getfield 10, 3) := by decide +kernel
theorem dX5_part_53 : decode cX5_part 53 = .ok (.iload_n 1, 1) := by decide +kernel
theorem dX5_part_54 : decode cX5_part 54 = .ok (.invokestatic 66, 3) := by decide +kernel
theorem dX5_part_57 : decode cX5_part 57 = .ok (.iload_n 2, 1) := by decide +kernel
theorem dX5_part_58 : decode cX5_part 58 = .ok (.invokestatic 66, 3) := by decide +kernel
theorem dX5_part_61 : decode cX5_part 61 = .ok (.ior, 1) := by decide +kernel
theorem dX5_part_62 : decode cX5_part 62 = .ok (.invokevirtual 70, 3) := by decide +kernel
theorem dX5_part_65 : decode cX5_part 65 = .ok (.ireturn, 1) := by decide +kernel
theorem dX5_count_0 : decode cX5_count 0 = .ok (.iload_n 1, 1) := by decide +kernel
theorem dX5_count_1 : decode cX5_count 1 = .ok (.invokestatic 47, 3) := by decide +kernel
theorem dX5_count_4 : decode cX5_count 4 = .ok (.ifCond .ne 5, 3) := by decide +kernel
theorem dX5_count_7 : decode cX5_count 7 = .ok (.iconst (-1), 1) := by decide +kernel
theorem dX5_count_8 : decode cX5_count 8 = .ok (.ireturn, 1) := by decide +kernel
theorem dX5_count_9 : decode cX5_count 9 = .ok (.aload_n 0, 1) := by decide +kernel
theorem dX5_count_10 : decode cX5_count 10 = .ok (.invokevirtual 51, 3) := by decide +kernel
theorem dX5_count_13 : decode cX5_count 13 = .ok (.aload_n 0, 1) := by decide +kernel
theorem dX5_count_14 : decode cX5_count 14 = .ok (.getfield 10, 3) := by decide +kernel
theorem dX5_count_17 : decode cX5_count 17 = .ok (.iload_n 1, 1) := by decide +kernel
theorem dX5_count_18 : decode cX5_count 18 = .ok (.invokestatic 66, 3) := by decide +kernel
theorem dX5_count_21 : decode cX5_count 21 = .ok (.invokevirtual 73, 3) := by decide +kernel
theorem dX5_count_24 : decode cX5_count 24 = .ok (.ireturn, 1) := by decide +kernel
theorem dX5_run_0 : decode cX5_run 0 = .ok (.iload_n 1, 1) := by decide +kernel
theorem dX5_run_1 : decode cX5_run 1 = .ok (.invokestatic 76, 3) := by decide +kernel
theorem dX5_run_4 : decode cX5_run 4 = .ok (.ifCond .ne 5, 3) := by decide +kernel
theorem dX5_run_7 : decode cX5_run 7 = .ok (.iconst (-1), 1) := by decide +kernel
theorem dX5_run_8 : decode cX5_run 8 = .ok (.ireturn, 1) := by decide +kernel
theorem dX5_run_9 : decode cX5_run 9 = .ok (.aload_n 0, 1) := by decide +kernel
theorem dX5_run_10 : decode cX5_run 10 = .ok (.invokevirtual 51, 3) := by decide +kernel
theorem dX5_run_13 : decode cX5_run 13 = .ok (.aload_n 0, 1) := by decide +kernel
theorem dX5_run_14 : decode cX5_run 14 = .ok (.iload_n 1, 1) := by decide +kernel
theorem dX5_run_15 : decode cX5_run 15 = .ok (.invokevirtual 79, 3) := by decide +kernel
theorem dX5_run_18 : decode cX5_run 18 = .ok (.invokestatic 83, 3) := by decide +kernel
theorem dX5_run_21 : decode cX5_run 21 = .ok (.ireturn, 1) := by decide +kernel
theorem dX5_pin_0 : decode cX5_pin 0 = .ok (.iload_n 1, 1) := by decide +kernel
theorem dX5_pin_1 : decode cX5_pin 1 = .ok (.invokestatic 76, 3) := by decide +kernel
theorem dX5_pin_4 : decode cX5_pin 4 = .ok (.ifCond .ne 5, 3) := by decide +kernel
theorem dX5_pin_7 : decode cX5_pin 7 = .ok (.iconst (-1), 1) := by decide +kernel
theorem dX5_pin_8 : decode cX5_pin 8 = .ok (.ireturn, 1) := by decide +kernel
theorem dX5_pin_9 : decode cX5_pin 9 = .ok (.aload_n 0, 1) := by decide +kernel
theorem dX5_pin_10 : decode cX5_pin 10 = .ok (.getfield 10, 3) := by decide +kernel
theorem dX5_pin_13 : decode cX5_pin 13 = .ok (.iload_n 1, 1) := by decide +kernel
theorem dX5_pin_14 : decode cX5_pin 14 = .ok (.invokevirtual 87, 3) := by decide +kernel
theorem dX5_pin_17 : decode cX5_pin 17 = .ok (.istore_n 2, 1) := by decide +kernel
theorem dX5_pin_18 : decode cX5_pin 18 = .ok (.iload_n 2, 1) := by decide +kernel
theorem dX5_pin_19 : decode cX5_pin 19 = .ok (.iconst (-1), 1) := by decide +kernel
theorem dX5_pin_20 : decode cX5_pin 20 = .ok (.if_icmp .ne 6, 3) := by decide +kernel
theorem dX5_pin_23 : decode cX5_pin 23 = .ok (.bipush (-2), 2) := by decide +kernel
theorem dX5_pin_25 : decode cX5_pin 25 = .ok (.ireturn, 1) := by decide +kernel
theorem dX5_pin_26 : decode cX5_pin 26 = .ok (.aload_n 0, 1) := by decide +kernel
theorem dX5_pin_27 : decode cX5_pin 27 = .ok (.invokevirtual 51, 3) := by decide +kernel
theorem dX5_pin_30 : decode cX5_pin 30 = .ok (.aload_n 0, 1) := by decide +kernel
theorem dX5_pin_31 : decode cX5_pin 31 = .ok (.getfield 10, 3) := by decide +kernel
theorem dX5_pin_34 : decode cX5_pin 34 = .ok (.getfield 90, 3) := by decide +kernel
theorem dX5_pin_37 : decode cX5_pin 37 = .ok (.iload_n 2, 1) := by decide +kernel
theorem dX5_pin_38 : decode cX5_pin 38 = .ok (.invokevirtual 93, 3) := by decide +kernel
theorem dX5_pin_41 : decode cX5_pin 41 = .ok (.checkcast 97, 3) := by decide +kernel
theorem dX5_pin_44 : decode cX5_pin 44 = .ok (.getfield 99, 3) := by decide +kernel
theorem dX5_pin_47 : decode cX5_pin 47 = .ok (.ifCond .ne 7, 3) := by decide +kernel
theorem dX5_pin_50 : decode cX5_pin 50 = .ok (.iconst 1, 1) := by decide +kernel
theorem dX5_pin_51 : decode cX5_pin 51 = .ok (.goto 4, 3) := by decide +kernel
theorem dX5_pin_54 : decode cX5_pin 54 = .ok (.iconst 0, 1) := by decide +kernel
theorem dX5_pin_55 : decode cX5_pin 55 = .ok (.istore_n 3, 1) := by decide +kernel
theorem dX5_pin_56 : decode cX5_pin 56 = .ok (.aload_n 0, 1) := by decide +kernel
theorem dX5_pin_57 : decode cX5_pin 57 = .ok (.getfield 10, 3) := by decide +kernel
theorem dX5_pin_60 : decode cX5_pin 60 = .ok (.iload_n 2, 1) := by decide +kernel
theorem dX5_pin_61 : decode cX5_pin 61 = .ok (.iload_n 3, 1) := by decide +kernel
theorem dX5_pin_62 : decode cX5_pin 62 = .ok (.invokevirtual 103, 3) := by decide +kernel
theorem dX5_pin_65 : decode cX5_pin 65 = .ok (.aload_n 0, 1) := by decide +kernel
theorem dX5_pin_66 : decode cX5_pin 66 = .ok (.getfield 10, 3) := by decide +kernel
theorem dX5_pin_69 : decode cX5_pin 69 = .ok (.invokevirtual 107, 3) := by decide +kernel
theorem dX5_pin_72 : decode cX5_pin 72 = .ok (.pop, 1) := by decide +kernel
theorem dX5_pin_73 : decode cX5_pin 73 = .ok (.iload_n 3, 1) := by decide +kernel
theorem dX5_pin_74 : decode cX5_pin 74 = .ok (.ifCond .eq 7, 3) := by decide +kernel
theorem dX5_pin_77 : decode cX5_pin 77 = .ok (.iconst 1, 1) := by decide +kernel
theorem dX5_pin_78 : decode cX5_pin 78 = .ok (.goto 4, 3) := by decide +kernel
theorem dX5_pin_81 : decode cX5_pin 81 = .ok (.iconst 0, 1) := by decide +kernel
theorem dX5_pin_82 : decode cX5_pin 82 = .ok (.ireturn, 1) := by decide +kernel
theorem dX5_forget_0 : decode cX5_forget 0 = .ok (.iload_n 1, 1) := by decide +kernel
theorem dX5_forget_1 : decode cX5_forget 1 = .ok (.invokestatic 76, 3) := by decide +kernel
theorem dX5_forget_4 : decode cX5_forget 4 = .ok (.ifCond .ne 5, 3) := by decide +kernel
theorem dX5_forget_7 : decode cX5_forget 7 = .ok (.iconst (-1), 1) := by decide +kernel
theorem dX5_forget_8 : decode cX5_forget 8 = .ok (.ireturn, 1) := by decide +kernel
theorem dX5_forget_9 : decode cX5_forget 9 = .ok (.aload_n 0, 1) := by decide +kernel
theorem dX5_forget_10 : decode cX5_forget 10 = .ok (.getfield 10, 3) := by decide +kernel
theorem dX5_forget_13 : decode cX5_forget 13 = .ok (.iload_n 1, 1) := by decide +kernel
theorem dX5_forget_14 : decode cX5_forget 14 = .ok (.invokevirtual 87, 3) := by decide +kernel
theorem dX5_forget_17 : decode cX5_forget 17 = .ok (.istore_n 2, 1) := by decide +kernel
theorem dX5_forget_18 : decode cX5_forget 18 = .ok (.iload_n 2, 1) := by decide +kernel
theorem dX5_forget_19 : decode cX5_forget 19 = .ok (.iconst (-1), 1) := by decide +kernel
theorem dX5_forget_20 : decode cX5_forget 20 = .ok (.if_icmp .ne 6, 3) := by decide +kernel
theorem dX5_forget_23 : decode cX5_forget 23 = .ok (.bipush (-2), 2) := by decide +kernel
theorem dX5_forget_25 : decode cX5_forget 25 = .ok (.ireturn, 1) := by decide +kernel
theorem dX5_forget_26 : decode cX5_forget 26 = .ok (.aload_n 0, 1) := by decide +kernel
theorem dX5_forget_27 : decode cX5_forget 27 = .ok (.invokevirtual 51, 3) := by decide +kernel
theorem dX5_forget_30 : decode cX5_forget 30 = .ok (.aload_n 0, 1) := by decide +kernel
theorem dX5_forget_31 : decode cX5_forget 31 = .ok (.getfield 10, 3) := by decide +kernel
theorem dX5_forget_34 : decode cX5_forget 34 = .ok (.dup, 1) := by decide +kernel
theorem dX5_forget_35 : decode cX5_forget 35 = .ok (.getfield 111, 3) := by decide +kernel
theorem dX5_forget_38 : decode cX5_forget 38 = .ok (.lconst 1, 1) := by decide +kernel
theorem dX5_forget_39 : decode cX5_forget 39 = .ok (.ladd, 1) := by decide +kernel
theorem dX5_forget_40 : decode cX5_forget 40 = .ok (.putfield 111, 3) := by decide +kernel
theorem dX5_forget_43 : decode cX5_forget 43 = .ok (.aload_n 0, 1) := by decide +kernel
theorem dX5_forget_44 : decode cX5_forget 44 = .ok (.getfield 10, 3) := by decide +kernel
theorem dX5_forget_47 : decode cX5_forget 47 = .ok (.getfield 90, 3) := by decide +kernel
theorem dX5_forget_50 : decode cX5_forget 50 = .ok (.iload_n 2, 1) := by decide +kernel
theorem dX5_forget_51 : decode cX5_forget 51 = .ok (.invokevirtual 115, 3) := by decide +kernel
theorem dX5_forget_54 : decode cX5_forget 54 = .ok (.checkcast 97, 3) := by decide +kernel
theorem dX5_forget_57 : decode cX5_forget 57 = .ok (.getfield 118, 3) := by decide +kernel
theorem dX5_forget_60 : decode cX5_forget 60 = .ok (.invokestatic 83, 3) := by decide +kernel
theorem dX5_forget_63 : decode cX5_forget 63 = .ok (.ireturn, 1) := by decide +kernel
theorem dX5_drift_0 : decode cX5_drift 0 = .ok (.iload_n 1, 1) := by decide +kernel
theorem dX5_drift_1 : decode cX5_drift 1 = .ok (.bipush 100, 2) := by decide +kernel
theorem dX5_drift_3 : decode cX5_drift 3 = .ok (.if_icmp .lt 10, 3) := by decide +kernel
theorem dX5_drift_6 : decode cX5_drift 6 = .ok (.iload_n 1, 1) := by decide +kernel
theorem dX5_drift_7 : decode cX5_drift 7 = .ok (.sipush 1000, 3) := by decide +kernel
theorem dX5_drift_10 : decode cX5_drift 10 = .ok (.if_icmp .le 5, 3) := by decide +kernel
theorem dX5_drift_13 : decode cX5_drift 13 = .ok (.iconst (-1), 1) := by decide +kernel
theorem dX5_drift_14 : decode cX5_drift 14 = .ok (.ireturn, 1) := by decide +kernel
theorem dX5_drift_15 : decode cX5_drift 15 = .ok (.aload_n 0, 1) := by decide +kernel
theorem dX5_drift_16 : decode cX5_drift 16 = .ok (.invokevirtual 51, 3) := by decide +kernel
theorem dX5_drift_19 : decode cX5_drift 19 = .ok (.aload_n 0, 1) := by decide +kernel
theorem dX5_drift_20 : decode cX5_drift 20 = .ok (.getfield 10, 3) := by decide +kernel
theorem dX5_drift_23 : decode cX5_drift 23 = .ok (.iload_n 1, 1) := by decide +kernel
theorem dX5_drift_24 : decode cX5_drift 24 = .ok (.putfield 121, 3) := by decide +kernel
theorem dX5_drift_27 : decode cX5_drift 27 = .ok (.aload_n 0, 1) := by decide +kernel
theorem dX5_drift_28 : decode cX5_drift 28 = .ok (.getfield 10, 3) := by decide +kernel
theorem dX5_drift_31 : decode cX5_drift 31 = .ok (.invokevirtual 107, 3) := by decide +kernel
theorem dX5_drift_34 : decode cX5_drift 34 = .ok (.ireturn, 1) := by decide +kernel
theorem dX5_append_0 : decode cX5_append 0 = .ok (.iload_n 1, 1) := by decide +kernel
theorem dX5_append_1 : decode cX5_append 1 = .ok (.bipush 33, 2) := by decide +kernel
theorem dX5_append_3 : decode cX5_append 3 = .ok (.if_icmp .lt 9, 3) := by decide +kernel
theorem dX5_append_6 : decode cX5_append 6 = .ok (.iload_n 1, 1) := by decide +kernel
theorem dX5_append_7 : decode cX5_append 7 = .ok (.bipush 126, 2) := by decide +kernel
theorem dX5_append_9 : decode cX5_append 9 = .ok (.if_icmp .le 5, 3) := by decide +kernel
theorem dX5_append_12 : decode cX5_append 12 = .ok (.iconst (-1), 1) := by decide +kernel
theorem dX5_append_13 : decode cX5_append 13 = .ok (.ireturn, 1) := by decide +kernel
theorem dX5_append_14 : decode cX5_append 14 = .ok (.aload_n 0, 1) := by decide +kernel
theorem dX5_append_15 : decode cX5_append 15 = .ok (.getfield 36, 3) := by decide +kernel
theorem dX5_append_18 : decode cX5_append 18 = .ok (.iload_n 1, 1) := by decide +kernel
theorem dX5_append_19 : decode cX5_append 19 = .ok (.i2c, 1) := by decide +kernel
theorem dX5_append_20 : decode cX5_append 20 = .ok (.invokevirtual 124, 3) := by decide +kernel
theorem dX5_append_23 : decode cX5_append 23 = .ok (.ifCond .eq 13, 3) := by decide +kernel
theorem dX5_append_26 : decode cX5_append 26 = .ok (.aload_n 0, 1) := by decide +kernel
theorem dX5_append_27 : decode cX5_append 27 = .ok (.getfield 36, 3) := by decide +kernel
theorem dX5_append_30 : decode cX5_append 30 = .ok (.getfield 128, 3) := by decide +kernel
theorem dX5_append_33 : decode cX5_append 33 = .ok (.goto 5, 3) := by decide +kernel
theorem dX5_append_36 : decode cX5_append 36 = .ok (.bipush (-3), 2) := by decide +kernel
theorem dX5_append_38 : decode cX5_append 38 = .ok (.ireturn, 1) := by decide +kernel
theorem dX5_clear_0 : decode cX5_clear 0 = .ok (.aload_n 0, 1) := by decide +kernel
theorem dX5_clear_1 : decode cX5_clear 1 = .ok (.getfield 36, 3) := by decide +kernel
theorem dX5_clear_4 : decode cX5_clear 4 = .ok (.getfield 128, 3) := by decide +kernel
theorem dX5_clear_7 : decode cX5_clear 7 = .ok (.istore_n 1, 1) := by decide +kernel
theorem dX5_clear_8 : decode cX5_clear 8 = .ok (.aload_n 0, 1) := by decide +kernel
theorem dX5_clear_9 : decode cX5_clear 9 = .ok (.getfield 36, 3) := by decide +kernel
theorem dX5_clear_12 : decode cX5_clear 12 = .ok (.iconst 0, 1) := by decide +kernel
theorem dX5_clear_13 : decode cX5_clear 13 = .ok (.putfield 128, 3) := by decide +kernel
theorem dX5_clear_16 : decode cX5_clear 16 = .ok (.iload_n 1, 1) := by decide +kernel
theorem dX5_clear_17 : decode cX5_clear 17 = .ok (.ireturn, 1) := by decide +kernel
theorem dX5_fault_0 : decode cX5_fault 0 = .ok (.new 131, 3) := by decide +kernel
theorem dX5_fault_3 : decode cX5_fault 3 = .ok (.dup, 1) := by decide +kernel
theorem dX5_fault_4 : decode cX5_fault 4 = .ok (.aload_n 0, 1) := by decide +kernel
theorem dX5_fault_5 : decode cX5_fault 5 = .ok (.getfield 36, 3) := by decide +kernel
theorem dX5_fault_8 : decode cX5_fault 8 = .ok (.invokespecial 133, 3) := by decide +kernel
theorem dX5_fault_11 : decode cX5_fault 11 = .ok (.invokevirtual 136, 3) := by decide +kernel
theorem dX5_fault_14 : decode cX5_fault 14 = .ok (.istore_n 1, 1) := by decide +kernel
theorem dX5_fault_15 : decode cX5_fault 15 = .ok (.iload_n 1, 1) := by decide +kernel
theorem dX5_fault_16 : decode cX5_fault 16 = .ok (.iconst (-1), 1) := by decide +kernel
theorem dX5_fault_17 : decode cX5_fault 17 = .ok (.if_icmp .ne 8, 3) := by decide +kernel
theorem dX5_fault_20 : decode cX5_fault 20 = .ok (.bipush (-4), 2) := by decide +kernel
theorem dX5_fault_22 : decode cX5_fault 22 = .ok (.goto 4, 3) := by decide +kernel
theorem dX5_fault_25 : decode cX5_fault 25 = .ok (.iload_n 1, 1) := by decide +kernel
theorem dX5_fault_26 : decode cX5_fault 26 = .ok (.ireturn, 1) := by decide +kernel
theorem dX5_carryOut_0 : decode cX5_carryOut 0 = .ok (.new 131, 3) := by decide +kernel
theorem dX5_carryOut_3 : decode cX5_carryOut 3 = .ok (.dup, 1) := by decide +kernel
theorem dX5_carryOut_4 : decode cX5_carryOut 4 = .ok (.aload_n 0, 1) := by decide +kernel
theorem dX5_carryOut_5 : decode cX5_carryOut 5 = .ok (.getfield 36, 3) := by decide +kernel
theorem dX5_carryOut_8 : decode cX5_carryOut 8 = .ok (.invokespecial 133, 3) := by decide +kernel
theorem dX5_carryOut_11 : decode cX5_carryOut 11 = .ok (.invokevirtual 136, 3) := by decide +kernel
theorem dX5_carryOut_14 : decode cX5_carryOut 14 = .ok (.iconst (-1), 1) := by decide +kernel
theorem dX5_carryOut_15 : decode cX5_carryOut 15 = .ok (.if_icmp .eq 6, 3) := by decide +kernel
theorem dX5_carryOut_18 : decode cX5_carryOut 18 = .ok (.bipush (-2), 2) := by decide +kernel
theorem dX5_carryOut_20 : decode cX5_carryOut 20 = .ok (.ireturn, 1) := by decide +kernel
theorem dX5_carryOut_21 : decode cX5_carryOut 21 = .ok (.aload_n 0, 1) := by decide +kernel
theorem dX5_carryOut_22 : decode cX5_carryOut 22 = .ok (.invokevirtual 51, 3) := by decide +kernel
theorem dX5_carryOut_25 : decode cX5_carryOut 25 = .ok (.aload_n 0, 1) := by decide +kernel
theorem dX5_carryOut_26 : decode cX5_carryOut 26 = .ok (.iconst (-1), 1) := by decide +kernel
theorem dX5_carryOut_27 : decode cX5_carryOut 27 = .ok (.putfield 40, 3) := by decide +kernel
theorem dX5_carryOut_30 : decode cX5_carryOut 30 = .ok (.aload_n 0, 1) := by decide +kernel
theorem dX5_carryOut_31 : decode cX5_carryOut 31 = .ok (.iconst (-1), 1) := by decide +kernel
theorem dX5_carryOut_32 : decode cX5_carryOut 32 = .ok (.putfield 44, 3) := by decide +kernel
theorem dX5_carryOut_35 : decode cX5_carryOut 35 = .ok (.new 131, 3) := by decide +kernel
theorem dX5_carryOut_38 : decode cX5_carryOut 38 = .ok (.dup, 1) := by decide +kernel
theorem dX5_carryOut_39 : decode cX5_carryOut 39 = .ok (.aload_n 0, 1) := by decide +kernel
theorem dX5_carryOut_40 : decode cX5_carryOut 40 = .ok (.getfield 36, 3) := by decide +kernel
theorem dX5_carryOut_43 : decode cX5_carryOut 43 = .ok (.invokespecial 133, 3) := by decide +kernel
theorem dX5_carryOut_46 : decode cX5_carryOut 46 = .ok (.astore_n 1, 1) := by decide +kernel
theorem dX5_carryOut_47 : decode cX5_carryOut 47 = .ok (.iconst 0, 1) := by decide +kernel
theorem dX5_carryOut_48 : decode cX5_carryOut 48 = .ok (.istore_n 2, 1) := by decide +kernel
theorem dX5_carryOut_49 : decode cX5_carryOut 49 = .ok (.iload_n 2, 1) := by decide +kernel
theorem dX5_carryOut_50 : decode cX5_carryOut 50 = .ok (.bipush 60, 2) := by decide +kernel
theorem dX5_carryOut_52 : decode cX5_carryOut 52 = .ok (.if_icmp .ge 55, 3) := by decide +kernel
theorem dX5_carryOut_55 : decode cX5_carryOut 55 = .ok (.aload_n 0, 1) := by decide +kernel
theorem dX5_carryOut_56 : decode cX5_carryOut 56 = .ok (.getfield 40, 3) := by decide +kernel
theorem dX5_carryOut_59 : decode cX5_carryOut 59 = .ok (.iconst (-1), 1) := by decide +kernel
theorem dX5_carryOut_60 : decode cX5_carryOut 60 = .ok (.if_icmp .ne 47, 3) := by decide +kernel
theorem dX5_carryOut_63 : decode cX5_carryOut 63 = .ok (.aload_n 1, 1) := by decide +kernel
theorem dX5_carryOut_64 : decode cX5_carryOut 64 = .ok (.invokevirtual 139, 3) := by decide +kernel
theorem dX5_carryOut_67 : decode cX5_carryOut 67 = .ok (.ifCond .eq 40, 3) := by decide +kernel
theorem dX5_carryOut_70 : decode cX5_carryOut 70 = .ok (.aload_n 0, 1) := by decide +kernel
theorem dX5_carryOut_71 : decode cX5_carryOut 71 = .ok (.aload_n 1, 1) := by decide +kernel
theorem dX5_carryOut_72 : decode cX5_carryOut 72 = .ok (.invokevirtual 143, 3) := by decide +kernel
theorem dX5_carryOut_75 : decode cX5_carryOut 75 = .ok (.ifCond .eq 16, 3) := by decide +kernel
theorem dX5_carryOut_78 : decode cX5_carryOut 78 = .ok (.iinc 2 1, 3) := by decide +kernel
theorem dX5_carryOut_81 : decode cX5_carryOut 81 = .ok (.aload_n 1, 1) := by decide +kernel
theorem dX5_carryOut_82 : decode cX5_carryOut 82 = .ok (.bipush 59, 2) := by decide +kernel
theorem dX5_carryOut_84 : decode cX5_carryOut 84 = .ok (.invokevirtual 147, 3) := by decide +kernel
theorem dX5_carryOut_87 : decode cX5_carryOut 87 = .ok (.pop, 1) := by decide +kernel
theorem dX5_carryOut_88 : decode cX5_carryOut 88 = .ok (.goto (-39), 3) := by decide +kernel
theorem dX5_carryOut_91 : decode cX5_carryOut 91 = .ok (.aload_n 0, 1) := by decide +kernel
theorem dX5_carryOut_92 : decode cX5_carryOut 92 = .ok (.iload_n 2, 1) := by decide +kernel
theorem dX5_carryOut_93 : decode cX5_carryOut 93 = .ok (.putfield 40, 3) := by decide +kernel
theorem dX5_carryOut_96 : decode cX5_carryOut 96 = .ok (.aload_n 0, 1) := by decide +kernel
theorem dX5_carryOut_97 : decode cX5_carryOut 97 = .ok (.aload_n 1, 1) := by decide +kernel
theorem dX5_carryOut_98 : decode cX5_carryOut 98 = .ok (.getfield 150, 3) := by decide +kernel
theorem dX5_carryOut_101 : decode cX5_carryOut 101 = .ok (.putfield 44, 3) := by decide +kernel
theorem dX5_carryOut_104 : decode cX5_carryOut 104 = .ok (.goto (-55), 3) := by decide +kernel
theorem dX5_carryOut_107 : decode cX5_carryOut 107 = .ok (.aload_n 0, 1) := by decide +kernel
theorem dX5_carryOut_108 : decode cX5_carryOut 108 = .ok (.getfield 36, 3) := by decide +kernel
theorem dX5_carryOut_111 : decode cX5_carryOut 111 = .ok (.iconst 0, 1) := by decide +kernel
theorem dX5_carryOut_112 : decode cX5_carryOut 112 = .ok (.putfield 128, 3) := by decide +kernel
theorem dX5_carryOut_115 : decode cX5_carryOut 115 = .ok (.iload_n 2, 1) := by decide +kernel
theorem dX5_carryOut_116 : decode cX5_carryOut 116 = .ok (.ireturn, 1) := by decide +kernel
theorem dX5_why_0 : decode cX5_why 0 = .ok (.iload_n 1, 1) := by decide +kernel
theorem dX5_why_1 : decode cX5_why 1 = .ok (.ifCond .lt 8, 3) := by decide +kernel
theorem dX5_why_4 : decode cX5_why 4 = .ok (.iload_n 1, 1) := by decide +kernel
theorem dX5_why_5 : decode cX5_why 5 = .ok (.iconst 1, 1) := by decide +kernel
theorem dX5_why_6 : decode cX5_why 6 = .ok (.if_icmp .le 5, 3) := by decide +kernel
theorem dX5_why_9 : decode cX5_why 9 = .ok (.iconst (-1), 1) := by decide +kernel
theorem dX5_why_10 : decode cX5_why 10 = .ok (.ireturn, 1) := by decide +kernel
theorem dX5_why_11 : decode cX5_why 11 = .ok (.aload_n 0, 1) := by decide +kernel
theorem dX5_why_12 : decode cX5_why 12 = .ok (.getfield 40, 3) := by decide +kernel
theorem dX5_why_15 : decode cX5_why 15 = .ok (.iconst (-1), 1) := by decide +kernel
theorem dX5_why_16 : decode cX5_why 16 = .ok (.if_icmp .ne 6, 3) := by decide +kernel
theorem dX5_why_19 : decode cX5_why 19 = .ok (.bipush (-4), 2) := by decide +kernel
theorem dX5_why_21 : decode cX5_why 21 = .ok (.ireturn, 1) := by decide +kernel
theorem dX5_why_22 : decode cX5_why 22 = .ok (.iload_n 1, 1) := by decide +kernel
theorem dX5_why_23 : decode cX5_why 23 = .ok (.ifCond .ne 10, 3) := by decide +kernel
theorem dX5_why_26 : decode cX5_why 26 = .ok (.aload_n 0, 1) := by decide +kernel
theorem dX5_why_27 : decode cX5_why 27 = .ok (.getfield 40, 3) := by decide +kernel
theorem dX5_why_30 : decode cX5_why 30 = .ok (.goto 7, 3) := by decide +kernel
theorem dX5_why_33 : decode cX5_why 33 = .ok (.aload_n 0, 1) := by decide +kernel
theorem dX5_why_34 : decode cX5_why 34 = .ok (.getfield 44, 3) := by decide +kernel
theorem dX5_why_37 : decode cX5_why 37 = .ok (.ireturn, 1) := by decide +kernel
theorem dX5_table_0 : decode cX5_table 0 = .ok (.iload_n 1, 1) := by decide +kernel
theorem dX5_table_1 : decode cX5_table 1 = .ok (.invokestatic 47, 3) := by decide +kernel
theorem dX5_table_4 : decode cX5_table 4 = .ok (.ifCond .ne 5, 3) := by decide +kernel
theorem dX5_table_7 : decode cX5_table 7 = .ok (.iconst (-1), 1) := by decide +kernel
theorem dX5_table_8 : decode cX5_table 8 = .ok (.ireturn, 1) := by decide +kernel
theorem dX5_table_9 : decode cX5_table 9 = .ok (.iload_n 2, 1) := by decide +kernel
theorem dX5_table_10 : decode cX5_table 10 = .ok (.tableswitch 84 0 3 #[30, 40, 50, 72], 30) := by decide +kernel
theorem dX5_table_40 : decode cX5_table 40 = .ok (.aload_n 0, 1) := by decide +kernel
theorem dX5_table_41 : decode cX5_table 41 = .ok (.getfield 10, 3) := by decide +kernel
theorem dX5_table_44 : decode cX5_table 44 = .ok (.getfield 54, 3) := by decide +kernel
theorem dX5_table_47 : decode cX5_table 47 = .ok (.iload_n 1, 1) := by decide +kernel
theorem dX5_table_48 : decode cX5_table 48 = .ok (.iaload, 1) := by decide +kernel
theorem dX5_table_49 : decode cX5_table 49 = .ok (.ireturn, 1) := by decide +kernel
theorem dX5_table_50 : decode cX5_table 50 = .ok (.aload_n 0, 1) := by decide +kernel
theorem dX5_table_51 : decode cX5_table 51 = .ok (.getfield 10, 3) := by decide +kernel
theorem dX5_table_54 : decode cX5_table 54 = .ok (.getfield 153, 3) := by decide +kernel
theorem dX5_table_57 : decode cX5_table 57 = .ok (.iload_n 1, 1) := by decide +kernel
theorem dX5_table_58 : decode cX5_table 58 = .ok (.iaload, 1) := by decide +kernel
theorem dX5_table_59 : decode cX5_table 59 = .ok (.ireturn, 1) := by decide +kernel
theorem dX5_table_60 : decode cX5_table 60 = .ok (.aload_n 0, 1) := by decide +kernel
theorem dX5_table_61 : decode cX5_table 61 = .ok (.getfield 10, 3) := by decide +kernel
theorem dX5_table_64 : decode cX5_table 64 = .ok (.getfield 54, 3) := by decide +kernel
theorem dX5_table_67 : decode cX5_table 67 = .ok (.iload_n 1, 1) := by decide +kernel
theorem dX5_table_68 : decode cX5_table 68 = .ok (.iaload, 1) := by decide +kernel
theorem dX5_table_69 : decode cX5_table 69 = .ok (.aload_n 0, 1) := by decide +kernel
theorem dX5_table_70 : decode cX5_table 70 = .ok (.getfield 10, 3) := by decide +kernel
theorem dX5_table_73 : decode cX5_table 73 = .ok (.getfield 153, 3) := by decide +kernel
theorem dX5_table_76 : decode cX5_table 76 = .ok (.iload_n 1, 1) := by decide +kernel
theorem dX5_table_77 : decode cX5_table 77 = .ok (.iaload, 1) := by decide +kernel
theorem dX5_table_78 : decode cX5_table 78 = .ok (.invokestatic 156, 3) := by decide +kernel
theorem dX5_table_81 : decode cX5_table 81 = .ok (.ireturn, 1) := by decide +kernel
theorem dX5_table_82 : decode cX5_table 82 = .ok (.aload_n 0, 1) := by decide +kernel
theorem dX5_table_83 : decode cX5_table 83 = .ok (.getfield 10, 3) := by decide +kernel
theorem dX5_table_86 : decode cX5_table 86 = .ok (.iload_n 1, 1) := by decide +kernel
theorem dX5_table_87 : decode cX5_table 87 = .ok (.invokestatic 66, 3) := by decide +kernel
theorem dX5_table_90 : decode cX5_table 90 = .ok (.invokevirtual 160, 3) := by decide +kernel
theorem dX5_table_93 : decode cX5_table 93 = .ok (.ireturn, 1) := by decide +kernel
theorem dX5_table_94 : decode cX5_table 94 = .ok (.iconst (-1), 1) := by decide +kernel
theorem dX5_table_95 : decode cX5_table 95 = .ok (.ireturn, 1) := by decide +kernel
theorem dX5_partOf_0 : decode cX5_partOf 0 = .ok (.iload_n 1, 1) := by decide +kernel
theorem dX5_partOf_1 : decode cX5_partOf 1 = .ok (.iload_n 2, 1) := by decide +kernel
theorem dX5_partOf_2 : decode cX5_partOf 2 = .ok (.invokestatic 58, 3) := by decide +kernel
theorem dX5_partOf_5 : decode cX5_partOf 5 = .ok (.ifCond .eq 17, 3) := by decide +kernel
theorem dX5_partOf_8 : decode cX5_partOf 8 = .ok (.aload_n 0, 1) := by decide +kernel
theorem dX5_partOf_9 : decode cX5_partOf 9 = .ok (.getfield 10, 3) := by decide +kernel
theorem dX5_partOf_12 : decode cX5_partOf 12 = .ok (.getfield 62, 3) := by decide +kernel
theorem dX5_partOf_15 : decode cX5_partOf 15 = .ok (.iload_n 1, 1) := by decide +kernel
theorem dX5_partOf_16 : decode cX5_partOf 16 = .ok (.aaload, 1) := by decide +kernel
theorem dX5_partOf_17 : decode cX5_partOf 17 = .ok (.iload_n 2, 1) := by decide +kernel
theorem dX5_partOf_18 : decode cX5_partOf 18 = .ok (.iaload, 1) := by decide +kernel
theorem dX5_partOf_19 : decode cX5_partOf 19 = .ok (.goto 4, 3) := by decide +kernel
theorem dX5_partOf_22 : decode cX5_partOf 22 = .ok (.iconst (-1), 1) := by decide +kernel
theorem dX5_partOf_23 : decode cX5_partOf 23 = .ok (.ireturn, 1) := by decide +kernel
theorem dX5_size_0 : decode cX5_size 0 = .ok (.iload_n 1, 1) := by decide +kernel
theorem dX5_size_1 : decode cX5_size 1 = .ok (.invokestatic 76, 3) := by decide +kernel
theorem dX5_size_4 : decode cX5_size 4 = .ok (.ifCond .eq 18, 3) := by decide +kernel
theorem dX5_size_7 : decode cX5_size 7 = .ok (.aload_n 0, 1) := by decide +kernel
theorem dX5_size_8 : decode cX5_size 8 = .ok (.iload_n 2, 1) := by decide +kernel
theorem dX5_size_9 : decode cX5_size 9 = .ok (.invokevirtual 163, 3) := by decide +kernel
theorem dX5_size_12 : decode cX5_size 12 = .ok (.iload_n 1, 1) := by decide +kernel
theorem dX5_size_13 : decode cX5_size 13 = .ok (.invokevirtual 167, 3) := by decide +kernel
theorem dX5_size_16 : decode cX5_size 16 = .ok (.invokestatic 83, 3) := by decide +kernel
theorem dX5_size_19 : decode cX5_size 19 = .ok (.goto 4, 3) := by decide +kernel
theorem dX5_size_22 : decode cX5_size 22 = .ok (.iconst (-1), 1) := by decide +kernel
theorem dX5_size_23 : decode cX5_size 23 = .ok (.ireturn, 1) := by decide +kernel
theorem dX5_least_0 : decode cX5_least 0 = .ok (.iload_n 1, 1) := by decide +kernel
theorem dX5_least_1 : decode cX5_least 1 = .ok (.invokestatic 76, 3) := by decide +kernel
theorem dX5_least_4 : decode cX5_least 4 = .ok (.ifCond .eq 12, 3) := by decide +kernel
theorem dX5_least_7 : decode cX5_least 7 = .ok (.iload_n 3, 1) := by decide +kernel
theorem dX5_least_8 : decode cX5_least 8 = .ok (.ifCond .lt 8, 3) := by decide +kernel
theorem dX5_least_11 : decode cX5_least 11 = .ok (.iload_n 3, 1) := by decide +kernel
theorem dX5_least_12 : decode cX5_least 12 = .ok (.iconst 1, 1) := by decide +kernel
theorem dX5_least_13 : decode cX5_least 13 = .ok (.if_icmp .le 5, 3) := by decide +kernel
theorem dX5_least_16 : decode cX5_least 16 = .ok (.iconst (-1), 1) := by decide +kernel
theorem dX5_least_17 : decode cX5_least 17 = .ok (.ireturn, 1) := by decide +kernel
theorem dX5_least_18 : decode cX5_least 18 = .ok (.aload_n 0, 1) := by decide +kernel
theorem dX5_least_19 : decode cX5_least 19 = .ok (.iload_n 2, 1) := by decide +kernel
theorem dX5_least_20 : decode cX5_least 20 = .ok (.invokevirtual 163, 3) := by decide +kernel
theorem dX5_least_23 : decode cX5_least 23 = .ok (.astore 4, 2) := by decide +kernel
theorem dX5_least_25 : decode cX5_least 25 = .ok (.iload_n 3, 1) := by decide +kernel
theorem dX5_least_26 : decode cX5_least 26 = .ok (.ifCond .ne 12, 3) := by decide +kernel
theorem dX5_least_29 : decode cX5_least 29 = .ok (.aload 4, 2) := by decide +kernel
theorem dX5_least_31 : decode cX5_least 31 = .ok (.iload_n 1, 1) := by decide +kernel
theorem dX5_least_32 : decode cX5_least 32 = .ok (.invokevirtual 170, 3) := by decide +kernel
theorem dX5_least_35 : decode cX5_least 35 = .ok (.goto 9, 3) := by decide +kernel
theorem dX5_least_38 : decode cX5_least 38 = .ok (.aload 4, 2) := by decide +kernel
theorem dX5_least_40 : decode cX5_least 40 = .ok (.iload_n 1, 1) := by decide +kernel
theorem dX5_least_41 : decode cX5_least 41 = .ok (.invokevirtual 173, 3) := by decide +kernel
theorem dX5_least_44 : decode cX5_least 44 = .ok (.invokestatic 83, 3) := by decide +kernel
theorem dX5_least_47 : decode cX5_least 47 = .ok (.ireturn, 1) := by decide +kernel
theorem dX5_best_0 : decode cX5_best 0 = .ok (.iload_n 1, 1) := by decide +kernel
theorem dX5_best_1 : decode cX5_best 1 = .ok (.invokestatic 76, 3) := by decide +kernel
theorem dX5_best_4 : decode cX5_best 4 = .ok (.ifCond .eq 7, 3) := by decide +kernel
theorem dX5_best_7 : decode cX5_best 7 = .ok (.iload_n 3, 1) := by decide +kernel
theorem dX5_best_8 : decode cX5_best 8 = .ok (.ifCond .ge 5, 3) := by decide +kernel
theorem dX5_best_11 : decode cX5_best 11 = .ok (.iconst (-1), 1) := by decide +kernel
theorem dX5_best_12 : decode cX5_best 12 = .ok (.ireturn, 1) := by decide +kernel
theorem dX5_best_13 : decode cX5_best 13 = .ok (.iload_n 1, 1) := by decide +kernel
theorem dX5_best_14 : decode cX5_best 14 = .ok (.invokestatic 176, 3) := by decide +kernel
theorem dX5_best_17 : decode cX5_best 17 = .ok (.istore 4, 2) := by decide +kernel
theorem dX5_best_19 : decode cX5_best 19 = .ok (.iload_n 3, 1) := by decide +kernel
theorem dX5_best_20 : decode cX5_best 20 = .ok (.iload 4, 2) := by decide +kernel
theorem dX5_best_22 : decode cX5_best 22 = .ok (.if_icmp .ge 21, 3) := by decide +kernel
theorem dX5_best_25 : decode cX5_best 25 = .ok (.aload_n 0, 1) := by decide +kernel
theorem dX5_best_26 : decode cX5_best 26 = .ok (.iload_n 2, 1) := by decide +kernel
theorem dX5_best_27 : decode cX5_best 27 = .ok (.invokevirtual 163, 3) := by decide +kernel
theorem dX5_best_30 : decode cX5_best 30 = .ok (.iload_n 1, 1) := by decide +kernel
theorem dX5_best_31 : decode cX5_best 31 = .ok (.invokevirtual 181, 3) := by decide +kernel
theorem dX5_best_34 : decode cX5_best 34 = .ok (.iload 4, 2) := by decide +kernel
theorem dX5_best_36 : decode cX5_best 36 = .ok (.iload_n 3, 1) := by decide +kernel
theorem dX5_best_37 : decode cX5_best 37 = .ok (.invokestatic 184, 3) := by decide +kernel
theorem dX5_best_40 : decode cX5_best 40 = .ok (.goto 5, 3) := by decide +kernel
theorem dX5_best_43 : decode cX5_best 43 = .ok (.bipush (-4), 2) := by decide +kernel
theorem dX5_best_45 : decode cX5_best 45 = .ok (.ireturn, 1) := by decide +kernel
theorem dX5_plan_0 : decode cX5_plan 0 = .ok (.iload_n 1, 1) := by decide +kernel
theorem dX5_plan_1 : decode cX5_plan 1 = .ok (.invokestatic 76, 3) := by decide +kernel
theorem dX5_plan_4 : decode cX5_plan 4 = .ok (.ifCond .eq 13, 3) := by decide +kernel
theorem dX5_plan_7 : decode cX5_plan 7 = .ok (.iload_n 2, 1) := by decide +kernel
theorem dX5_plan_8 : decode cX5_plan 8 = .ok (.ifCond .lt 9, 3) := by decide +kernel
theorem dX5_plan_11 : decode cX5_plan 11 = .ok (.iload_n 2, 1) := by decide +kernel
theorem dX5_plan_12 : decode cX5_plan 12 = .ok (.bipush 11, 2) := by decide +kernel
theorem dX5_plan_14 : decode cX5_plan 14 = .ok (.if_icmp .le 5, 3) := by decide +kernel
theorem dX5_plan_17 : decode cX5_plan 17 = .ok (.iconst (-1), 1) := by decide +kernel
theorem dX5_plan_18 : decode cX5_plan 18 = .ok (.ireturn, 1) := by decide +kernel
theorem dX5_plan_19 : decode cX5_plan 19 = .ok (.aload_n 0, 1) := by decide +kernel
theorem dX5_plan_20 : decode cX5_plan 20 = .ok (.getfield 10, 3) := by decide +kernel
theorem dX5_plan_23 : decode cX5_plan 23 = .ok (.iload_n 1, 1) := by decide +kernel
theorem dX5_plan_24 : decode cX5_plan 24 = .ok (.invokevirtual 87, 3) := by decide +kernel
theorem dX5_plan_27 : decode cX5_plan 27 = .ok (.istore_n 3, 1) := by decide +kernel
theorem dX5_plan_28 : decode cX5_plan 28 = .ok (.iload_n 3, 1) := by decide +kernel
theorem dX5_plan_29 : decode cX5_plan 29 = .ok (.iconst (-1), 1) := by decide +kernel
theorem dX5_plan_30 : decode cX5_plan 30 = .ok (.if_icmp .ne 6, 3) := by decide +kernel
theorem dX5_plan_33 : decode cX5_plan 33 = .ok (.bipush (-4), 2) := by decide +kernel
theorem dX5_plan_35 : decode cX5_plan 35 = .ok (.ireturn, 1) := by decide +kernel
theorem dX5_plan_36 : decode cX5_plan 36 = .ok (.aload_n 0, 1) := by decide +kernel
theorem dX5_plan_37 : decode cX5_plan 37 = .ok (.getfield 10, 3) := by decide +kernel
theorem dX5_plan_40 : decode cX5_plan 40 = .ok (.getfield 90, 3) := by decide +kernel
theorem dX5_plan_43 : decode cX5_plan 43 = .ok (.iload_n 3, 1) := by decide +kernel
theorem dX5_plan_44 : decode cX5_plan 44 = .ok (.invokevirtual 93, 3) := by decide +kernel
theorem dX5_plan_47 : decode cX5_plan 47 = .ok (.checkcast 97, 3) := by decide +kernel
theorem dX5_plan_50 : decode cX5_plan 50 = .ok (.astore 4, 2) := by decide +kernel
theorem dX5_plan_52 : decode cX5_plan 52 = .ok (.iload_n 2, 1) := by decide +kernel
theorem dX5_plan_53 : decode cX5_plan 53 = .ok (.tableswitch 141 5 11 #[43, 61, 79, 88, 102, 120, 139], 43) := by decide +kernel
theorem dX5_plan_96 : decode cX5_plan 96 = .ok (.aload_n 0, 1) := by decide +kernel
theorem dX5_plan_97 : decode cX5_plan 97 = .ok (.iconst 1, 1) := by decide +kernel
theorem dX5_plan_98 : decode cX5_plan 98 = .ok (.invokevirtual 163, 3) := by decide +kernel
theorem dX5_plan_101 : decode cX5_plan 101 = .ok (.iload_n 1, 1) := by decide +kernel
theorem dX5_plan_102 : decode cX5_plan 102 = .ok (.aload 4, 2) := by decide +kernel
theorem dX5_plan_104 : decode cX5_plan 104 = .ok (.getfield 188, 3) := by decide +kernel
theorem dX5_plan_107 : decode cX5_plan 107 = .ok (.invokevirtual 191, 3) := by decide +kernel
theorem dX5_plan_110 : decode cX5_plan 110 = .ok (.invokestatic 83, 3) := by decide +kernel
theorem dX5_plan_113 : decode cX5_plan 113 = .ok (.ireturn, 1) := by decide +kernel
theorem dX5_plan_114 : decode cX5_plan 114 = .ok (.aload_n 0, 1) := by decide +kernel
theorem dX5_plan_115 : decode cX5_plan 115 = .ok (.iconst 0, 1) := by decide +kernel
theorem dX5_plan_116 : decode cX5_plan 116 = .ok (.invokevirtual 163, 3) := by decide +kernel
theorem dX5_plan_119 : decode cX5_plan 119 = .ok (.iload_n 1, 1) := by decide +kernel
theorem dX5_plan_120 : decode cX5_plan 120 = .ok (.aload 4, 2) := by decide +kernel
theorem dX5_plan_122 : decode cX5_plan 122 = .ok (.getfield 188, 3) := by decide +kernel
theorem dX5_plan_125 : decode cX5_plan 125 = .ok (.invokevirtual 191, 3) := by decide +kernel
theorem dX5_plan_128 : decode cX5_plan 128 = .ok (.invokestatic 83, 3) := by decide +kernel
theorem dX5_plan_131 : decode cX5_plan 131 = .ok (.ireturn, 1) := by decide +kernel
theorem dX5_plan_132 : decode cX5_plan 132 = .ok (.aload 4, 2) := by decide +kernel
theorem dX5_plan_134 : decode cX5_plan 134 = .ok (.getfield 118, 3) := by decide +kernel
theorem dX5_plan_137 : decode cX5_plan 137 = .ok (.invokestatic 83, 3) := by decide +kernel
theorem dX5_plan_140 : decode cX5_plan 140 = .ok (.ireturn, 1) := by decide +kernel
theorem dX5_plan_141 : decode cX5_plan 141 = .ok (.aload 4, 2) := by decide +kernel
theorem dX5_plan_143 : decode cX5_plan 143 = .ok (.getfield 99, 3) := by decide +kernel
theorem dX5_plan_146 : decode cX5_plan 146 = .ok (.ifCond .eq 7, 3) := by decide +kernel
theorem dX5_plan_149 : decode cX5_plan 149 = .ok (.iconst 1, 1) := by decide +kernel
theorem dX5_plan_150 : decode cX5_plan 150 = .ok (.goto 4, 3) := by decide +kernel
theorem dX5_plan_153 : decode cX5_plan 153 = .ok (.iconst 0, 1) := by decide +kernel
theorem dX5_plan_154 : decode cX5_plan 154 = .ok (.ireturn, 1) := by decide +kernel
theorem dX5_plan_155 : decode cX5_plan 155 = .ok (.aload_n 0, 1) := by decide +kernel
theorem dX5_plan_156 : decode cX5_plan 156 = .ok (.iconst 1, 1) := by decide +kernel
theorem dX5_plan_157 : decode cX5_plan 157 = .ok (.invokevirtual 163, 3) := by decide +kernel
theorem dX5_plan_160 : decode cX5_plan 160 = .ok (.iload_n 1, 1) := by decide +kernel
theorem dX5_plan_161 : decode cX5_plan 161 = .ok (.aload 4, 2) := by decide +kernel
theorem dX5_plan_163 : decode cX5_plan 163 = .ok (.getfield 188, 3) := by decide +kernel
theorem dX5_plan_166 : decode cX5_plan 166 = .ok (.invokevirtual 195, 3) := by decide +kernel
theorem dX5_plan_169 : decode cX5_plan 169 = .ok (.invokestatic 83, 3) := by decide +kernel
theorem dX5_plan_172 : decode cX5_plan 172 = .ok (.ireturn, 1) := by decide +kernel
theorem dX5_plan_173 : decode cX5_plan 173 = .ok (.aload_n 0, 1) := by decide +kernel
theorem dX5_plan_174 : decode cX5_plan 174 = .ok (.getfield 10, 3) := by decide +kernel
theorem dX5_plan_177 : decode cX5_plan 177 = .ok (.aload 4, 2) := by decide +kernel
theorem dX5_plan_179 : decode cX5_plan 179 = .ok (.iconst 0, 1) := by decide +kernel
theorem dX5_plan_180 : decode cX5_plan 180 = .ok (.invokevirtual 198, 3) := by decide +kernel
theorem dX5_plan_183 : decode cX5_plan 183 = .ok (.ifCond .eq 7, 3) := by decide +kernel
theorem dX5_plan_186 : decode cX5_plan 186 = .ok (.iconst 1, 1) := by decide +kernel
theorem dX5_plan_187 : decode cX5_plan 187 = .ok (.goto 4, 3) := by decide +kernel
theorem dX5_plan_190 : decode cX5_plan 190 = .ok (.iconst 0, 1) := by decide +kernel
theorem dX5_plan_191 : decode cX5_plan 191 = .ok (.ireturn, 1) := by decide +kernel
theorem dX5_plan_192 : decode cX5_plan 192 = .ok (.iload_n 3, 1) := by decide +kernel
theorem dX5_plan_193 : decode cX5_plan 193 = .ok (.ireturn, 1) := by decide +kernel
theorem dX5_plan_194 : decode cX5_plan 194 = .ok (.iload_n 1, 1) := by decide +kernel
theorem dX5_plan_195 : decode cX5_plan 195 = .ok (.invokestatic 176, 3) := by decide +kernel
theorem dX5_plan_198 : decode cX5_plan 198 = .ok (.istore 5, 2) := by decide +kernel
theorem dX5_plan_200 : decode cX5_plan 200 = .ok (.iload_n 2, 1) := by decide +kernel
theorem dX5_plan_201 : decode cX5_plan 201 = .ok (.iload 5, 2) := by decide +kernel
theorem dX5_plan_203 : decode cX5_plan 203 = .ok (.if_icmp .ge 17, 3) := by decide +kernel
theorem dX5_plan_206 : decode cX5_plan 206 = .ok (.aload 4, 2) := by decide +kernel
theorem dX5_plan_208 : decode cX5_plan 208 = .ok (.getfield 188, 3) := by decide +kernel
theorem dX5_plan_211 : decode cX5_plan 211 = .ok (.iload 5, 2) := by decide +kernel
theorem dX5_plan_213 : decode cX5_plan 213 = .ok (.iload_n 2, 1) := by decide +kernel
theorem dX5_plan_214 : decode cX5_plan 214 = .ok (.invokestatic 184, 3) := by decide +kernel
theorem dX5_plan_217 : decode cX5_plan 217 = .ok (.goto 5, 3) := by decide +kernel
theorem dX5_plan_220 : decode cX5_plan 220 = .ok (.bipush (-4), 2) := by decide +kernel
theorem dX5_plan_222 : decode cX5_plan 222 = .ok (.ireturn, 1) := by decide +kernel
theorem dX5_counted_0 : decode cX5_counted 0 = .ok (.iload_n 1, 1) := by decide +kernel
theorem dX5_counted_1 : decode cX5_counted 1 = .ok (.tableswitch 213 0 13 #[71, 82, 90, 98, 109, 120, 131, 142, 153, 164, 175, 186, 197, 205], 71) := by decide +kernel
theorem dX5_counted_72 : decode cX5_counted 72 = .ok (.aload_n 0, 1) := by decide +kernel
theorem dX5_counted_73 : decode cX5_counted 73 = .ok (.getfield 10, 3) := by decide +kernel
theorem dX5_counted_76 : decode cX5_counted 76 = .ok (.getfield 90, 3) := by decide +kernel
theorem dX5_counted_79 : decode cX5_counted 79 = .ok (.invokevirtual 202, 3) := by decide +kernel
theorem dX5_counted_82 : decode cX5_counted 82 = .ok (.ireturn, 1) := by decide +kernel
theorem dX5_counted_83 : decode cX5_counted 83 = .ok (.aload_n 0, 1) := by decide +kernel
theorem dX5_counted_84 : decode cX5_counted 84 = .ok (.getfield 10, 3) := by decide +kernel
theorem dX5_counted_87 : decode cX5_counted 87 = .ok (.invokevirtual 205, 3) := by decide +kernel
theorem dX5_counted_90 : decode cX5_counted 90 = .ok (.ireturn, 1) := by decide +kernel
theorem dX5_counted_91 : decode cX5_counted 91 = .ok (.aload_n 0, 1) := by decide +kernel
theorem dX5_counted_92 : decode cX5_counted 92 = .ok (.getfield 10, 3) := by decide +kernel
theorem dX5_counted_95 : decode cX5_counted 95 = .ok (.getfield 121, 3) := by decide +kernel
theorem dX5_counted_98 : decode cX5_counted 98 = .ok (.ireturn, 1) := by decide +kernel
theorem dX5_counted_99 : decode cX5_counted 99 = .ok (.aload_n 0, 1) := by decide +kernel
theorem dX5_counted_100 : decode cX5_counted 100 = .ok (.getfield 10, 3) := by decide +kernel
theorem dX5_counted_103 : decode cX5_counted 103 = .ok (.getfield 208, 3) := by decide +kernel
theorem dX5_counted_106 : decode cX5_counted 106 = .ok (.invokestatic 83, 3) := by decide +kernel
theorem dX5_counted_109 : decode cX5_counted 109 = .ok (.ireturn, 1) := by decide +kernel
theorem dX5_counted_110 : decode cX5_counted 110 = .ok (.aload_n 0, 1) := by decide +kernel
theorem dX5_counted_111 : decode cX5_counted 111 = .ok (.getfield 10, 3) := by decide +kernel
theorem dX5_counted_114 : decode cX5_counted 114 = .ok (.getfield 211, 3) := by decide +kernel
theorem dX5_counted_117 : decode cX5_counted 117 = .ok (.invokestatic 83, 3) := by decide +kernel
theorem dX5_counted_120 : decode cX5_counted 120 = .ok (.ireturn, 1) := by decide +kernel
theorem dX5_counted_121 : decode cX5_counted 121 = .ok (.aload_n 0, 1) := by decide +kernel
theorem dX5_counted_122 : decode cX5_counted 122 = .ok (.getfield 10, 3) := by decide +kernel
theorem dX5_counted_125 : decode cX5_counted 125 = .ok (.getfield 214, 3) := by decide +kernel
theorem dX5_counted_128 : decode cX5_counted 128 = .ok (.invokestatic 83, 3) := by decide +kernel
theorem dX5_counted_131 : decode cX5_counted 131 = .ok (.ireturn, 1) := by decide +kernel
theorem dX5_counted_132 : decode cX5_counted 132 = .ok (.aload_n 0, 1) := by decide +kernel
theorem dX5_counted_133 : decode cX5_counted 133 = .ok (.getfield 10, 3) := by decide +kernel
theorem dX5_counted_136 : decode cX5_counted 136 = .ok (.getfield 217, 3) := by decide +kernel
theorem dX5_counted_139 : decode cX5_counted 139 = .ok (.invokestatic 83, 3) := by decide +kernel
theorem dX5_counted_142 : decode cX5_counted 142 = .ok (.ireturn, 1) := by decide +kernel
theorem dX5_counted_143 : decode cX5_counted 143 = .ok (.aload_n 0, 1) := by decide +kernel
theorem dX5_counted_144 : decode cX5_counted 144 = .ok (.getfield 10, 3) := by decide +kernel
theorem dX5_counted_147 : decode cX5_counted 147 = .ok (.getfield 220, 3) := by decide +kernel
theorem dX5_counted_150 : decode cX5_counted 150 = .ok (.invokestatic 83, 3) := by decide +kernel
theorem dX5_counted_153 : decode cX5_counted 153 = .ok (.ireturn, 1) := by decide +kernel
theorem dX5_counted_154 : decode cX5_counted 154 = .ok (.aload_n 0, 1) := by decide +kernel
theorem dX5_counted_155 : decode cX5_counted 155 = .ok (.getfield 10, 3) := by decide +kernel
theorem dX5_counted_158 : decode cX5_counted 158 = .ok (.getfield 223, 3) := by decide +kernel
theorem dX5_counted_161 : decode cX5_counted 161 = .ok (.invokestatic 83, 3) := by decide +kernel
theorem dX5_counted_164 : decode cX5_counted 164 = .ok (.ireturn, 1) := by decide +kernel
theorem dX5_counted_165 : decode cX5_counted 165 = .ok (.aload_n 0, 1) := by decide +kernel
theorem dX5_counted_166 : decode cX5_counted 166 = .ok (.getfield 10, 3) := by decide +kernel
theorem dX5_counted_169 : decode cX5_counted 169 = .ok (.getfield 226, 3) := by decide +kernel
theorem dX5_counted_172 : decode cX5_counted 172 = .ok (.invokestatic 83, 3) := by decide +kernel
theorem dX5_counted_175 : decode cX5_counted 175 = .ok (.ireturn, 1) := by decide +kernel
theorem dX5_counted_176 : decode cX5_counted 176 = .ok (.aload_n 0, 1) := by decide +kernel
theorem dX5_counted_177 : decode cX5_counted 177 = .ok (.getfield 10, 3) := by decide +kernel
theorem dX5_counted_180 : decode cX5_counted 180 = .ok (.getfield 111, 3) := by decide +kernel
theorem dX5_counted_183 : decode cX5_counted 183 = .ok (.invokestatic 83, 3) := by decide +kernel
theorem dX5_counted_186 : decode cX5_counted 186 = .ok (.ireturn, 1) := by decide +kernel
theorem dX5_counted_187 : decode cX5_counted 187 = .ok (.aload_n 0, 1) := by decide +kernel
theorem dX5_counted_188 : decode cX5_counted 188 = .ok (.getfield 10, 3) := by decide +kernel
theorem dX5_counted_191 : decode cX5_counted 191 = .ok (.getfield 229, 3) := by decide +kernel
theorem dX5_counted_194 : decode cX5_counted 194 = .ok (.invokestatic 83, 3) := by decide +kernel
theorem dX5_counted_197 : decode cX5_counted 197 = .ok (.ireturn, 1) := by decide +kernel
theorem dX5_counted_198 : decode cX5_counted 198 = .ok (.aload_n 0, 1) := by decide +kernel
theorem dX5_counted_199 : decode cX5_counted 199 = .ok (.getfield 36, 3) := by decide +kernel
theorem dX5_counted_202 : decode cX5_counted 202 = .ok (.getfield 128, 3) := by decide +kernel
theorem dX5_counted_205 : decode cX5_counted 205 = .ok (.ireturn, 1) := by decide +kernel
theorem dX5_counted_206 : decode cX5_counted 206 = .ok (.aload_n 0, 1) := by decide +kernel
theorem dX5_counted_207 : decode cX5_counted 207 = .ok (.getfield 22, 3) := by decide +kernel
theorem dX5_counted_210 : decode cX5_counted 210 = .ok (.invokevirtual 202, 3) := by decide +kernel
theorem dX5_counted_213 : decode cX5_counted 213 = .ok (.ireturn, 1) := by decide +kernel
theorem dX5_counted_214 : decode cX5_counted 214 = .ok (.iconst (-1), 1) := by decide +kernel
theorem dX5_counted_215 : decode cX5_counted 215 = .ok (.ireturn, 1) := by decide +kernel
theorem dX5_fitness_0 : decode cX5_fitness 0 = .ok (.aload_n 0, 1) := by decide +kernel
theorem dX5_fitness_1 : decode cX5_fitness 1 = .ok (.iconst 1, 1) := by decide +kernel
theorem dX5_fitness_2 : decode cX5_fitness 2 = .ok (.invokevirtual 163, 3) := by decide +kernel
theorem dX5_fitness_5 : decode cX5_fitness 5 = .ok (.astore_n 1, 1) := by decide +kernel
theorem dX5_fitness_6 : decode cX5_fitness 6 = .ok (.lconst 0, 1) := by decide +kernel
theorem dX5_fitness_7 : decode cX5_fitness 7 = .ok (.lstore_n 2, 1) := by decide +kernel
theorem dX5_fitness_8 : decode cX5_fitness 8 = .ok (.lconst 0, 1) := by decide +kernel
theorem dX5_fitness_9 : decode cX5_fitness 9 = .ok (.lstore 4, 2) := by decide +kernel
theorem dX5_fitness_11 : decode cX5_fitness 11 = .ok (.iconst 0, 1) := by decide +kernel
theorem dX5_fitness_12 : decode cX5_fitness 12 = .ok (.istore 6, 2) := by decide +kernel
theorem dX5_fitness_14 : decode cX5_fitness 14 = .ok (.iload 6, 2) := by decide +kernel
theorem dX5_fitness_16 : decode cX5_fitness 16 = .ok (.aload_n 0, 1) := by decide +kernel
theorem dX5_fitness_17 : decode cX5_fitness 17 = .ok (.getfield 10, 3) := by decide +kernel
theorem dX5_fitness_20 : decode cX5_fitness 20 = .ok (.getfield 90, 3) := by decide +kernel
theorem dX5_fitness_23 : decode cX5_fitness 23 = .ok (.invokevirtual 202, 3) := by decide +kernel
theorem dX5_fitness_26 : decode cX5_fitness 26 = .ok (.if_icmp .ge 57, 3) := by decide +kernel
theorem dX5_fitness_29 : decode cX5_fitness 29 = .ok (.aload_n 0, 1) := by decide +kernel
theorem dX5_fitness_30 : decode cX5_fitness 30 = .ok (.getfield 10, 3) := by decide +kernel
theorem dX5_fitness_33 : decode cX5_fitness 33 = .ok (.getfield 90, 3) := by decide +kernel
theorem dX5_fitness_36 : decode cX5_fitness 36 = .ok (.iload 6, 2) := by decide +kernel
theorem dX5_fitness_38 : decode cX5_fitness 38 = .ok (.invokevirtual 93, 3) := by decide +kernel
theorem dX5_fitness_41 : decode cX5_fitness 41 = .ok (.checkcast 97, 3) := by decide +kernel
theorem dX5_fitness_44 : decode cX5_fitness 44 = .ok (.astore 7, 2) := by decide +kernel
theorem dX5_fitness_46 : decode cX5_fitness 46 = .ok (.lload_n 2, 1) := by decide +kernel
theorem dX5_fitness_47 : decode cX5_fitness 47 = .ok (.aload_n 1, 1) := by decide +kernel
theorem dX5_fitness_48 : decode cX5_fitness 48 = .ok (.aload 7, 2) := by decide +kernel
theorem dX5_fitness_50 : decode cX5_fitness 50 = .ok (.getfield 232, 3) := by decide +kernel
theorem dX5_fitness_53 : decode cX5_fitness 53 = .ok (.invokevirtual 173, 3) := by decide +kernel
theorem dX5_fitness_56 : decode cX5_fitness 56 = .ok (.ladd, 1) := by decide +kernel
theorem dX5_fitness_57 : decode cX5_fitness 57 = .ok (.lstore_n 2, 1) := by decide +kernel
theorem dX5_fitness_58 : decode cX5_fitness 58 = .ok (.lload 4, 2) := by decide +kernel
theorem dX5_fitness_60 : decode cX5_fitness 60 = .ok (.aload_n 1, 1) := by decide +kernel
theorem dX5_fitness_61 : decode cX5_fitness 61 = .ok (.aload 7, 2) := by decide +kernel
theorem dX5_fitness_63 : decode cX5_fitness 63 = .ok (.getfield 232, 3) := by decide +kernel
theorem dX5_fitness_66 : decode cX5_fitness 66 = .ok (.aload 7, 2) := by decide +kernel
theorem dX5_fitness_68 : decode cX5_fitness 68 = .ok (.getfield 188, 3) := by decide +kernel
theorem dX5_fitness_71 : decode cX5_fitness 71 = .ok (.invokevirtual 191, 3) := by decide +kernel
theorem dX5_fitness_74 : decode cX5_fitness 74 = .ok (.ladd, 1) := by decide +kernel
theorem dX5_fitness_75 : decode cX5_fitness 75 = .ok (.lstore 4, 2) := by decide +kernel
theorem dX5_fitness_77 : decode cX5_fitness 77 = .ok (.iinc 6 1, 3) := by decide +kernel
theorem dX5_fitness_80 : decode cX5_fitness 80 = .ok (.goto (-66), 3) := by decide +kernel
theorem dX5_fitness_83 : decode cX5_fitness 83 = .ok (.lload 4, 2) := by decide +kernel
theorem dX5_fitness_85 : decode cX5_fitness 85 = .ok (.lconst 0, 1) := by decide +kernel
theorem dX5_fitness_86 : decode cX5_fitness 86 = .ok (.lcmp, 1) := by decide +kernel
theorem dX5_fitness_87 : decode cX5_fitness 87 = .ok (.ifCond .le 12, 3) := by decide +kernel
theorem dX5_fitness_90 : decode cX5_fitness 90 = .ok (.lload_n 2, 1) := by decide +kernel
theorem dX5_fitness_91 : decode cX5_fitness 91 = .ok (.l2d, 1) := by decide +kernel
theorem dX5_fitness_92 : decode cX5_fitness 92 = .ok (.lload 4, 2) := by decide +kernel
theorem dX5_fitness_94 : decode cX5_fitness 94 = .ok (.l2d, 1) := by decide +kernel
theorem dX5_fitness_95 : decode cX5_fitness 95 = .ok (.ddiv, 1) := by decide +kernel
theorem dX5_fitness_96 : decode cX5_fitness 96 = .ok (.goto 4, 3) := by decide +kernel
theorem dX5_fitness_99 : decode cX5_fitness 99 = .ok (.dconst 1, 1) := by decide +kernel
theorem dX5_fitness_100 : decode cX5_fitness 100 = .ok (.dreturn, 1) := by decide +kernel
theorem dX5_ifCounted_0 : decode cX5_ifCounted 0 = .ok (.iload_n 1, 1) := by decide +kernel
theorem dX5_ifCounted_1 : decode cX5_ifCounted 1 = .ok (.invokestatic 76, 3) := by decide +kernel
theorem dX5_ifCounted_4 : decode cX5_ifCounted 4 = .ok (.ifCond .eq 12, 3) := by decide +kernel
theorem dX5_ifCounted_7 : decode cX5_ifCounted 7 = .ok (.iload_n 2, 1) := by decide +kernel
theorem dX5_ifCounted_8 : decode cX5_ifCounted 8 = .ok (.ifCond .lt 8, 3) := by decide +kernel
theorem dX5_ifCounted_11 : decode cX5_ifCounted 11 = .ok (.iload_n 2, 1) := by decide +kernel
theorem dX5_ifCounted_12 : decode cX5_ifCounted 12 = .ok (.iconst 1, 1) := by decide +kernel
theorem dX5_ifCounted_13 : decode cX5_ifCounted 13 = .ok (.if_icmp .le 5, 3) := by decide +kernel
theorem dX5_ifCounted_16 : decode cX5_ifCounted 16 = .ok (.iconst (-1), 1) := by decide +kernel
theorem dX5_ifCounted_17 : decode cX5_ifCounted 17 = .ok (.ireturn, 1) := by decide +kernel
theorem dX5_ifCounted_18 : decode cX5_ifCounted 18 = .ok (.aload_n 0, 1) := by decide +kernel
theorem dX5_ifCounted_19 : decode cX5_ifCounted 19 = .ok (.iconst 1, 1) := by decide +kernel
theorem dX5_ifCounted_20 : decode cX5_ifCounted 20 = .ok (.invokevirtual 163, 3) := by decide +kernel
theorem dX5_ifCounted_23 : decode cX5_ifCounted 23 = .ok (.astore_n 3, 1) := by decide +kernel
theorem dX5_ifCounted_24 : decode cX5_ifCounted 24 = .ok (.iconst 0, 1) := by decide +kernel
theorem dX5_ifCounted_25 : decode cX5_ifCounted 25 = .ok (.istore 4, 2) := by decide +kernel
theorem dX5_ifCounted_27 : decode cX5_ifCounted 27 = .ok (.iconst 0, 1) := by decide +kernel
theorem dX5_ifCounted_28 : decode cX5_ifCounted 28 = .ok (.istore 5, 2) := by decide +kernel
theorem dX5_ifCounted_30 : decode cX5_ifCounted 30 = .ok (.iconst 0, 1) := by decide +kernel
theorem dX5_ifCounted_31 : decode cX5_ifCounted 31 = .ok (.istore 6, 2) := by decide +kernel
theorem dX5_ifCounted_33 : decode cX5_ifCounted 33 = .ok (.iload 6, 2) := by decide +kernel
theorem dX5_ifCounted_35 : decode cX5_ifCounted 35 = .ok (.aload_n 0, 1) := by decide +kernel
theorem dX5_ifCounted_36 : decode cX5_ifCounted 36 = .ok (.getfield 10, 3) := by decide +kernel
theorem dX5_ifCounted_39 : decode cX5_ifCounted 39 = .ok (.getfield 90, 3) := by decide +kernel
theorem dX5_ifCounted_42 : decode cX5_ifCounted 42 = .ok (.invokevirtual 202, 3) := by decide +kernel
theorem dX5_ifCounted_45 : decode cX5_ifCounted 45 = .ok (.if_icmp .ge 75, 3) := by decide +kernel
theorem dX5_ifCounted_48 : decode cX5_ifCounted 48 = .ok (.aload_n 0, 1) := by decide +kernel
theorem dX5_ifCounted_49 : decode cX5_ifCounted 49 = .ok (.getfield 10, 3) := by decide +kernel
theorem dX5_ifCounted_52 : decode cX5_ifCounted 52 = .ok (.getfield 90, 3) := by decide +kernel
theorem dX5_ifCounted_55 : decode cX5_ifCounted 55 = .ok (.iload 6, 2) := by decide +kernel
theorem dX5_ifCounted_57 : decode cX5_ifCounted 57 = .ok (.invokevirtual 93, 3) := by decide +kernel
theorem dX5_ifCounted_60 : decode cX5_ifCounted 60 = .ok (.checkcast 97, 3) := by decide +kernel
theorem dX5_ifCounted_63 : decode cX5_ifCounted 63 = .ok (.astore 7, 2) := by decide +kernel
theorem dX5_ifCounted_65 : decode cX5_ifCounted 65 = .ok (.aload 7, 2) := by decide +kernel
theorem dX5_ifCounted_67 : decode cX5_ifCounted 67 = .ok (.getfield 99, 3) := by decide +kernel
theorem dX5_ifCounted_70 : decode cX5_ifCounted 70 = .ok (.ifCond .ne 22, 3) := by decide +kernel
theorem dX5_ifCounted_73 : decode cX5_ifCounted 73 = .ok (.aload_n 0, 1) := by decide +kernel
theorem dX5_ifCounted_74 : decode cX5_ifCounted 74 = .ok (.getfield 10, 3) := by decide +kernel
theorem dX5_ifCounted_77 : decode cX5_ifCounted 77 = .ok (.aload 7, 2) := by decide +kernel
theorem dX5_ifCounted_79 : decode cX5_ifCounted 79 = .ok (.iload_n 1, 1) := by decide +kernel
theorem dX5_ifCounted_80 : decode cX5_ifCounted 80 = .ok (.invokevirtual 198, 3) := by decide +kernel
theorem dX5_ifCounted_83 : decode cX5_ifCounted 83 = .ok (.ifCond .eq 9, 3) := by decide +kernel
theorem dX5_ifCounted_86 : decode cX5_ifCounted 86 = .ok (.iinc 4 1, 3) := by decide +kernel
theorem dX5_ifCounted_89 : decode cX5_ifCounted 89 = .ok (.goto 25, 3) := by decide +kernel
theorem dX5_ifCounted_92 : decode cX5_ifCounted 92 = .ok (.aload_n 3, 1) := by decide +kernel
theorem dX5_ifCounted_93 : decode cX5_ifCounted 93 = .ok (.aload 7, 2) := by decide +kernel
theorem dX5_ifCounted_95 : decode cX5_ifCounted 95 = .ok (.getfield 232, 3) := by decide +kernel
theorem dX5_ifCounted_98 : decode cX5_ifCounted 98 = .ok (.aload 7, 2) := by decide +kernel
theorem dX5_ifCounted_100 : decode cX5_ifCounted 100 = .ok (.getfield 188, 3) := by decide +kernel
theorem dX5_ifCounted_103 : decode cX5_ifCounted 103 = .ok (.invokevirtual 195, 3) := by decide +kernel
theorem dX5_ifCounted_106 : decode cX5_ifCounted 106 = .ok (.lconst 0, 1) := by decide +kernel
theorem dX5_ifCounted_107 : decode cX5_ifCounted 107 = .ok (.lcmp, 1) := by decide +kernel
theorem dX5_ifCounted_108 : decode cX5_ifCounted 108 = .ok (.ifCond .le 6, 3) := by decide +kernel
theorem dX5_ifCounted_111 : decode cX5_ifCounted 111 = .ok (.iinc 5 1, 3) := by decide +kernel
theorem dX5_ifCounted_114 : decode cX5_ifCounted 114 = .ok (.iinc 6 1, 3) := by decide +kernel
theorem dX5_ifCounted_117 : decode cX5_ifCounted 117 = .ok (.goto (-84), 3) := by decide +kernel
theorem dX5_ifCounted_120 : decode cX5_ifCounted 120 = .ok (.iload_n 2, 1) := by decide +kernel
theorem dX5_ifCounted_121 : decode cX5_ifCounted 121 = .ok (.ifCond .ne 8, 3) := by decide +kernel
theorem dX5_ifCounted_124 : decode cX5_ifCounted 124 = .ok (.iload 4, 2) := by decide +kernel
theorem dX5_ifCounted_126 : decode cX5_ifCounted 126 = .ok (.goto 5, 3) := by decide +kernel
theorem dX5_ifCounted_129 : decode cX5_ifCounted 129 = .ok (.iload 5, 2) := by decide +kernel
theorem dX5_ifCounted_131 : decode cX5_ifCounted 131 = .ok (.ireturn, 1) := by decide +kernel
theorem dX5_ifRun_0 : decode cX5_ifRun 0 = .ok (.iload_n 1, 1) := by decide +kernel
theorem dX5_ifRun_1 : decode cX5_ifRun 1 = .ok (.invokestatic 76, 3) := by decide +kernel
theorem dX5_ifRun_4 : decode cX5_ifRun 4 = .ok (.ifCond .ne 5, 3) := by decide +kernel
theorem dX5_ifRun_7 : decode cX5_ifRun 7 = .ok (.iconst (-1), 1) := by decide +kernel
theorem dX5_ifRun_8 : decode cX5_ifRun 8 = .ok (.ireturn, 1) := by decide +kernel
theorem dX5_ifRun_9 : decode cX5_ifRun 9 = .ok (.aload_n 0, 1) := by decide +kernel
theorem dX5_ifRun_10 : decode cX5_ifRun 10 = .ok (.getfield 10, 3) := by decide +kernel
theorem dX5_ifRun_13 : decode cX5_ifRun 13 = .ok (.iload_n 1, 1) := by decide +kernel
theorem dX5_ifRun_14 : decode cX5_ifRun 14 = .ok (.invokevirtual 87, 3) := by decide +kernel
theorem dX5_ifRun_17 : decode cX5_ifRun 17 = .ok (.istore_n 2, 1) := by decide +kernel
theorem dX5_ifRun_18 : decode cX5_ifRun 18 = .ok (.iload_n 2, 1) := by decide +kernel
theorem dX5_ifRun_19 : decode cX5_ifRun 19 = .ok (.iconst (-1), 1) := by decide +kernel
theorem dX5_ifRun_20 : decode cX5_ifRun 20 = .ok (.if_icmp .eq 33, 3) := by decide +kernel
theorem dX5_ifRun_23 : decode cX5_ifRun 23 = .ok (.aload_n 0, 1) := by decide +kernel
theorem dX5_ifRun_24 : decode cX5_ifRun 24 = .ok (.iconst 1, 1) := by decide +kernel
theorem dX5_ifRun_25 : decode cX5_ifRun 25 = .ok (.invokevirtual 163, 3) := by decide +kernel
theorem dX5_ifRun_28 : decode cX5_ifRun 28 = .ok (.iload_n 1, 1) := by decide +kernel
theorem dX5_ifRun_29 : decode cX5_ifRun 29 = .ok (.aload_n 0, 1) := by decide +kernel
theorem dX5_ifRun_30 : decode cX5_ifRun 30 = .ok (.getfield 10, 3) := by decide +kernel
theorem dX5_ifRun_33 : decode cX5_ifRun 33 = .ok (.getfield 90, 3) := by decide +kernel
theorem dX5_ifRun_36 : decode cX5_ifRun 36 = .ok (.iload_n 2, 1) := by decide +kernel
theorem dX5_ifRun_37 : decode cX5_ifRun 37 = .ok (.invokevirtual 93, 3) := by decide +kernel
theorem dX5_ifRun_40 : decode cX5_ifRun 40 = .ok (.checkcast 97, 3) := by decide +kernel
theorem dX5_ifRun_43 : decode cX5_ifRun 43 = .ok (.getfield 188, 3) := by decide +kernel
theorem dX5_ifRun_46 : decode cX5_ifRun 46 = .ok (.invokevirtual 191, 3) := by decide +kernel
theorem dX5_ifRun_49 : decode cX5_ifRun 49 = .ok (.invokestatic 83, 3) := by decide +kernel
theorem dX5_ifRun_52 : decode cX5_ifRun 52 = .ok (.ireturn, 1) := by decide +kernel
theorem dX5_ifRun_53 : decode cX5_ifRun 53 = .ok (.aload_n 0, 1) := by decide +kernel
theorem dX5_ifRun_54 : decode cX5_ifRun 54 = .ok (.iconst 0, 1) := by decide +kernel
theorem dX5_ifRun_55 : decode cX5_ifRun 55 = .ok (.invokevirtual 163, 3) := by decide +kernel
theorem dX5_ifRun_58 : decode cX5_ifRun 58 = .ok (.iload_n 1, 1) := by decide +kernel
theorem dX5_ifRun_59 : decode cX5_ifRun 59 = .ok (.invokevirtual 181, 3) := by decide +kernel
theorem dX5_ifRun_62 : decode cX5_ifRun 62 = .ok (.istore_n 3, 1) := by decide +kernel
theorem dX5_ifRun_63 : decode cX5_ifRun 63 = .ok (.iload_n 1, 1) := by decide +kernel
theorem dX5_ifRun_64 : decode cX5_ifRun 64 = .ok (.invokestatic 235, 3) := by decide +kernel
theorem dX5_ifRun_67 : decode cX5_ifRun 67 = .ok (.aload_n 0, 1) := by decide +kernel
theorem dX5_ifRun_68 : decode cX5_ifRun 68 = .ok (.iconst 1, 1) := by decide +kernel
theorem dX5_ifRun_69 : decode cX5_ifRun 69 = .ok (.invokevirtual 163, 3) := by decide +kernel
theorem dX5_ifRun_72 : decode cX5_ifRun 72 = .ok (.iload_n 1, 1) := by decide +kernel
theorem dX5_ifRun_73 : decode cX5_ifRun 73 = .ok (.iload_n 3, 1) := by decide +kernel
theorem dX5_ifRun_74 : decode cX5_ifRun 74 = .ok (.invokevirtual 191, 3) := by decide +kernel
theorem dX5_ifRun_77 : decode cX5_ifRun 77 = .ok (.ladd, 1) := by decide +kernel
theorem dX5_ifRun_78 : decode cX5_ifRun 78 = .ok (.invokestatic 83, 3) := by decide +kernel
theorem dX5_ifRun_81 : decode cX5_ifRun 81 = .ok (.ireturn, 1) := by decide +kernel
theorem dX5_leastDrift_0 : decode cX5_leastDrift 0 = .ok (.bipush 100, 2) := by decide +kernel
theorem dX5_leastDrift_2 : decode cX5_leastDrift 2 = .ok (.istore_n 1, 1) := by decide +kernel
theorem dX5_leastDrift_3 : decode cX5_leastDrift 3 = .ok (.iconst 0, 1) := by decide +kernel
theorem dX5_leastDrift_4 : decode cX5_leastDrift 4 = .ok (.istore_n 2, 1) := by decide +kernel
theorem dX5_leastDrift_5 : decode cX5_leastDrift 5 = .ok (.iload_n 2, 1) := by decide +kernel
theorem dX5_leastDrift_6 : decode cX5_leastDrift 6 = .ok (.aload_n 0, 1) := by decide +kernel
theorem dX5_leastDrift_7 : decode cX5_leastDrift 7 = .ok (.getfield 10, 3) := by decide +kernel
theorem dX5_leastDrift_10 : decode cX5_leastDrift 10 = .ok (.getfield 90, 3) := by decide +kernel
theorem dX5_leastDrift_13 : decode cX5_leastDrift 13 = .ok (.invokevirtual 202, 3) := by decide +kernel
theorem dX5_leastDrift_16 : decode cX5_leastDrift 16 = .ok (.if_icmp .ge 44, 3) := by decide +kernel
theorem dX5_leastDrift_19 : decode cX5_leastDrift 19 = .ok (.aload_n 0, 1) := by decide +kernel
theorem dX5_leastDrift_20 : decode cX5_leastDrift 20 = .ok (.getfield 10, 3) := by decide +kernel
theorem dX5_leastDrift_23 : decode cX5_leastDrift 23 = .ok (.getfield 90, 3) := by decide +kernel
theorem dX5_leastDrift_26 : decode cX5_leastDrift 26 = .ok (.iload_n 2, 1) := by decide +kernel
theorem dX5_leastDrift_27 : decode cX5_leastDrift 27 = .ok (.invokevirtual 93, 3) := by decide +kernel
theorem dX5_leastDrift_30 : decode cX5_leastDrift 30 = .ok (.checkcast 97, 3) := by decide +kernel
theorem dX5_leastDrift_33 : decode cX5_leastDrift 33 = .ok (.astore_n 3, 1) := by decide +kernel
theorem dX5_leastDrift_34 : decode cX5_leastDrift 34 = .ok (.aload_n 3, 1) := by decide +kernel
theorem dX5_leastDrift_35 : decode cX5_leastDrift 35 = .ok (.getfield 99, 3) := by decide +kernel
theorem dX5_leastDrift_38 : decode cX5_leastDrift 38 = .ok (.ifCond .ne 16, 3) := by decide +kernel
theorem dX5_leastDrift_41 : decode cX5_leastDrift 41 = .ok (.iload_n 1, 1) := by decide +kernel
theorem dX5_leastDrift_42 : decode cX5_leastDrift 42 = .ok (.aload_n 0, 1) := by decide +kernel
theorem dX5_leastDrift_43 : decode cX5_leastDrift 43 = .ok (.getfield 10, 3) := by decide +kernel
theorem dX5_leastDrift_46 : decode cX5_leastDrift 46 = .ok (.aload_n 3, 1) := by decide +kernel
theorem dX5_leastDrift_47 : decode cX5_leastDrift 47 = .ok (.invokevirtual 238, 3) := by decide +kernel
theorem dX5_leastDrift_50 : decode cX5_leastDrift 50 = .ok (.invokestatic 242, 3) := by decide +kernel
theorem dX5_leastDrift_53 : decode cX5_leastDrift 53 = .ok (.istore_n 1, 1) := by decide +kernel
theorem dX5_leastDrift_54 : decode cX5_leastDrift 54 = .ok (.iinc 2 1, 3) := by decide +kernel
theorem dX5_leastDrift_57 : decode cX5_leastDrift 57 = .ok (.goto (-52), 3) := by decide +kernel
theorem dX5_leastDrift_60 : decode cX5_leastDrift 60 = .ok (.iload_n 1, 1) := by decide +kernel
theorem dX5_leastDrift_61 : decode cX5_leastDrift 61 = .ok (.sipush 1000, 3) := by decide +kernel
theorem dX5_leastDrift_64 : decode cX5_leastDrift 64 = .ok (.if_icmp .gt 7, 3) := by decide +kernel
theorem dX5_leastDrift_67 : decode cX5_leastDrift 67 = .ok (.iload_n 1, 1) := by decide +kernel
theorem dX5_leastDrift_68 : decode cX5_leastDrift 68 = .ok (.goto 5, 3) := by decide +kernel
theorem dX5_leastDrift_71 : decode cX5_leastDrift 71 = .ok (.bipush (-4), 2) := by decide +kernel
theorem dX5_leastDrift_73 : decode cX5_leastDrift 73 = .ok (.ireturn, 1) := by decide +kernel
theorem dX5_undo_0 : decode cX5_undo 0 = .ok (.aload_n 0, 1) := by decide +kernel
theorem dX5_undo_1 : decode cX5_undo 1 = .ok (.getfield 22, 3) := by decide +kernel
theorem dX5_undo_4 : decode cX5_undo 4 = .ok (.invokevirtual 202, 3) := by decide +kernel
theorem dX5_undo_7 : decode cX5_undo 7 = .ok (.iconst 1, 1) := by decide +kernel
theorem dX5_undo_8 : decode cX5_undo 8 = .ok (.isub, 1) := by decide +kernel
theorem dX5_undo_9 : decode cX5_undo 9 = .ok (.istore_n 1, 1) := by decide +kernel
theorem dX5_undo_10 : decode cX5_undo 10 = .ok (.iload_n 1, 1) := by decide +kernel
theorem dX5_undo_11 : decode cX5_undo 11 = .ok (.ifCond .ge 6, 3) := by decide +kernel
theorem dX5_undo_14 : decode cX5_undo 14 = .ok (.bipush (-2), 2) := by decide +kernel
theorem dX5_undo_16 : decode cX5_undo 16 = .ok (.ireturn, 1) := by decide +kernel
theorem dX5_undo_17 : decode cX5_undo 17 = .ok (.aload_n 0, 1) := by decide +kernel
theorem dX5_undo_18 : decode cX5_undo 18 = .ok (.aload_n 0, 1) := by decide +kernel
theorem dX5_undo_19 : decode cX5_undo 19 = .ok (.getfield 22, 3) := by decide +kernel
theorem dX5_undo_22 : decode cX5_undo 22 = .ok (.iload_n 1, 1) := by decide +kernel
theorem dX5_undo_23 : decode cX5_undo 23 = .ok (.invokevirtual 115, 3) := by decide +kernel
theorem dX5_undo_26 : decode cX5_undo 26 = .ok (.checkcast 7, 3) := by decide +kernel
theorem dX5_undo_29 : decode cX5_undo 29 = .ok (.putfield 10, 3) := by decide +kernel
theorem dX5_undo_32 : decode cX5_undo 32 = .ok (.iload_n 1, 1) := by decide +kernel
theorem dX5_undo_33 : decode cX5_undo 33 = .ok (.ireturn, 1) := by decide +kernel
theorem dX5_save_0 : decode cX5_save 0 = .ok (.aload_n 0, 1) := by decide +kernel
theorem dX5_save_1 : decode cX5_save 1 = .ok (.new 7, 3) := by decide +kernel
theorem dX5_save_4 : decode cX5_save 4 = .ok (.dup, 1) := by decide +kernel
theorem dX5_save_5 : decode cX5_save 5 = .ok (.aload_n 0, 1) := by decide +kernel
theorem dX5_save_6 : decode cX5_save 6 = .ok (.getfield 10, 3) := by decide +kernel
theorem dX5_save_9 : decode cX5_save 9 = .ok (.invokespecial 247, 3) := by decide +kernel
theorem dX5_save_12 : decode cX5_save 12 = .ok (.putfield 16, 3) := by decide +kernel
theorem dX5_save_15 : decode cX5_save 15 = .ok (.aload_n 0, 1) := by decide +kernel
theorem dX5_save_16 : decode cX5_save 16 = .ok (.getfield 10, 3) := by decide +kernel
theorem dX5_save_19 : decode cX5_save 19 = .ok (.getfield 90, 3) := by decide +kernel
theorem dX5_save_22 : decode cX5_save 22 = .ok (.invokevirtual 202, 3) := by decide +kernel
theorem dX5_save_25 : decode cX5_save 25 = .ok (.ireturn, 1) := by decide +kernel
theorem dX5_restore_0 : decode cX5_restore 0 = .ok (.aload_n 0, 1) := by decide +kernel
theorem dX5_restore_1 : decode cX5_restore 1 = .ok (.getfield 16, 3) := by decide +kernel
theorem dX5_restore_4 : decode cX5_restore 4 = .ok (.ifnonnull 6, 3) := by decide +kernel
theorem dX5_restore_7 : decode cX5_restore 7 = .ok (.bipush (-2), 2) := by decide +kernel
theorem dX5_restore_9 : decode cX5_restore 9 = .ok (.ireturn, 1) := by decide +kernel
theorem dX5_restore_10 : decode cX5_restore 10 = .ok (.aload_n 0, 1) := by decide +kernel
theorem dX5_restore_11 : decode cX5_restore 11 = .ok (.invokevirtual 51, 3) := by decide +kernel
theorem dX5_restore_14 : decode cX5_restore 14 = .ok (.aload_n 0, 1) := by decide +kernel
theorem dX5_restore_15 : decode cX5_restore 15 = .ok (.new 7, 3) := by decide +kernel
theorem dX5_restore_18 : decode cX5_restore 18 = .ok (.dup, 1) := by decide +kernel
theorem dX5_restore_19 : decode cX5_restore 19 = .ok (.aload_n 0, 1) := by decide +kernel
theorem dX5_restore_20 : decode cX5_restore 20 = .ok (.getfield 16, 3) := by decide +kernel
theorem dX5_restore_23 : decode cX5_restore 23 = .ok (.invokespecial 247, 3) := by decide +kernel
theorem dX5_restore_26 : decode cX5_restore 26 = .ok (.putfield 10, 3) := by decide +kernel
theorem dX5_restore_29 : decode cX5_restore 29 = .ok (.aload_n 0, 1) := by decide +kernel
theorem dX5_restore_30 : decode cX5_restore 30 = .ok (.getfield 10, 3) := by decide +kernel
theorem dX5_restore_33 : decode cX5_restore 33 = .ok (.getfield 90, 3) := by decide +kernel
theorem dX5_restore_36 : decode cX5_restore 36 = .ok (.invokevirtual 202, 3) := by decide +kernel
theorem dX5_restore_39 : decode cX5_restore 39 = .ok (.ireturn, 1) := by decide +kernel
theorem dX5_remember_0 : decode cX5_remember 0 = .ok (.aload_n 0, 1) := by decide +kernel
theorem dX5_remember_1 : decode cX5_remember 1 = .ok (.getfield 22, 3) := by decide +kernel
theorem dX5_remember_4 : decode cX5_remember 4 = .ok (.new 7, 3) := by decide +kernel
theorem dX5_remember_7 : decode cX5_remember 7 = .ok (.dup, 1) := by decide +kernel
theorem dX5_remember_8 : decode cX5_remember 8 = .ok (.aload_n 0, 1) := by decide +kernel
theorem dX5_remember_9 : decode cX5_remember 9 = .ok (.getfield 10, 3) := by decide +kernel
theorem dX5_remember_12 : decode cX5_remember 12 = .ok (.invokespecial 247, 3) := by decide +kernel
theorem dX5_remember_15 : decode cX5_remember 15 = .ok (.invokevirtual 250, 3) := by decide +kernel
theorem dX5_remember_18 : decode cX5_remember 18 = .ok (.pop, 1) := by decide +kernel
theorem dX5_remember_19 : decode cX5_remember 19 = .ok (.aload_n 0, 1) := by decide +kernel
theorem dX5_remember_20 : decode cX5_remember 20 = .ok (.getfield 22, 3) := by decide +kernel
theorem dX5_remember_23 : decode cX5_remember 23 = .ok (.invokevirtual 202, 3) := by decide +kernel
theorem dX5_remember_26 : decode cX5_remember 26 = .ok (.iconst 4, 1) := by decide +kernel
theorem dX5_remember_27 : decode cX5_remember 27 = .ok (.if_icmp .le 12, 3) := by decide +kernel
theorem dX5_remember_30 : decode cX5_remember 30 = .ok (.aload_n 0, 1) := by decide +kernel
theorem dX5_remember_31 : decode cX5_remember 31 = .ok (.getfield 22, 3) := by decide +kernel
theorem dX5_remember_34 : decode cX5_remember 34 = .ok (.iconst 0, 1) := by decide +kernel
theorem dX5_remember_35 : decode cX5_remember 35 = .ok (.invokevirtual 115, 3) := by decide +kernel
theorem dX5_remember_38 : decode cX5_remember 38 = .ok (.pop, 1) := by decide +kernel
theorem dX5_remember_39 : decode cX5_remember 39 = .ok (.return_, 1) := by decide +kernel
theorem dX5_reckoned_0 : decode cX5_reckoned 0 = .ok (.aload_n 0, 1) := by decide +kernel
theorem dX5_reckoned_1 : decode cX5_reckoned 1 = .ok (.getfield 29, 3) := by decide +kernel
theorem dX5_reckoned_4 : decode cX5_reckoned 4 = .ok (.iload_n 1, 1) := by decide +kernel
theorem dX5_reckoned_5 : decode cX5_reckoned 5 = .ok (.ifCond .eq 13, 3) := by decide +kernel
theorem dX5_reckoned_8 : decode cX5_reckoned 8 = .ok (.aload_n 0, 1) := by decide +kernel
theorem dX5_reckoned_9 : decode cX5_reckoned 9 = .ok (.getfield 10, 3) := by decide +kernel
theorem dX5_reckoned_12 : decode cX5_reckoned 12 = .ok (.getfield 54, 3) := by decide +kernel
theorem dX5_reckoned_15 : decode cX5_reckoned 15 = .ok (.goto 10, 3) := by decide +kernel
theorem dX5_reckoned_18 : decode cX5_reckoned 18 = .ok (.aload_n 0, 1) := by decide +kernel
theorem dX5_reckoned_19 : decode cX5_reckoned 19 = .ok (.getfield 10, 3) := by decide +kernel
theorem dX5_reckoned_22 : decode cX5_reckoned 22 = .ok (.getfield 153, 3) := by decide +kernel
theorem dX5_reckoned_25 : decode cX5_reckoned 25 = .ok (.aload_n 0, 1) := by decide +kernel
theorem dX5_reckoned_26 : decode cX5_reckoned 26 = .ok (.getfield 10, 3) := by decide +kernel
theorem dX5_reckoned_29 : decode cX5_reckoned 29 = .ok (.getfield 62, 3) := by decide +kernel
theorem dX5_reckoned_32 : decode cX5_reckoned 32 = .ok (.invokevirtual 254, 3) := by decide +kernel
theorem dX5_reckoned_35 : decode cX5_reckoned 35 = .ok (.aload_n 0, 1) := by decide +kernel
theorem dX5_reckoned_36 : decode cX5_reckoned 36 = .ok (.getfield 29, 3) := by decide +kernel
theorem dX5_reckoned_39 : decode cX5_reckoned 39 = .ok (.areturn, 1) := by decide +kernel
theorem dX5_runQuery_0 : decode cX5_runQuery 0 = .ok (.aload_n 0, 1) := by decide +kernel
theorem dX5_runQuery_1 : decode cX5_runQuery 1 = .ok (.getfield 10, 3) := by decide +kernel
theorem dX5_runQuery_4 : decode cX5_runQuery 4 = .ok (.iload_n 1, 1) := by decide +kernel
theorem dX5_runQuery_5 : decode cX5_runQuery 5 = .ok (.invokevirtual 87, 3) := by decide +kernel
theorem dX5_runQuery_8 : decode cX5_runQuery 8 = .ok (.istore_n 2, 1) := by decide +kernel
theorem dX5_runQuery_9 : decode cX5_runQuery 9 = .ok (.lconst 0, 1) := by decide +kernel
theorem dX5_runQuery_10 : decode cX5_runQuery 10 = .ok (.lstore 4, 2) := by decide +kernel
theorem dX5_runQuery_12 : decode cX5_runQuery 12 = .ok (.iload_n 2, 1) := by decide +kernel
theorem dX5_runQuery_13 : decode cX5_runQuery 13 = .ok (.iconst (-1), 1) := by decide +kernel
theorem dX5_runQuery_14 : decode cX5_runQuery 14 = .ok (.if_icmp .eq 32, 3) := by decide +kernel
theorem dX5_runQuery_17 : decode cX5_runQuery 17 = .ok (.aload_n 0, 1) := by decide +kernel
theorem dX5_runQuery_18 : decode cX5_runQuery 18 = .ok (.getfield 10, 3) := by decide +kernel
theorem dX5_runQuery_21 : decode cX5_runQuery 21 = .ok (.getfield 90, 3) := by decide +kernel
theorem dX5_runQuery_24 : decode cX5_runQuery 24 = .ok (.iload_n 2, 1) := by decide +kernel
theorem dX5_runQuery_25 : decode cX5_runQuery 25 = .ok (.invokevirtual 93, 3) := by decide +kernel
theorem dX5_runQuery_28 : decode cX5_runQuery 28 = .ok (.checkcast 97, 3) := by decide +kernel
theorem dX5_runQuery_31 : decode cX5_runQuery 31 = .ok (.getfield 188, 3) := by decide +kernel
theorem dX5_runQuery_34 : decode cX5_runQuery 34 = .ok (.istore_n 3, 1) := by decide +kernel
theorem dX5_runQuery_35 : decode cX5_runQuery 35 = .ok (.aload_n 0, 1) := by decide +kernel
theorem dX5_runQuery_36 : decode cX5_runQuery 36 = .ok (.getfield 10, 3) := by decide +kernel
theorem dX5_runQuery_39 : decode cX5_runQuery 39 = .ok (.iload_n 2, 1) := by decide +kernel
theorem dX5_runQuery_40 : decode cX5_runQuery 40 = .ok (.invokevirtual 258, 3) := by decide +kernel
theorem dX5_runQuery_43 : decode cX5_runQuery 43 = .ok (.goto 30, 3) := by decide +kernel
theorem dX5_runQuery_46 : decode cX5_runQuery 46 = .ok (.aload_n 0, 1) := by decide +kernel
theorem dX5_runQuery_47 : decode cX5_runQuery 47 = .ok (.iconst 0, 1) := by decide +kernel
theorem dX5_runQuery_48 : decode cX5_runQuery 48 = .ok (.invokevirtual 163, 3) := by decide +kernel
theorem dX5_runQuery_51 : decode cX5_runQuery 51 = .ok (.iload_n 1, 1) := by decide +kernel
theorem dX5_runQuery_52 : decode cX5_runQuery 52 = .ok (.invokevirtual 181, 3) := by decide +kernel
theorem dX5_runQuery_55 : decode cX5_runQuery 55 = .ok (.istore_n 3, 1) := by decide +kernel
theorem dX5_runQuery_56 : decode cX5_runQuery 56 = .ok (.iload_n 1, 1) := by decide +kernel
theorem dX5_runQuery_57 : decode cX5_runQuery 57 = .ok (.invokestatic 235, 3) := by decide +kernel
theorem dX5_runQuery_60 : decode cX5_runQuery 60 = .ok (.lstore 4, 2) := by decide +kernel
theorem dX5_runQuery_62 : decode cX5_runQuery 62 = .ok (.aload_n 0, 1) := by decide +kernel
theorem dX5_runQuery_63 : decode cX5_runQuery 63 = .ok (.getfield 10, 3) := by decide +kernel
theorem dX5_runQuery_66 : decode cX5_runQuery 66 = .ok (.iload_n 1, 1) := by decide +kernel
theorem dX5_runQuery_67 : decode cX5_runQuery 67 = .ok (.iload_n 3, 1) := by decide +kernel
theorem dX5_runQuery_68 : decode cX5_runQuery 68 = .ok (.lload 4, 2) := by decide +kernel
theorem dX5_runQuery_70 : decode cX5_runQuery 70 = .ok (.invokevirtual 262, 3) := by decide +kernel
theorem dX5_runQuery_73 : decode cX5_runQuery 73 = .ok (.aload_n 0, 1) := by decide +kernel
theorem dX5_runQuery_74 : decode cX5_runQuery 74 = .ok (.iconst 1, 1) := by decide +kernel
theorem dX5_runQuery_75 : decode cX5_runQuery 75 = .ok (.invokevirtual 163, 3) := by decide +kernel
theorem dX5_runQuery_78 : decode cX5_runQuery 78 = .ok (.iload_n 1, 1) := by decide +kernel
theorem dX5_runQuery_79 : decode cX5_runQuery 79 = .ok (.iload_n 3, 1) := by decide +kernel
theorem dX5_runQuery_80 : decode cX5_runQuery 80 = .ok (.invokevirtual 191, 3) := by decide +kernel
theorem dX5_runQuery_83 : decode cX5_runQuery 83 = .ok (.lstore 6, 2) := by decide +kernel
theorem dX5_runQuery_85 : decode cX5_runQuery 85 = .ok (.aload_n 0, 1) := by decide +kernel
theorem dX5_runQuery_86 : decode cX5_runQuery 86 = .ok (.getfield 10, 3) := by decide +kernel
theorem dX5_runQuery_89 : decode cX5_runQuery 89 = .ok (.dup, 1) := by decide +kernel
theorem dX5_runQuery_90 : decode cX5_runQuery 90 = .ok (.getfield 214, 3) := by decide +kernel
theorem dX5_runQuery_93 : decode cX5_runQuery 93 = .ok (.lload 6, 2) := by decide +kernel
theorem dX5_runQuery_95 : decode cX5_runQuery 95 = .ok (.ladd, 1) := by decide +kernel
theorem dX5_runQuery_96 : decode cX5_runQuery 96 = .ok (.putfield 214, 3) := by decide +kernel
theorem dX5_runQuery_99 : decode cX5_runQuery 99 = .ok (.aload_n 0, 1) := by decide +kernel
theorem dX5_runQuery_100 : decode cX5_runQuery 100 = .ok (.getfield 10, 3) := by decide +kernel
theorem dX5_runQuery_103 : decode cX5_runQuery 103 = .ok (.iload_n 1, 1) := by decide +kernel
theorem dX5_runQuery_104 : decode cX5_runQuery 104 = .ok (.invokevirtual 73, 3) := by decide +kernel
theorem dX5_runQuery_107 : decode cX5_runQuery 107 = .ok (.pop, 1) := by decide +kernel
theorem dX5_runQuery_108 : decode cX5_runQuery 108 = .ok (.lload 4, 2) := by decide +kernel
theorem dX5_runQuery_110 : decode cX5_runQuery 110 = .ok (.lload 6, 2) := by decide +kernel
theorem dX5_runQuery_112 : decode cX5_runQuery 112 = .ok (.ladd, 1) := by decide +kernel
theorem dX5_runQuery_113 : decode cX5_runQuery 113 = .ok (.lreturn, 1) := by decide +kernel
theorem dX5_carryOutDeed_0 : decode cX5_carryOutDeed 0 = .ok (.aload_n 1, 1) := by decide +kernel
theorem dX5_carryOutDeed_1 : decode cX5_carryOutDeed 1 = .ok (.getfield 266, 3) := by decide +kernel
theorem dX5_carryOutDeed_4 : decode cX5_carryOutDeed 4 = .ok (.lookupswitch 92 #[(99, 75), (113, 36), (114, 47)], 36) := by decide +kernel
theorem dX5_carryOutDeed_40 : decode cX5_carryOutDeed 40 = .ok (.aload_n 0, 1) := by decide +kernel
theorem dX5_carryOutDeed_41 : decode cX5_carryOutDeed 41 = .ok (.aload_n 1, 1) := by decide +kernel
theorem dX5_carryOutDeed_42 : decode cX5_carryOutDeed 42 = .ok (.getfield 270, 3) := by decide +kernel
theorem dX5_carryOutDeed_45 : decode cX5_carryOutDeed 45 = .ok (.invokevirtual 79, 3) := by decide +kernel
theorem dX5_carryOutDeed_48 : decode cX5_carryOutDeed 48 = .ok (.pop2, 1) := by decide +kernel
theorem dX5_carryOutDeed_49 : decode cX5_carryOutDeed 49 = .ok (.iconst 1, 1) := by decide +kernel
theorem dX5_carryOutDeed_50 : decode cX5_carryOutDeed 50 = .ok (.ireturn, 1) := by decide +kernel
theorem dX5_carryOutDeed_51 : decode cX5_carryOutDeed 51 = .ok (.aload_n 1, 1) := by decide +kernel
theorem dX5_carryOutDeed_52 : decode cX5_carryOutDeed 52 = .ok (.getfield 273, 3) := by decide +kernel
theorem dX5_carryOutDeed_55 : decode cX5_carryOutDeed 55 = .ok (.invokestatic 47, 3) := by decide +kernel
theorem dX5_carryOutDeed_58 : decode cX5_carryOutDeed 58 = .ok (.ifCond .eq 19, 3) := by decide +kernel
theorem dX5_carryOutDeed_61 : decode cX5_carryOutDeed 61 = .ok (.aload_n 0, 1) := by decide +kernel
theorem dX5_carryOutDeed_62 : decode cX5_carryOutDeed 62 = .ok (.getfield 10, 3) := by decide +kernel
theorem dX5_carryOutDeed_65 : decode cX5_carryOutDeed 65 = .ok (.getfield 54, 3) := by decide +kernel
theorem dX5_carryOutDeed_68 : decode cX5_carryOutDeed 68 = .ok (.aload_n 1, 1) := by decide +kernel
theorem dX5_carryOutDeed_69 : decode cX5_carryOutDeed 69 = .ok (.getfield 273, 3) := by decide +kernel
theorem dX5_carryOutDeed_72 : decode cX5_carryOutDeed 72 = .ok (.aload_n 1, 1) := by decide +kernel
theorem dX5_carryOutDeed_73 : decode cX5_carryOutDeed 73 = .ok (.getfield 276, 3) := by decide +kernel
theorem dX5_carryOutDeed_76 : decode cX5_carryOutDeed 76 = .ok (.iastore, 1) := by decide +kernel
theorem dX5_carryOutDeed_77 : decode cX5_carryOutDeed 77 = .ok (.iconst 1, 1) := by decide +kernel
theorem dX5_carryOutDeed_78 : decode cX5_carryOutDeed 78 = .ok (.ireturn, 1) := by decide +kernel
theorem dX5_carryOutDeed_79 : decode cX5_carryOutDeed 79 = .ok (.aload_n 0, 1) := by decide +kernel
theorem dX5_carryOutDeed_80 : decode cX5_carryOutDeed 80 = .ok (.getfield 10, 3) := by decide +kernel
theorem dX5_carryOutDeed_83 : decode cX5_carryOutDeed 83 = .ok (.aload_n 1, 1) := by decide +kernel
theorem dX5_carryOutDeed_84 : decode cX5_carryOutDeed 84 = .ok (.getfield 273, 3) := by decide +kernel
theorem dX5_carryOutDeed_87 : decode cX5_carryOutDeed 87 = .ok (.invokestatic 66, 3) := by decide +kernel
theorem dX5_carryOutDeed_90 : decode cX5_carryOutDeed 90 = .ok (.invokevirtual 73, 3) := by decide +kernel
theorem dX5_carryOutDeed_93 : decode cX5_carryOutDeed 93 = .ok (.pop, 1) := by decide +kernel
theorem dX5_carryOutDeed_94 : decode cX5_carryOutDeed 94 = .ok (.iconst 1, 1) := by decide +kernel
theorem dX5_carryOutDeed_95 : decode cX5_carryOutDeed 95 = .ok (.ireturn, 1) := by decide +kernel
theorem dX5_carryOutDeed_96 : decode cX5_carryOutDeed 96 = .ok (.aload_n 0, 1) := by decide +kernel
theorem dX5_carryOutDeed_97 : decode cX5_carryOutDeed 97 = .ok (.getfield 10, 3) := by decide +kernel
theorem dX5_carryOutDeed_100 : decode cX5_carryOutDeed 100 = .ok (.aload_n 1, 1) := by decide +kernel
theorem dX5_carryOutDeed_101 : decode cX5_carryOutDeed 101 = .ok (.getfield 270, 3) := by decide +kernel
theorem dX5_carryOutDeed_104 : decode cX5_carryOutDeed 104 = .ok (.invokevirtual 87, 3) := by decide +kernel
theorem dX5_carryOutDeed_107 : decode cX5_carryOutDeed 107 = .ok (.istore_n 2, 1) := by decide +kernel
theorem dX5_carryOutDeed_108 : decode cX5_carryOutDeed 108 = .ok (.iload_n 2, 1) := by decide +kernel
theorem dX5_carryOutDeed_109 : decode cX5_carryOutDeed 109 = .ok (.iconst (-1), 1) := by decide +kernel
theorem dX5_carryOutDeed_110 : decode cX5_carryOutDeed 110 = .ok (.if_icmp .ne 5, 3) := by decide +kernel
theorem dX5_carryOutDeed_113 : decode cX5_carryOutDeed 113 = .ok (.iconst 0, 1) := by decide +kernel
theorem dX5_carryOutDeed_114 : decode cX5_carryOutDeed 114 = .ok (.ireturn, 1) := by decide +kernel
theorem dX5_carryOutDeed_115 : decode cX5_carryOutDeed 115 = .ok (.aload_n 0, 1) := by decide +kernel
theorem dX5_carryOutDeed_116 : decode cX5_carryOutDeed 116 = .ok (.getfield 10, 3) := by decide +kernel
theorem dX5_carryOutDeed_119 : decode cX5_carryOutDeed 119 = .ok (.iload_n 2, 1) := by decide +kernel
theorem dX5_carryOutDeed_120 : decode cX5_carryOutDeed 120 = .ok (.iconst 1, 1) := by decide +kernel
theorem dX5_carryOutDeed_121 : decode cX5_carryOutDeed 121 = .ok (.invokevirtual 103, 3) := by decide +kernel
theorem dX5_carryOutDeed_124 : decode cX5_carryOutDeed 124 = .ok (.iconst 1, 1) := by decide +kernel
theorem dX5_carryOutDeed_125 : decode cX5_carryOutDeed 125 = .ok (.ireturn, 1) := by decide +kernel
theorem dX5_told_0 : decode cX5_told 0 = .ok (.lload_n 0, 1) := by decide +kernel
theorem dX5_told_1 : decode cX5_told 1 = .ok (.ldc2_w 279, 3) := by decide +kernel
theorem dX5_told_4 : decode cX5_told 4 = .ok (.invokestatic 281, 3) := by decide +kernel
theorem dX5_told_7 : decode cX5_told 7 = .ok (.l2i, 1) := by decide +kernel
theorem dX5_told_8 : decode cX5_told 8 = .ok (.ireturn, 1) := by decide +kernel
theorem dX5_isTable_0 : decode cX5_isTable 0 = .ok (.iload_n 0, 1) := by decide +kernel
theorem dX5_isTable_1 : decode cX5_isTable 1 = .ok (.ifCond .lt 12, 3) := by decide +kernel
theorem dX5_isTable_4 : decode cX5_isTable 4 = .ok (.iload_n 0, 1) := by decide +kernel
theorem dX5_isTable_5 : decode cX5_isTable 5 = .ok (.iconst 5, 1) := by decide +kernel
theorem dX5_isTable_6 : decode cX5_isTable 6 = .ok (.if_icmp .ge 7, 3) := by decide +kernel
theorem dX5_isTable_9 : decode cX5_isTable 9 = .ok (.iconst 1, 1) := by decide +kernel
theorem dX5_isTable_10 : decode cX5_isTable 10 = .ok (.goto 4, 3) := by decide +kernel
theorem dX5_isTable_13 : decode cX5_isTable 13 = .ok (.iconst 0, 1) := by decide +kernel
theorem dX5_isTable_14 : decode cX5_isTable 14 = .ok (.ireturn, 1) := by decide +kernel
theorem dX5_isJoin_0 : decode cX5_isJoin 0 = .ok (.iload_n 0, 1) := by decide +kernel
theorem dX5_isJoin_1 : decode cX5_isJoin 1 = .ok (.invokestatic 47, 3) := by decide +kernel
theorem dX5_isJoin_4 : decode cX5_isJoin 4 = .ok (.ifCond .eq 19, 3) := by decide +kernel
theorem dX5_isJoin_7 : decode cX5_isJoin 7 = .ok (.iload_n 1, 1) := by decide +kernel
theorem dX5_isJoin_8 : decode cX5_isJoin 8 = .ok (.invokestatic 47, 3) := by decide +kernel
theorem dX5_isJoin_11 : decode cX5_isJoin 11 = .ok (.ifCond .eq 12, 3) := by decide +kernel
theorem dX5_isJoin_14 : decode cX5_isJoin 14 = .ok (.iload_n 0, 1) := by decide +kernel
theorem dX5_isJoin_15 : decode cX5_isJoin 15 = .ok (.iload_n 1, 1) := by decide +kernel
theorem dX5_isJoin_16 : decode cX5_isJoin 16 = .ok (.if_icmp .eq 7, 3) := by decide +kernel
theorem dX5_isJoin_19 : decode cX5_isJoin 19 = .ok (.iconst 1, 1) := by decide +kernel
theorem dX5_isJoin_20 : decode cX5_isJoin 20 = .ok (.goto 4, 3) := by decide +kernel
theorem dX5_isJoin_23 : decode cX5_isJoin 23 = .ok (.iconst 0, 1) := by decide +kernel
theorem dX5_isJoin_24 : decode cX5_isJoin 24 = .ok (.ireturn, 1) := by decide +kernel
theorem dX5_isSet_0 : decode cX5_isSet 0 = .ok (.iload_n 0, 1) := by decide +kernel
theorem dX5_isSet_1 : decode cX5_isSet 1 = .ok (.ifCond .le 13, 3) := by decide +kernel
theorem dX5_isSet_4 : decode cX5_isSet 4 = .ok (.iload_n 0, 1) := by decide +kernel
theorem dX5_isSet_5 : decode cX5_isSet 5 = .ok (.bipush 32, 2) := by decide +kernel
theorem dX5_isSet_7 : decode cX5_isSet 7 = .ok (.if_icmp .ge 7, 3) := by decide +kernel
theorem dX5_isSet_10 : decode cX5_isSet 10 = .ok (.iconst 1, 1) := by decide +kernel
theorem dX5_isSet_11 : decode cX5_isSet 11 = .ok (.goto 4, 3) := by decide +kernel
theorem dX5_isSet_14 : decode cX5_isSet 14 = .ok (.iconst 0, 1) := by decide +kernel
theorem dX5_isSet_15 : decode cX5_isSet 15 = .ok (.ireturn, 1) := by decide +kernel
theorem dX5_bit_0 : decode cX5_bit 0 = .ok (.iconst 1, 1) := by decide +kernel
theorem dX5_bit_1 : decode cX5_bit 1 = .ok (.iload_n 0, 1) := by decide +kernel
theorem dX5_bit_2 : decode cX5_bit 2 = .ok (.ishl, 1) := by decide +kernel
theorem dX5_bit_3 : decode cX5_bit 3 = .ok (.ireturn, 1) := by decide +kernel
theorem dX5_has_0 : decode cX5_has 0 = .ok (.iload_n 0, 1) := by decide +kernel
theorem dX5_has_1 : decode cX5_has 1 = .ok (.iload_n 1, 1) := by decide +kernel
theorem dX5_has_2 : decode cX5_has 2 = .ok (.ishr, 1) := by decide +kernel
theorem dX5_has_3 : decode cX5_has 3 = .ok (.iconst 1, 1) := by decide +kernel
theorem dX5_has_4 : decode cX5_has 4 = .ok (.iand, 1) := by decide +kernel
theorem dX5_has_5 : decode cX5_has 5 = .ok (.iconst 1, 1) := by decide +kernel
theorem dX5_has_6 : decode cX5_has 6 = .ok (.if_icmp .ne 7, 3) := by decide +kernel
theorem dX5_has_9 : decode cX5_has 9 = .ok (.iconst 1, 1) := by decide +kernel
theorem dX5_has_10 : decode cX5_has 10 = .ok (.goto 4, 3) := by decide +kernel
theorem dX5_has_13 : decode cX5_has 13 = .ok (.iconst 0, 1) := by decide +kernel
theorem dX5_has_14 : decode cX5_has 14 = .ok (.ireturn, 1) := by decide +kernel
theorem dX5_hasAll_0 : decode cX5_hasAll 0 = .ok (.iload_n 0, 1) := by decide +kernel
theorem dX5_hasAll_1 : decode cX5_hasAll 1 = .ok (.iload_n 1, 1) := by decide +kernel
theorem dX5_hasAll_2 : decode cX5_hasAll 2 = .ok (.iand, 1) := by decide +kernel
theorem dX5_hasAll_3 : decode cX5_hasAll 3 = .ok (.iload_n 1, 1) := by decide +kernel
theorem dX5_hasAll_4 : decode cX5_hasAll 4 = .ok (.if_icmp .ne 7, 3) := by decide +kernel
theorem dX5_hasAll_7 : decode cX5_hasAll 7 = .ok (.iconst 1, 1) := by decide +kernel
theorem dX5_hasAll_8 : decode cX5_hasAll 8 = .ok (.goto 4, 3) := by decide +kernel
theorem dX5_hasAll_11 : decode cX5_hasAll 11 = .ok (.iconst 0, 1) := by decide +kernel
theorem dX5_hasAll_12 : decode cX5_hasAll 12 = .ok (.ireturn, 1) := by decide +kernel
theorem dX5_makingCost_0 : decode cX5_makingCost 0 = .ok (.ldc2_w 285, 3) := by decide +kernel
theorem dX5_makingCost_3 : decode cX5_makingCost 3 = .ok (.iload_n 0, 1) := by decide +kernel
theorem dX5_makingCost_4 : decode cX5_makingCost 4 = .ok (.invokestatic 176, 3) := by decide +kernel
theorem dX5_makingCost_7 : decode cX5_makingCost 7 = .ok (.i2l, 1) := by decide +kernel
theorem dX5_makingCost_8 : decode cX5_makingCost 8 = .ok (.lmul, 1) := by decide +kernel
theorem dX5_makingCost_9 : decode cX5_makingCost 9 = .ok (.lreturn, 1) := by decide +kernel
theorem dX5_longerOrder_0 : decode cX5_longerOrder 0 = .ok (.iload_n 0, 1) := by decide +kernel
theorem dX5_longerOrder_1 : decode cX5_longerOrder 1 = .ok (.iconst 3, 1) := by decide +kernel
theorem dX5_longerOrder_2 : decode cX5_longerOrder 2 = .ok (.ishl, 1) := by decide +kernel
theorem dX5_longerOrder_3 : decode cX5_longerOrder 3 = .ok (.iload_n 1, 1) := by decide +kernel
theorem dX5_longerOrder_4 : decode cX5_longerOrder 4 = .ok (.iadd, 1) := by decide +kernel
theorem dX5_longerOrder_5 : decode cX5_longerOrder 5 = .ok (.ireturn, 1) := by decide +kernel
theorem dX5_tableAt_0 : decode cX5_tableAt 0 = .ok (.iload_n 0, 1) := by decide +kernel
theorem dX5_tableAt_1 : decode cX5_tableAt 1 = .ok (.iconst 3, 1) := by decide +kernel
theorem dX5_tableAt_2 : decode cX5_tableAt 2 = .ok (.iload_n 1, 1) := by decide +kernel
theorem dX5_tableAt_3 : decode cX5_tableAt 3 = .ok (.iconst 1, 1) := by decide +kernel
theorem dX5_tableAt_4 : decode cX5_tableAt 4 = .ok (.isub, 1) := by decide +kernel
theorem dX5_tableAt_5 : decode cX5_tableAt 5 = .ok (.iload_n 2, 1) := by decide +kernel
theorem dX5_tableAt_6 : decode cX5_tableAt 6 = .ok (.isub, 1) := by decide +kernel
theorem dX5_tableAt_7 : decode cX5_tableAt 7 = .ok (.imul, 1) := by decide +kernel
theorem dX5_tableAt_8 : decode cX5_tableAt 8 = .ok (.ishr, 1) := by decide +kernel
theorem dX5_tableAt_9 : decode cX5_tableAt 9 = .ok (.bipush 7, 2) := by decide +kernel
theorem dX5_tableAt_11 : decode cX5_tableAt 11 = .ok (.iand, 1) := by decide +kernel
theorem dX5_tableAt_12 : decode cX5_tableAt 12 = .ok (.ireturn, 1) := by decide +kernel
theorem dX5_driftDown_0 : decode cX5_driftDown 0 = .ok (.iload_n 0, 1) := by decide +kernel
theorem dX5_driftDown_1 : decode cX5_driftDown 1 = .ok (.iload_n 1, 1) := by decide +kernel
theorem dX5_driftDown_2 : decode cX5_driftDown 2 = .ok (.invokestatic 287, 3) := by decide +kernel
theorem dX5_driftDown_5 : decode cX5_driftDown 5 = .ok (.istore_n 2, 1) := by decide +kernel
theorem dX5_driftDown_6 : decode cX5_driftDown 6 = .ok (.iload_n 2, 1) := by decide +kernel
theorem dX5_driftDown_7 : decode cX5_driftDown 7 = .ok (.ifCond .le 16, 3) := by decide +kernel
theorem dX5_driftDown_10 : decode cX5_driftDown 10 = .ok (.iload_n 0, 1) := by decide +kernel
theorem dX5_driftDown_11 : decode cX5_driftDown 11 = .ok (.iload_n 1, 1) := by decide +kernel
theorem dX5_driftDown_12 : decode cX5_driftDown 12 = .ok (.invokestatic 242, 3) := by decide +kernel
theorem dX5_driftDown_15 : decode cX5_driftDown 15 = .ok (.bipush 100, 2) := by decide +kernel
theorem dX5_driftDown_17 : decode cX5_driftDown 17 = .ok (.imul, 1) := by decide +kernel
theorem dX5_driftDown_18 : decode cX5_driftDown 18 = .ok (.iload_n 2, 1) := by decide +kernel
theorem dX5_driftDown_19 : decode cX5_driftDown 19 = .ok (.idiv, 1) := by decide +kernel
theorem dX5_driftDown_20 : decode cX5_driftDown 20 = .ok (.goto 4, 3) := by decide +kernel
theorem dX5_driftDown_23 : decode cX5_driftDown 23 = .ok (.iconst 0, 1) := by decide +kernel
theorem dX5_driftDown_24 : decode cX5_driftDown 24 = .ok (.ireturn, 1) := by decide +kernel
theorem dX5_driftUp_0 : decode cX5_driftUp 0 = .ok (.iload_n 0, 1) := by decide +kernel
theorem dX5_driftUp_1 : decode cX5_driftUp 1 = .ok (.iload_n 1, 1) := by decide +kernel
theorem dX5_driftUp_2 : decode cX5_driftUp 2 = .ok (.invokestatic 287, 3) := by decide +kernel
theorem dX5_driftUp_5 : decode cX5_driftUp 5 = .ok (.istore_n 2, 1) := by decide +kernel
theorem dX5_driftUp_6 : decode cX5_driftUp 6 = .ok (.iload_n 2, 1) := by decide +kernel
theorem dX5_driftUp_7 : decode cX5_driftUp 7 = .ok (.ifCond .le 20, 3) := by decide +kernel
theorem dX5_driftUp_10 : decode cX5_driftUp 10 = .ok (.iload_n 0, 1) := by decide +kernel
theorem dX5_driftUp_11 : decode cX5_driftUp 11 = .ok (.iload_n 1, 1) := by decide +kernel
theorem dX5_driftUp_12 : decode cX5_driftUp 12 = .ok (.invokestatic 242, 3) := by decide +kernel
theorem dX5_driftUp_15 : decode cX5_driftUp 15 = .ok (.bipush 100, 2) := by decide +kernel
theorem dX5_driftUp_17 : decode cX5_driftUp 17 = .ok (.imul, 1) := by decide +kernel
theorem dX5_driftUp_18 : decode cX5_driftUp 18 = .ok (.iload_n 2, 1) := by decide +kernel
theorem dX5_driftUp_19 : decode cX5_driftUp 19 = .ok (.iadd, 1) := by decide +kernel
theorem dX5_driftUp_20 : decode cX5_driftUp 20 = .ok (.iconst 1, 1) := by decide +kernel
theorem dX5_driftUp_21 : decode cX5_driftUp 21 = .ok (.isub, 1) := by decide +kernel
theorem dX5_driftUp_22 : decode cX5_driftUp 22 = .ok (.iload_n 2, 1) := by decide +kernel
theorem dX5_driftUp_23 : decode cX5_driftUp 23 = .ok (.idiv, 1) := by decide +kernel
theorem dX5_driftUp_24 : decode cX5_driftUp 24 = .ok (.goto 4, 3) := by decide +kernel
theorem dX5_driftUp_27 : decode cX5_driftUp 27 = .ok (.iconst 0, 1) := by decide +kernel
theorem dX5_driftUp_28 : decode cX5_driftUp 28 = .ok (.ireturn, 1) := by decide +kernel
end
section
theorem dL_law_0 : decode cL_law 0 = .ok (.new 7, 3) := by decide +kernel
theorem dL_law_3 : decode cL_law 3 = .ok (.dup, 1) := by decide +kernel
theorem dL_law_4 : decode cL_law 4 = .ok (.invokespecial 9, 3) := by decide +kernel
theorem dL_law_7 : decode cL_law 7 = .ok (.astore_n 1, 1) := by decide +kernel
theorem dL_law_8 : decode cL_law 8 = .ok (.new 10, 3) := by decide +kernel
theorem dL_law_11 : decode cL_law 11 = .ok (.dup, 1) := by decide +kernel
theorem dL_law_12 : decode cL_law 12 = .ok (.invokespecial 12, 3) := by decide +kernel
theorem dL_law_15 : decode cL_law 15 = .ok (.astore_n 2, 1) := by decide +kernel
theorem dL_law_16 : decode cL_law 16 = .ok (.iconst 0, 1) := by decide +kernel
theorem dL_law_17 : decode cL_law 17 = .ok (.istore_n 3, 1) := by decide +kernel
theorem dL_law_18 : decode cL_law 18 = .ok (.iload_n 3, 1) := by decide +kernel
theorem dL_law_19 : decode cL_law 19 = .ok (.aload_n 0, 1) := by decide +kernel
theorem dL_law_20 : decode cL_law 20 = .ok (.arraylength, 1) := by decide +kernel
theorem dL_law_21 : decode cL_law 21 = .ok (.iconst 4, 1) := by decide +kernel
theorem dL_law_22 : decode cL_law 22 = .ok (.isub, 1) := by decide +kernel
theorem dL_law_23 : decode cL_law 23 = .ok (.if_icmp .gt 849, 3) := by decide +kernel
theorem dL_law_26 : decode cL_law 26 = .ok (.aload_n 0, 1) := by decide +kernel
theorem dL_law_27 : decode cL_law 27 = .ok (.iload_n 3, 1) := by decide +kernel
theorem dL_law_28 : decode cL_law 28 = .ok (.iaload, 1) := by decide +kernel
theorem dL_law_29 : decode cL_law 29 = .ok (.bipush 31, 2) := by decide +kernel
theorem dL_law_31 : decode cL_law 31 = .ok (.iand, 1) := by decide +kernel
theorem dL_law_32 : decode cL_law 32 = .ok (.tableswitch 834 0 25 #[120, 153, 196, 219, 242, 265, 288, 311, 334, 347, 360, 373, 396, 429, 462, 511, 570, 629, 662, 685, 726, 759, 782, 795, 808, 821], 120) := by decide +kernel
theorem dL_law_152 : decode cL_law 152 = .ok (.aload_n 1, 1) := by decide +kernel
theorem dL_law_153 : decode cL_law 153 = .ok (.aload_n 0, 1) := by decide +kernel
theorem dL_law_154 : decode cL_law 154 = .ok (.iload_n 3, 1) := by decide +kernel
theorem dL_law_155 : decode cL_law 155 = .ok (.iconst 1, 1) := by decide +kernel
theorem dL_law_156 : decode cL_law 156 = .ok (.iadd, 1) := by decide +kernel
theorem dL_law_157 : decode cL_law 157 = .ok (.iaload, 1) := by decide +kernel
theorem dL_law_158 : decode cL_law 158 = .ok (.aload_n 0, 1) := by decide +kernel
theorem dL_law_159 : decode cL_law 159 = .ok (.iload_n 3, 1) := by decide +kernel
theorem dL_law_160 : decode cL_law 160 = .ok (.iconst 2, 1) := by decide +kernel
theorem dL_law_161 : decode cL_law 161 = .ok (.iadd, 1) := by decide +kernel
theorem dL_law_162 : decode cL_law 162 = .ok (.iaload, 1) := by decide +kernel
theorem dL_law_163 : decode cL_law 163 = .ok (.invokevirtual 13, 3) := by decide +kernel
theorem dL_law_166 : decode cL_law 166 = .ok (.aload_n 2, 1) := by decide +kernel
theorem dL_law_167 : decode cL_law 167 = .ok (.aload_n 0, 1) := by decide +kernel
theorem dL_law_168 : decode cL_law 168 = .ok (.iload_n 3, 1) := by decide +kernel
theorem dL_law_169 : decode cL_law 169 = .ok (.iconst 1, 1) := by decide +kernel
theorem dL_law_170 : decode cL_law 170 = .ok (.iadd, 1) := by decide +kernel
theorem dL_law_171 : decode cL_law 171 = .ok (.iaload, 1) := by decide +kernel
theorem dL_law_172 : decode cL_law 172 = .ok (.aload_n 0, 1) := by decide +kernel
theorem dL_law_173 : decode cL_law 173 = .ok (.iload_n 3, 1) := by decide +kernel
theorem dL_law_174 : decode cL_law 174 = .ok (.iconst 2, 1) := by decide +kernel
theorem dL_law_175 : decode cL_law 175 = .ok (.iadd, 1) := by decide +kernel
theorem dL_law_176 : decode cL_law 176 = .ok (.iaload, 1) := by decide +kernel
theorem dL_law_177 : decode cL_law 177 = .ok (.invokevirtual 17, 3) := by decide +kernel
theorem dL_law_180 : decode cL_law 180 = .ok (.if_icmp .eq 686, 3) := by decide +kernel
theorem dL_law_183 : decode cL_law 183 = .ok (.iconst 0, 1) := by decide +kernel
theorem dL_law_184 : decode cL_law 184 = .ok (.ireturn, 1) := by decide +kernel
theorem dL_law_185 : decode cL_law 185 = .ok (.aload_n 1, 1) := by decide +kernel
theorem dL_law_186 : decode cL_law 186 = .ok (.aload_n 0, 1) := by decide +kernel
theorem dL_law_187 : decode cL_law 187 = .ok (.iload_n 3, 1) := by decide +kernel
theorem dL_law_188 : decode cL_law 188 = .ok (.iconst 1, 1) := by decide +kernel
theorem dL_law_189 : decode cL_law 189 = .ok (.iadd, 1) := by decide +kernel
theorem dL_law_190 : decode cL_law 190 = .ok (.iaload, 1) := by decide +kernel
theorem dL_law_191 : decode cL_law 191 = .ok (.aload_n 0, 1) := by decide +kernel
theorem dL_law_192 : decode cL_law 192 = .ok (.iload_n 3, 1) := by decide +kernel
theorem dL_law_193 : decode cL_law 193 = .ok (.iconst 2, 1) := by decide +kernel
theorem dL_law_194 : decode cL_law 194 = .ok (.iadd, 1) := by decide +kernel
theorem dL_law_195 : decode cL_law 195 = .ok (.iaload, 1) := by decide +kernel
theorem dL_law_196 : decode cL_law 196 = .ok (.aload_n 0, 1) := by decide +kernel
theorem dL_law_197 : decode cL_law 197 = .ok (.iload_n 3, 1) := by decide +kernel
theorem dL_law_198 : decode cL_law 198 = .ok (.iconst 3, 1) := by decide +kernel
theorem dL_law_199 : decode cL_law 199 = .ok (.iadd, 1) := by decide +kernel
theorem dL_law_200 : decode cL_law 200 = .ok (.iaload, 1) := by decide +kernel
theorem dL_law_201 : decode cL_law 201 = .ok (.invokevirtual 18, 3) := by decide +kernel
theorem dL_law_204 : decode cL_law 204 = .ok (.aload_n 2, 1) := by decide +kernel
theorem dL_law_205 : decode cL_law 205 = .ok (.aload_n 0, 1) := by decide +kernel
theorem dL_law_206 : decode cL_law 206 = .ok (.iload_n 3, 1) := by decide +kernel
theorem dL_law_207 : decode cL_law 207 = .ok (.iconst 1, 1) := by decide +kernel
theorem dL_law_208 : decode cL_law 208 = .ok (.iadd, 1) := by decide +kernel
theorem dL_law_209 : decode cL_law 209 = .ok (.iaload, 1) := by decide +kernel
theorem dL_law_210 : decode cL_law 210 = .ok (.aload_n 0, 1) := by decide +kernel
theorem dL_law_211 : decode cL_law 211 = .ok (.iload_n 3, 1) := by decide +kernel
theorem dL_law_212 : decode cL_law 212 = .ok (.iconst 2, 1) := by decide +kernel
theorem dL_law_213 : decode cL_law 213 = .ok (.iadd, 1) := by decide +kernel
theorem dL_law_214 : decode cL_law 214 = .ok (.iaload, 1) := by decide +kernel
theorem dL_law_215 : decode cL_law 215 = .ok (.aload_n 0, 1) := by decide +kernel
theorem dL_law_216 : decode cL_law 216 = .ok (.iload_n 3, 1) := by decide +kernel
theorem dL_law_217 : decode cL_law 217 = .ok (.iconst 3, 1) := by decide +kernel
theorem dL_law_218 : decode cL_law 218 = .ok (.iadd, 1) := by decide +kernel
theorem dL_law_219 : decode cL_law 219 = .ok (.iaload, 1) := by decide +kernel
theorem dL_law_220 : decode cL_law 220 = .ok (.invokevirtual 22, 3) := by decide +kernel
theorem dL_law_223 : decode cL_law 223 = .ok (.if_icmp .eq 643, 3) := by decide +kernel
theorem dL_law_226 : decode cL_law 226 = .ok (.iconst 0, 1) := by decide +kernel
theorem dL_law_227 : decode cL_law 227 = .ok (.ireturn, 1) := by decide +kernel
theorem dL_law_228 : decode cL_law 228 = .ok (.aload_n 1, 1) := by decide +kernel
theorem dL_law_229 : decode cL_law 229 = .ok (.aload_n 0, 1) := by decide +kernel
theorem dL_law_230 : decode cL_law 230 = .ok (.iload_n 3, 1) := by decide +kernel
theorem dL_law_231 : decode cL_law 231 = .ok (.iconst 1, 1) := by decide +kernel
theorem dL_law_232 : decode cL_law 232 = .ok (.iadd, 1) := by decide +kernel
theorem dL_law_233 : decode cL_law 233 = .ok (.iaload, 1) := by decide +kernel
theorem dL_law_234 : decode cL_law 234 = .ok (.invokevirtual 23, 3) := by decide +kernel
theorem dL_law_237 : decode cL_law 237 = .ok (.aload_n 2, 1) := by decide +kernel
theorem dL_law_238 : decode cL_law 238 = .ok (.aload_n 0, 1) := by decide +kernel
theorem dL_law_239 : decode cL_law 239 = .ok (.iload_n 3, 1) := by decide +kernel
theorem dL_law_240 : decode cL_law 240 = .ok (.iconst 1, 1) := by decide +kernel
theorem dL_law_241 : decode cL_law 241 = .ok (.iadd, 1) := by decide +kernel
theorem dL_law_242 : decode cL_law 242 = .ok (.iaload, 1) := by decide +kernel
theorem dL_law_243 : decode cL_law 243 = .ok (.invokevirtual 27, 3) := by decide +kernel
theorem dL_law_246 : decode cL_law 246 = .ok (.if_icmp .eq 620, 3) := by decide +kernel
theorem dL_law_249 : decode cL_law 249 = .ok (.iconst 0, 1) := by decide +kernel
theorem dL_law_250 : decode cL_law 250 = .ok (.ireturn, 1) := by decide +kernel
theorem dL_law_251 : decode cL_law 251 = .ok (.aload_n 1, 1) := by decide +kernel
theorem dL_law_252 : decode cL_law 252 = .ok (.aload_n 0, 1) := by decide +kernel
theorem dL_law_253 : decode cL_law 253 = .ok (.iload_n 3, 1) := by decide +kernel
theorem dL_law_254 : decode cL_law 254 = .ok (.iconst 1, 1) := by decide +kernel
theorem dL_law_255 : decode cL_law 255 = .ok (.iadd, 1) := by decide +kernel
theorem dL_law_256 : decode cL_law 256 = .ok (.iaload, 1) := by decide +kernel
theorem dL_law_257 : decode cL_law 257 = .ok (.invokevirtual 28, 3) := by decide +kernel
theorem dL_law_260 : decode cL_law 260 = .ok (.aload_n 2, 1) := by decide +kernel
theorem dL_law_261 : decode cL_law 261 = .ok (.aload_n 0, 1) := by decide +kernel
theorem dL_law_262 : decode cL_law 262 = .ok (.iload_n 3, 1) := by decide +kernel
theorem dL_law_263 : decode cL_law 263 = .ok (.iconst 1, 1) := by decide +kernel
theorem dL_law_264 : decode cL_law 264 = .ok (.iadd, 1) := by decide +kernel
theorem dL_law_265 : decode cL_law 265 = .ok (.iaload, 1) := by decide +kernel
theorem dL_law_266 : decode cL_law 266 = .ok (.invokevirtual 31, 3) := by decide +kernel
theorem dL_law_269 : decode cL_law 269 = .ok (.if_icmp .eq 597, 3) := by decide +kernel
theorem dL_law_272 : decode cL_law 272 = .ok (.iconst 0, 1) := by decide +kernel
theorem dL_law_273 : decode cL_law 273 = .ok (.ireturn, 1) := by decide +kernel
theorem dL_law_274 : decode cL_law 274 = .ok (.aload_n 1, 1) := by decide +kernel
theorem dL_law_275 : decode cL_law 275 = .ok (.aload_n 0, 1) := by decide +kernel
theorem dL_law_276 : decode cL_law 276 = .ok (.iload_n 3, 1) := by decide +kernel
theorem dL_law_277 : decode cL_law 277 = .ok (.iconst 1, 1) := by decide +kernel
theorem dL_law_278 : decode cL_law 278 = .ok (.iadd, 1) := by decide +kernel
theorem dL_law_279 : decode cL_law 279 = .ok (.iaload, 1) := by decide +kernel
theorem dL_law_280 : decode cL_law 280 = .ok (.invokevirtual 32, 3) := by decide +kernel
theorem dL_law_283 : decode cL_law 283 = .ok (.aload_n 2, 1) := by decide +kernel
theorem dL_law_284 : decode cL_law 284 = .ok (.aload_n 0, 1) := by decide +kernel
theorem dL_law_285 : decode cL_law 285 = .ok (.iload_n 3, 1) := by decide +kernel
theorem dL_law_286 : decode cL_law 286 = .ok (.iconst 1, 1) := by decide +kernel
theorem dL_law_287 : decode cL_law 287 = .ok (.iadd, 1) := by decide +kernel
theorem dL_law_288 : decode cL_law 288 = .ok (.iaload, 1) := by decide +kernel
theorem dL_law_289 : decode cL_law 289 = .ok (.invokevirtual 35, 3) := by decide +kernel
theorem dL_law_292 : decode cL_law 292 = .ok (.if_icmp .eq 574, 3) := by decide +kernel
theorem dL_law_295 : decode cL_law 295 = .ok (.iconst 0, 1) := by decide +kernel
theorem dL_law_296 : decode cL_law 296 = .ok (.ireturn, 1) := by decide +kernel
theorem dL_law_297 : decode cL_law 297 = .ok (.aload_n 1, 1) := by decide +kernel
theorem dL_law_298 : decode cL_law 298 = .ok (.aload_n 0, 1) := by decide +kernel
theorem dL_law_299 : decode cL_law 299 = .ok (.iload_n 3, 1) := by decide +kernel
theorem dL_law_300 : decode cL_law 300 = .ok (.iconst 1, 1) := by decide +kernel
theorem dL_law_301 : decode cL_law 301 = .ok (.iadd, 1) := by decide +kernel
theorem dL_law_302 : decode cL_law 302 = .ok (.iaload, 1) := by decide +kernel
theorem dL_law_303 : decode cL_law 303 = .ok (.invokevirtual 36, 3) := by decide +kernel
theorem dL_law_306 : decode cL_law 306 = .ok (.aload_n 2, 1) := by decide +kernel
theorem dL_law_307 : decode cL_law 307 = .ok (.aload_n 0, 1) := by decide +kernel
theorem dL_law_308 : decode cL_law 308 = .ok (.iload_n 3, 1) := by decide +kernel
theorem dL_law_309 : decode cL_law 309 = .ok (.iconst 1, 1) := by decide +kernel
theorem dL_law_310 : decode cL_law 310 = .ok (.iadd, 1) := by decide +kernel
theorem dL_law_311 : decode cL_law 311 = .ok (.iaload, 1) := by decide +kernel
theorem dL_law_312 : decode cL_law 312 = .ok (.invokevirtual 39, 3) := by decide +kernel
theorem dL_law_315 : decode cL_law 315 = .ok (.if_icmp .eq 551, 3) := by decide +kernel
theorem dL_law_318 : decode cL_law 318 = .ok (.iconst 0, 1) := by decide +kernel
theorem dL_law_319 : decode cL_law 319 = .ok (.ireturn, 1) := by decide +kernel
theorem dL_law_320 : decode cL_law 320 = .ok (.aload_n 1, 1) := by decide +kernel
theorem dL_law_321 : decode cL_law 321 = .ok (.aload_n 0, 1) := by decide +kernel
theorem dL_law_322 : decode cL_law 322 = .ok (.iload_n 3, 1) := by decide +kernel
theorem dL_law_323 : decode cL_law 323 = .ok (.iconst 1, 1) := by decide +kernel
theorem dL_law_324 : decode cL_law 324 = .ok (.iadd, 1) := by decide +kernel
theorem dL_law_325 : decode cL_law 325 = .ok (.iaload, 1) := by decide +kernel
theorem dL_law_326 : decode cL_law 326 = .ok (.invokevirtual 40, 3) := by decide +kernel
theorem dL_law_329 : decode cL_law 329 = .ok (.aload_n 2, 1) := by decide +kernel
theorem dL_law_330 : decode cL_law 330 = .ok (.aload_n 0, 1) := by decide +kernel
theorem dL_law_331 : decode cL_law 331 = .ok (.iload_n 3, 1) := by decide +kernel
theorem dL_law_332 : decode cL_law 332 = .ok (.iconst 1, 1) := by decide +kernel
theorem dL_law_333 : decode cL_law 333 = .ok (.iadd, 1) := by decide +kernel
theorem dL_law_334 : decode cL_law 334 = .ok (.iaload, 1) := by decide +kernel
theorem dL_law_335 : decode cL_law 335 = .ok (.invokevirtual 43, 3) := by decide +kernel
theorem dL_law_338 : decode cL_law 338 = .ok (.if_icmp .eq 528, 3) := by decide +kernel
theorem dL_law_341 : decode cL_law 341 = .ok (.iconst 0, 1) := by decide +kernel
theorem dL_law_342 : decode cL_law 342 = .ok (.ireturn, 1) := by decide +kernel
theorem dL_law_343 : decode cL_law 343 = .ok (.aload_n 1, 1) := by decide +kernel
theorem dL_law_344 : decode cL_law 344 = .ok (.aload_n 0, 1) := by decide +kernel
theorem dL_law_345 : decode cL_law 345 = .ok (.iload_n 3, 1) := by decide +kernel
theorem dL_law_346 : decode cL_law 346 = .ok (.iconst 1, 1) := by decide +kernel
theorem dL_law_347 : decode cL_law 347 = .ok (.iadd, 1) := by decide +kernel
theorem dL_law_348 : decode cL_law 348 = .ok (.iaload, 1) := by decide +kernel
theorem dL_law_349 : decode cL_law 349 = .ok (.invokevirtual 44, 3) := by decide +kernel
theorem dL_law_352 : decode cL_law 352 = .ok (.aload_n 2, 1) := by decide +kernel
theorem dL_law_353 : decode cL_law 353 = .ok (.aload_n 0, 1) := by decide +kernel
theorem dL_law_354 : decode cL_law 354 = .ok (.iload_n 3, 1) := by decide +kernel
theorem dL_law_355 : decode cL_law 355 = .ok (.iconst 1, 1) := by decide +kernel
theorem dL_law_356 : decode cL_law 356 = .ok (.iadd, 1) := by decide +kernel
theorem dL_law_357 : decode cL_law 357 = .ok (.iaload, 1) := by decide +kernel
theorem dL_law_358 : decode cL_law 358 = .ok (.invokevirtual 47, 3) := by decide +kernel
theorem dL_law_361 : decode cL_law 361 = .ok (.if_icmp .eq 505, 3) := by decide +kernel
theorem dL_law_364 : decode cL_law 364 = .ok (.iconst 0, 1) := by decide +kernel
theorem dL_law_365 : decode cL_law 365 = .ok (.ireturn, 1) := by decide +kernel
theorem dL_law_366 : decode cL_law 366 = .ok (.aload_n 1, 1) := by decide +kernel
theorem dL_law_367 : decode cL_law 367 = .ok (.invokevirtual 48, 3) := by decide +kernel
theorem dL_law_370 : decode cL_law 370 = .ok (.aload_n 2, 1) := by decide +kernel
theorem dL_law_371 : decode cL_law 371 = .ok (.invokevirtual 52, 3) := by decide +kernel
theorem dL_law_374 : decode cL_law 374 = .ok (.if_icmp .eq 492, 3) := by decide +kernel
theorem dL_law_377 : decode cL_law 377 = .ok (.iconst 0, 1) := by decide +kernel
theorem dL_law_378 : decode cL_law 378 = .ok (.ireturn, 1) := by decide +kernel
theorem dL_law_379 : decode cL_law 379 = .ok (.aload_n 1, 1) := by decide +kernel
theorem dL_law_380 : decode cL_law 380 = .ok (.invokevirtual 53, 3) := by decide +kernel
theorem dL_law_383 : decode cL_law 383 = .ok (.aload_n 2, 1) := by decide +kernel
theorem dL_law_384 : decode cL_law 384 = .ok (.invokevirtual 56, 3) := by decide +kernel
theorem dL_law_387 : decode cL_law 387 = .ok (.if_icmp .eq 479, 3) := by decide +kernel
theorem dL_law_390 : decode cL_law 390 = .ok (.iconst 0, 1) := by decide +kernel
theorem dL_law_391 : decode cL_law 391 = .ok (.ireturn, 1) := by decide +kernel
theorem dL_law_392 : decode cL_law 392 = .ok (.aload_n 1, 1) := by decide +kernel
theorem dL_law_393 : decode cL_law 393 = .ok (.invokevirtual 57, 3) := by decide +kernel
theorem dL_law_396 : decode cL_law 396 = .ok (.aload_n 2, 1) := by decide +kernel
theorem dL_law_397 : decode cL_law 397 = .ok (.invokevirtual 60, 3) := by decide +kernel
theorem dL_law_400 : decode cL_law 400 = .ok (.if_icmp .eq 466, 3) := by decide +kernel
theorem dL_law_403 : decode cL_law 403 = .ok (.iconst 0, 1) := by decide +kernel
theorem dL_law_404 : decode cL_law 404 = .ok (.ireturn, 1) := by decide +kernel
theorem dL_law_405 : decode cL_law 405 = .ok (.aload_n 1, 1) := by decide +kernel
theorem dL_law_406 : decode cL_law 406 = .ok (.aload_n 0, 1) := by decide +kernel
theorem dL_law_407 : decode cL_law 407 = .ok (.iload_n 3, 1) := by decide +kernel
theorem dL_law_408 : decode cL_law 408 = .ok (.iconst 1, 1) := by decide +kernel
theorem dL_law_409 : decode cL_law 409 = .ok (.iadd, 1) := by decide +kernel
theorem dL_law_410 : decode cL_law 410 = .ok (.iaload, 1) := by decide +kernel
theorem dL_law_411 : decode cL_law 411 = .ok (.invokevirtual 61, 3) := by decide +kernel
theorem dL_law_414 : decode cL_law 414 = .ok (.aload_n 2, 1) := by decide +kernel
theorem dL_law_415 : decode cL_law 415 = .ok (.aload_n 0, 1) := by decide +kernel
theorem dL_law_416 : decode cL_law 416 = .ok (.iload_n 3, 1) := by decide +kernel
theorem dL_law_417 : decode cL_law 417 = .ok (.iconst 1, 1) := by decide +kernel
theorem dL_law_418 : decode cL_law 418 = .ok (.iadd, 1) := by decide +kernel
theorem dL_law_419 : decode cL_law 419 = .ok (.iaload, 1) := by decide +kernel
theorem dL_law_420 : decode cL_law 420 = .ok (.invokevirtual 64, 3) := by decide +kernel
theorem dL_law_423 : decode cL_law 423 = .ok (.if_icmp .eq 443, 3) := by decide +kernel
theorem dL_law_426 : decode cL_law 426 = .ok (.iconst 0, 1) := by decide +kernel
theorem dL_law_427 : decode cL_law 427 = .ok (.ireturn, 1) := by decide +kernel
theorem dL_law_428 : decode cL_law 428 = .ok (.aload_n 1, 1) := by decide +kernel
theorem dL_law_429 : decode cL_law 429 = .ok (.aload_n 0, 1) := by decide +kernel
theorem dL_law_430 : decode cL_law 430 = .ok (.iload_n 3, 1) := by decide +kernel
theorem dL_law_431 : decode cL_law 431 = .ok (.iconst 1, 1) := by decide +kernel
theorem dL_law_432 : decode cL_law 432 = .ok (.iadd, 1) := by decide +kernel
theorem dL_law_433 : decode cL_law 433 = .ok (.iaload, 1) := by decide +kernel
theorem dL_law_434 : decode cL_law 434 = .ok (.aload_n 0, 1) := by decide +kernel
theorem dL_law_435 : decode cL_law 435 = .ok (.iload_n 3, 1) := by decide +kernel
theorem dL_law_436 : decode cL_law 436 = .ok (.iconst 2, 1) := by decide +kernel
theorem dL_law_437 : decode cL_law 437 = .ok (.iadd, 1) := by decide +kernel
theorem dL_law_438 : decode cL_law 438 = .ok (.iaload, 1) := by decide +kernel
theorem dL_law_439 : decode cL_law 439 = .ok (.invokevirtual 65, 3) := by decide +kernel
theorem dL_law_442 : decode cL_law 442 = .ok (.aload_n 2, 1) := by decide +kernel
theorem dL_law_443 : decode cL_law 443 = .ok (.aload_n 0, 1) := by decide +kernel
theorem dL_law_444 : decode cL_law 444 = .ok (.iload_n 3, 1) := by decide +kernel
theorem dL_law_445 : decode cL_law 445 = .ok (.iconst 1, 1) := by decide +kernel
theorem dL_law_446 : decode cL_law 446 = .ok (.iadd, 1) := by decide +kernel
theorem dL_law_447 : decode cL_law 447 = .ok (.iaload, 1) := by decide +kernel
theorem dL_law_448 : decode cL_law 448 = .ok (.aload_n 0, 1) := by decide +kernel
theorem dL_law_449 : decode cL_law 449 = .ok (.iload_n 3, 1) := by decide +kernel
theorem dL_law_450 : decode cL_law 450 = .ok (.iconst 2, 1) := by decide +kernel
theorem dL_law_451 : decode cL_law 451 = .ok (.iadd, 1) := by decide +kernel
theorem dL_law_452 : decode cL_law 452 = .ok (.iaload, 1) := by decide +kernel
theorem dL_law_453 : decode cL_law 453 = .ok (.invokevirtual 68, 3) := by decide +kernel
theorem dL_law_456 : decode cL_law 456 = .ok (.if_icmp .eq 410, 3) := by decide +kernel
theorem dL_law_459 : decode cL_law 459 = .ok (.iconst 0, 1) := by decide +kernel
theorem dL_law_460 : decode cL_law 460 = .ok (.ireturn, 1) := by decide +kernel
theorem dL_law_461 : decode cL_law 461 = .ok (.aload_n 1, 1) := by decide +kernel
theorem dL_law_462 : decode cL_law 462 = .ok (.aload_n 0, 1) := by decide +kernel
theorem dL_law_463 : decode cL_law 463 = .ok (.iload_n 3, 1) := by decide +kernel
theorem dL_law_464 : decode cL_law 464 = .ok (.iconst 1, 1) := by decide +kernel
theorem dL_law_465 : decode cL_law 465 = .ok (.iadd, 1) := by decide +kernel
theorem dL_law_466 : decode cL_law 466 = .ok (.iaload, 1) := by decide +kernel
theorem dL_law_467 : decode cL_law 467 = .ok (.aload_n 0, 1) := by decide +kernel
theorem dL_law_468 : decode cL_law 468 = .ok (.iload_n 3, 1) := by decide +kernel
theorem dL_law_469 : decode cL_law 469 = .ok (.iconst 2, 1) := by decide +kernel
theorem dL_law_470 : decode cL_law 470 = .ok (.iadd, 1) := by decide +kernel
theorem dL_law_471 : decode cL_law 471 = .ok (.iaload, 1) := by decide +kernel
theorem dL_law_472 : decode cL_law 472 = .ok (.invokevirtual 69, 3) := by decide +kernel
theorem dL_law_475 : decode cL_law 475 = .ok (.aload_n 2, 1) := by decide +kernel
theorem dL_law_476 : decode cL_law 476 = .ok (.aload_n 0, 1) := by decide +kernel
theorem dL_law_477 : decode cL_law 477 = .ok (.iload_n 3, 1) := by decide +kernel
theorem dL_law_478 : decode cL_law 478 = .ok (.iconst 1, 1) := by decide +kernel
theorem dL_law_479 : decode cL_law 479 = .ok (.iadd, 1) := by decide +kernel
theorem dL_law_480 : decode cL_law 480 = .ok (.iaload, 1) := by decide +kernel
theorem dL_law_481 : decode cL_law 481 = .ok (.aload_n 0, 1) := by decide +kernel
theorem dL_law_482 : decode cL_law 482 = .ok (.iload_n 3, 1) := by decide +kernel
theorem dL_law_483 : decode cL_law 483 = .ok (.iconst 2, 1) := by decide +kernel
theorem dL_law_484 : decode cL_law 484 = .ok (.iadd, 1) := by decide +kernel
theorem dL_law_485 : decode cL_law 485 = .ok (.iaload, 1) := by decide +kernel
theorem dL_law_486 : decode cL_law 486 = .ok (.invokevirtual 72, 3) := by decide +kernel
theorem dL_law_489 : decode cL_law 489 = .ok (.if_icmp .eq 377, 3) := by decide +kernel
theorem dL_law_492 : decode cL_law 492 = .ok (.iconst 0, 1) := by decide +kernel
theorem dL_law_493 : decode cL_law 493 = .ok (.ireturn, 1) := by decide +kernel
theorem dL_law_494 : decode cL_law 494 = .ok (.aload_n 1, 1) := by decide +kernel
theorem dL_law_495 : decode cL_law 495 = .ok (.aload_n 0, 1) := by decide +kernel
theorem dL_law_496 : decode cL_law 496 = .ok (.iload_n 3, 1) := by decide +kernel
theorem dL_law_497 : decode cL_law 497 = .ok (.iconst 1, 1) := by decide +kernel
theorem dL_law_498 : decode cL_law 498 = .ok (.iadd, 1) := by decide +kernel
theorem dL_law_499 : decode cL_law 499 = .ok (.iaload, 1) := by decide +kernel
theorem dL_law_500 : decode cL_law 500 = .ok (.aload_n 0, 1) := by decide +kernel
theorem dL_law_501 : decode cL_law 501 = .ok (.iload_n 3, 1) := by decide +kernel
theorem dL_law_502 : decode cL_law 502 = .ok (.iconst 2, 1) := by decide +kernel
theorem dL_law_503 : decode cL_law 503 = .ok (.iadd, 1) := by decide +kernel
theorem dL_law_504 : decode cL_law 504 = .ok (.iaload, 1) := by decide +kernel
theorem dL_law_505 : decode cL_law 505 = .ok (.ifCond .eq 7, 3) := by decide +kernel
theorem dL_law_508 : decode cL_law 508 = .ok (.iconst 1, 1) := by decide +kernel
theorem dL_law_509 : decode cL_law 509 = .ok (.goto 4, 3) := by decide +kernel
theorem dL_law_512 : decode cL_law 512 = .ok (.iconst 0, 1) := by decide +kernel
theorem dL_law_513 : decode cL_law 513 = .ok (.invokevirtual 73, 3) := by decide +kernel
theorem dL_law_516 : decode cL_law 516 = .ok (.aload_n 2, 1) := by decide +kernel
theorem dL_law_517 : decode cL_law 517 = .ok (.aload_n 0, 1) := by decide +kernel
theorem dL_law_518 : decode cL_law 518 = .ok (.iload_n 3, 1) := by decide +kernel
theorem dL_law_519 : decode cL_law 519 = .ok (.iconst 1, 1) := by decide +kernel
theorem dL_law_520 : decode cL_law 520 = .ok (.iadd, 1) := by decide +kernel
theorem dL_law_521 : decode cL_law 521 = .ok (.iaload, 1) := by decide +kernel
theorem dL_law_522 : decode cL_law 522 = .ok (.aload_n 0, 1) := by decide +kernel
theorem dL_law_523 : decode cL_law 523 = .ok (.iload_n 3, 1) := by decide +kernel
theorem dL_law_524 : decode cL_law 524 = .ok (.iconst 2, 1) := by decide +kernel
theorem dL_law_525 : decode cL_law 525 = .ok (.iadd, 1) := by decide +kernel
theorem dL_law_526 : decode cL_law 526 = .ok (.iaload, 1) := by decide +kernel
theorem dL_law_527 : decode cL_law 527 = .ok (.ifCond .eq 7, 3) := by decide +kernel
theorem dL_law_530 : decode cL_law 530 = .ok (.iconst 1, 1) := by decide +kernel
theorem dL_law_531 : decode cL_law 531 = .ok (.goto 4, 3) := by decide +kernel
theorem dL_law_534 : decode cL_law 534 = .ok (.iconst 0, 1) := by decide +kernel
theorem dL_law_535 : decode cL_law 535 = .ok (.invokevirtual 77, 3) := by decide +kernel
theorem dL_law_538 : decode cL_law 538 = .ok (.if_icmp .eq 328, 3) := by decide +kernel
theorem dL_law_541 : decode cL_law 541 = .ok (.iconst 0, 1) := by decide +kernel
theorem dL_law_542 : decode cL_law 542 = .ok (.ireturn, 1) := by decide +kernel
theorem dL_law_543 : decode cL_law 543 = .ok (.aload_n 1, 1) := by decide +kernel
theorem dL_law_544 : decode cL_law 544 = .ok (.aload_n 0, 1) := by decide +kernel
theorem dL_law_545 : decode cL_law 545 = .ok (.iload_n 3, 1) := by decide +kernel
theorem dL_law_546 : decode cL_law 546 = .ok (.iconst 1, 1) := by decide +kernel
theorem dL_law_547 : decode cL_law 547 = .ok (.iadd, 1) := by decide +kernel
theorem dL_law_548 : decode cL_law 548 = .ok (.iaload, 1) := by decide +kernel
theorem dL_law_549 : decode cL_law 549 = .ok (.aload_n 0, 1) := by decide +kernel
theorem dL_law_550 : decode cL_law 550 = .ok (.iload_n 3, 1) := by decide +kernel
theorem dL_law_551 : decode cL_law 551 = .ok (.iconst 2, 1) := by decide +kernel
theorem dL_law_552 : decode cL_law 552 = .ok (.iadd, 1) := by decide +kernel
theorem dL_law_553 : decode cL_law 553 = .ok (.iaload, 1) := by decide +kernel
theorem dL_law_554 : decode cL_law 554 = .ok (.ifCond .eq 7, 3) := by decide +kernel
theorem dL_law_557 : decode cL_law 557 = .ok (.iconst 1, 1) := by decide +kernel
theorem dL_law_558 : decode cL_law 558 = .ok (.goto 4, 3) := by decide +kernel
theorem dL_law_561 : decode cL_law 561 = .ok (.iconst 0, 1) := by decide +kernel
theorem dL_law_562 : decode cL_law 562 = .ok (.aload_n 0, 1) := by decide +kernel
theorem dL_law_563 : decode cL_law 563 = .ok (.iload_n 3, 1) := by decide +kernel
theorem dL_law_564 : decode cL_law 564 = .ok (.iconst 3, 1) := by decide +kernel
theorem dL_law_565 : decode cL_law 565 = .ok (.iadd, 1) := by decide +kernel
theorem dL_law_566 : decode cL_law 566 = .ok (.iaload, 1) := by decide +kernel
theorem dL_law_567 : decode cL_law 567 = .ok (.invokevirtual 78, 3) := by decide +kernel
theorem dL_law_570 : decode cL_law 570 = .ok (.aload_n 2, 1) := by decide +kernel
theorem dL_law_571 : decode cL_law 571 = .ok (.aload_n 0, 1) := by decide +kernel
theorem dL_law_572 : decode cL_law 572 = .ok (.iload_n 3, 1) := by decide +kernel
theorem dL_law_573 : decode cL_law 573 = .ok (.iconst 1, 1) := by decide +kernel
theorem dL_law_574 : decode cL_law 574 = .ok (.iadd, 1) := by decide +kernel
theorem dL_law_575 : decode cL_law 575 = .ok (.iaload, 1) := by decide +kernel
theorem dL_law_576 : decode cL_law 576 = .ok (.aload_n 0, 1) := by decide +kernel
theorem dL_law_577 : decode cL_law 577 = .ok (.iload_n 3, 1) := by decide +kernel
theorem dL_law_578 : decode cL_law 578 = .ok (.iconst 2, 1) := by decide +kernel
theorem dL_law_579 : decode cL_law 579 = .ok (.iadd, 1) := by decide +kernel
theorem dL_law_580 : decode cL_law 580 = .ok (.iaload, 1) := by decide +kernel
theorem dL_law_581 : decode cL_law 581 = .ok (.ifCond .eq 7, 3) := by decide +kernel
theorem dL_law_584 : decode cL_law 584 = .ok (.iconst 1, 1) := by decide +kernel
theorem dL_law_585 : decode cL_law 585 = .ok (.goto 4, 3) := by decide +kernel
theorem dL_law_588 : decode cL_law 588 = .ok (.iconst 0, 1) := by decide +kernel
theorem dL_law_589 : decode cL_law 589 = .ok (.aload_n 0, 1) := by decide +kernel
theorem dL_law_590 : decode cL_law 590 = .ok (.iload_n 3, 1) := by decide +kernel
theorem dL_law_591 : decode cL_law 591 = .ok (.iconst 3, 1) := by decide +kernel
theorem dL_law_592 : decode cL_law 592 = .ok (.iadd, 1) := by decide +kernel
theorem dL_law_593 : decode cL_law 593 = .ok (.iaload, 1) := by decide +kernel
theorem dL_law_594 : decode cL_law 594 = .ok (.invokevirtual 82, 3) := by decide +kernel
theorem dL_law_597 : decode cL_law 597 = .ok (.if_icmp .eq 269, 3) := by decide +kernel
theorem dL_law_600 : decode cL_law 600 = .ok (.iconst 0, 1) := by decide +kernel
theorem dL_law_601 : decode cL_law 601 = .ok (.ireturn, 1) := by decide +kernel
theorem dL_law_602 : decode cL_law 602 = .ok (.aload_n 1, 1) := by decide +kernel
theorem dL_law_603 : decode cL_law 603 = .ok (.aload_n 0, 1) := by decide +kernel
theorem dL_law_604 : decode cL_law 604 = .ok (.iload_n 3, 1) := by decide +kernel
theorem dL_law_605 : decode cL_law 605 = .ok (.iconst 1, 1) := by decide +kernel
theorem dL_law_606 : decode cL_law 606 = .ok (.iadd, 1) := by decide +kernel
theorem dL_law_607 : decode cL_law 607 = .ok (.iaload, 1) := by decide +kernel
theorem dL_law_608 : decode cL_law 608 = .ok (.aload_n 0, 1) := by decide +kernel
theorem dL_law_609 : decode cL_law 609 = .ok (.iload_n 3, 1) := by decide +kernel
theorem dL_law_610 : decode cL_law 610 = .ok (.iconst 2, 1) := by decide +kernel
theorem dL_law_611 : decode cL_law 611 = .ok (.iadd, 1) := by decide +kernel
theorem dL_law_612 : decode cL_law 612 = .ok (.iaload, 1) := by decide +kernel
theorem dL_law_613 : decode cL_law 613 = .ok (.ifCond .eq 7, 3) := by decide +kernel
theorem dL_law_616 : decode cL_law 616 = .ok (.iconst 1, 1) := by decide +kernel
theorem dL_law_617 : decode cL_law 617 = .ok (.goto 4, 3) := by decide +kernel
theorem dL_law_620 : decode cL_law 620 = .ok (.iconst 0, 1) := by decide +kernel
theorem dL_law_621 : decode cL_law 621 = .ok (.aload_n 0, 1) := by decide +kernel
theorem dL_law_622 : decode cL_law 622 = .ok (.iload_n 3, 1) := by decide +kernel
theorem dL_law_623 : decode cL_law 623 = .ok (.iconst 3, 1) := by decide +kernel
theorem dL_law_624 : decode cL_law 624 = .ok (.iadd, 1) := by decide +kernel
theorem dL_law_625 : decode cL_law 625 = .ok (.iaload, 1) := by decide +kernel
theorem dL_law_626 : decode cL_law 626 = .ok (.invokevirtual 83, 3) := by decide +kernel
theorem dL_law_629 : decode cL_law 629 = .ok (.aload_n 2, 1) := by decide +kernel
theorem dL_law_630 : decode cL_law 630 = .ok (.aload_n 0, 1) := by decide +kernel
theorem dL_law_631 : decode cL_law 631 = .ok (.iload_n 3, 1) := by decide +kernel
theorem dL_law_632 : decode cL_law 632 = .ok (.iconst 1, 1) := by decide +kernel
theorem dL_law_633 : decode cL_law 633 = .ok (.iadd, 1) := by decide +kernel
theorem dL_law_634 : decode cL_law 634 = .ok (.iaload, 1) := by decide +kernel
theorem dL_law_635 : decode cL_law 635 = .ok (.aload_n 0, 1) := by decide +kernel
theorem dL_law_636 : decode cL_law 636 = .ok (.iload_n 3, 1) := by decide +kernel
theorem dL_law_637 : decode cL_law 637 = .ok (.iconst 2, 1) := by decide +kernel
theorem dL_law_638 : decode cL_law 638 = .ok (.iadd, 1) := by decide +kernel
theorem dL_law_639 : decode cL_law 639 = .ok (.iaload, 1) := by decide +kernel
theorem dL_law_640 : decode cL_law 640 = .ok (.ifCond .eq 7, 3) := by decide +kernel
theorem dL_law_643 : decode cL_law 643 = .ok (.iconst 1, 1) := by decide +kernel
theorem dL_law_644 : decode cL_law 644 = .ok (.goto 4, 3) := by decide +kernel
theorem dL_law_647 : decode cL_law 647 = .ok (.iconst 0, 1) := by decide +kernel
theorem dL_law_648 : decode cL_law 648 = .ok (.aload_n 0, 1) := by decide +kernel
theorem dL_law_649 : decode cL_law 649 = .ok (.iload_n 3, 1) := by decide +kernel
theorem dL_law_650 : decode cL_law 650 = .ok (.iconst 3, 1) := by decide +kernel
theorem dL_law_651 : decode cL_law 651 = .ok (.iadd, 1) := by decide +kernel
theorem dL_law_652 : decode cL_law 652 = .ok (.iaload, 1) := by decide +kernel
theorem dL_law_653 : decode cL_law 653 = .ok (.invokevirtual 86, 3) := by decide +kernel
theorem dL_law_656 : decode cL_law 656 = .ok (.if_icmp .eq 210, 3) := by decide +kernel
theorem dL_law_659 : decode cL_law 659 = .ok (.iconst 0, 1) := by decide +kernel
theorem dL_law_660 : decode cL_law 660 = .ok (.ireturn, 1) := by decide +kernel
theorem dL_law_661 : decode cL_law 661 = .ok (.aload_n 1, 1) := by decide +kernel
theorem dL_law_662 : decode cL_law 662 = .ok (.aload_n 0, 1) := by decide +kernel
theorem dL_law_663 : decode cL_law 663 = .ok (.iload_n 3, 1) := by decide +kernel
theorem dL_law_664 : decode cL_law 664 = .ok (.iconst 1, 1) := by decide +kernel
theorem dL_law_665 : decode cL_law 665 = .ok (.iadd, 1) := by decide +kernel
theorem dL_law_666 : decode cL_law 666 = .ok (.iaload, 1) := by decide +kernel
theorem dL_law_667 : decode cL_law 667 = .ok (.aload_n 0, 1) := by decide +kernel
theorem dL_law_668 : decode cL_law 668 = .ok (.iload_n 3, 1) := by decide +kernel
theorem dL_law_669 : decode cL_law 669 = .ok (.iconst 2, 1) := by decide +kernel
theorem dL_law_670 : decode cL_law 670 = .ok (.iadd, 1) := by decide +kernel
theorem dL_law_671 : decode cL_law 671 = .ok (.iaload, 1) := by decide +kernel
theorem dL_law_672 : decode cL_law 672 = .ok (.invokevirtual 87, 3) := by decide +kernel
theorem dL_law_675 : decode cL_law 675 = .ok (.aload_n 2, 1) := by decide +kernel
theorem dL_law_676 : decode cL_law 676 = .ok (.aload_n 0, 1) := by decide +kernel
theorem dL_law_677 : decode cL_law 677 = .ok (.iload_n 3, 1) := by decide +kernel
theorem dL_law_678 : decode cL_law 678 = .ok (.iconst 1, 1) := by decide +kernel
theorem dL_law_679 : decode cL_law 679 = .ok (.iadd, 1) := by decide +kernel
theorem dL_law_680 : decode cL_law 680 = .ok (.iaload, 1) := by decide +kernel
theorem dL_law_681 : decode cL_law 681 = .ok (.aload_n 0, 1) := by decide +kernel
theorem dL_law_682 : decode cL_law 682 = .ok (.iload_n 3, 1) := by decide +kernel
theorem dL_law_683 : decode cL_law 683 = .ok (.iconst 2, 1) := by decide +kernel
theorem dL_law_684 : decode cL_law 684 = .ok (.iadd, 1) := by decide +kernel
theorem dL_law_685 : decode cL_law 685 = .ok (.iaload, 1) := by decide +kernel
theorem dL_law_686 : decode cL_law 686 = .ok (.invokevirtual 90, 3) := by decide +kernel
theorem dL_law_689 : decode cL_law 689 = .ok (.if_icmp .eq 177, 3) := by decide +kernel
theorem dL_law_692 : decode cL_law 692 = .ok (.iconst 0, 1) := by decide +kernel
theorem dL_law_693 : decode cL_law 693 = .ok (.ireturn, 1) := by decide +kernel
theorem dL_law_694 : decode cL_law 694 = .ok (.aload_n 1, 1) := by decide +kernel
theorem dL_law_695 : decode cL_law 695 = .ok (.aload_n 0, 1) := by decide +kernel
theorem dL_law_696 : decode cL_law 696 = .ok (.iload_n 3, 1) := by decide +kernel
theorem dL_law_697 : decode cL_law 697 = .ok (.iconst 1, 1) := by decide +kernel
theorem dL_law_698 : decode cL_law 698 = .ok (.iadd, 1) := by decide +kernel
theorem dL_law_699 : decode cL_law 699 = .ok (.iaload, 1) := by decide +kernel
theorem dL_law_700 : decode cL_law 700 = .ok (.invokevirtual 91, 3) := by decide +kernel
theorem dL_law_703 : decode cL_law 703 = .ok (.aload_n 2, 1) := by decide +kernel
theorem dL_law_704 : decode cL_law 704 = .ok (.aload_n 0, 1) := by decide +kernel
theorem dL_law_705 : decode cL_law 705 = .ok (.iload_n 3, 1) := by decide +kernel
theorem dL_law_706 : decode cL_law 706 = .ok (.iconst 1, 1) := by decide +kernel
theorem dL_law_707 : decode cL_law 707 = .ok (.iadd, 1) := by decide +kernel
theorem dL_law_708 : decode cL_law 708 = .ok (.iaload, 1) := by decide +kernel
theorem dL_law_709 : decode cL_law 709 = .ok (.invokevirtual 94, 3) := by decide +kernel
theorem dL_law_712 : decode cL_law 712 = .ok (.if_icmp .eq 154, 3) := by decide +kernel
theorem dL_law_715 : decode cL_law 715 = .ok (.iconst 0, 1) := by decide +kernel
theorem dL_law_716 : decode cL_law 716 = .ok (.ireturn, 1) := by decide +kernel
theorem dL_law_717 : decode cL_law 717 = .ok (.aload_n 1, 1) := by decide +kernel
theorem dL_law_718 : decode cL_law 718 = .ok (.invokevirtual 95, 3) := by decide +kernel
theorem dL_law_721 : decode cL_law 721 = .ok (.dstore 4, 2) := by decide +kernel
theorem dL_law_723 : decode cL_law 723 = .ok (.aload_n 2, 1) := by decide +kernel
theorem dL_law_724 : decode cL_law 724 = .ok (.invokevirtual 99, 3) := by decide +kernel
theorem dL_law_727 : decode cL_law 727 = .ok (.dstore 6, 2) := by decide +kernel
theorem dL_law_729 : decode cL_law 729 = .ok (.dload 4, 2) := by decide +kernel
theorem dL_law_731 : decode cL_law 731 = .ok (.dload 6, 2) := by decide +kernel
theorem dL_law_733 : decode cL_law 733 = .ok (.dcmp .l, 1) := by decide +kernel
theorem dL_law_734 : decode cL_law 734 = .ok (.ifCond .eq 21, 3) := by decide +kernel
theorem dL_law_737 : decode cL_law 737 = .ok (.dload 4, 2) := by decide +kernel
theorem dL_law_739 : decode cL_law 739 = .ok (.dload 4, 2) := by decide +kernel
theorem dL_law_741 : decode cL_law 741 = .ok (.dcmp .l, 1) := by decide +kernel
theorem dL_law_742 : decode cL_law 742 = .ok (.ifCond .eq 11, 3) := by decide +kernel
theorem dL_law_745 : decode cL_law 745 = .ok (.dload 6, 2) := by decide +kernel
theorem dL_law_747 : decode cL_law 747 = .ok (.dload 6, 2) := by decide +kernel
theorem dL_law_749 : decode cL_law 749 = .ok (.dcmp .l, 1) := by decide +kernel
theorem dL_law_750 : decode cL_law 750 = .ok (.ifCond .ne 5, 3) := by decide +kernel
theorem dL_law_753 : decode cL_law 753 = .ok (.iconst 0, 1) := by decide +kernel
theorem dL_law_754 : decode cL_law 754 = .ok (.ireturn, 1) := by decide +kernel
theorem dL_law_755 : decode cL_law 755 = .ok (.goto 111, 3) := by decide +kernel
theorem dL_law_758 : decode cL_law 758 = .ok (.aload_n 1, 1) := by decide +kernel
theorem dL_law_759 : decode cL_law 759 = .ok (.aload_n 0, 1) := by decide +kernel
theorem dL_law_760 : decode cL_law 760 = .ok (.iload_n 3, 1) := by decide +kernel
theorem dL_law_761 : decode cL_law 761 = .ok (.iconst 1, 1) := by decide +kernel
theorem dL_law_762 : decode cL_law 762 = .ok (.iadd, 1) := by decide +kernel
theorem dL_law_763 : decode cL_law 763 = .ok (.iaload, 1) := by decide +kernel
theorem dL_law_764 : decode cL_law 764 = .ok (.aload_n 0, 1) := by decide +kernel
theorem dL_law_765 : decode cL_law 765 = .ok (.iload_n 3, 1) := by decide +kernel
theorem dL_law_766 : decode cL_law 766 = .ok (.iconst 2, 1) := by decide +kernel
theorem dL_law_767 : decode cL_law 767 = .ok (.iadd, 1) := by decide +kernel
theorem dL_law_768 : decode cL_law 768 = .ok (.iaload, 1) := by decide +kernel
theorem dL_law_769 : decode cL_law 769 = .ok (.invokevirtual 100, 3) := by decide +kernel
theorem dL_law_772 : decode cL_law 772 = .ok (.aload_n 2, 1) := by decide +kernel
theorem dL_law_773 : decode cL_law 773 = .ok (.aload_n 0, 1) := by decide +kernel
theorem dL_law_774 : decode cL_law 774 = .ok (.iload_n 3, 1) := by decide +kernel
theorem dL_law_775 : decode cL_law 775 = .ok (.iconst 1, 1) := by decide +kernel
theorem dL_law_776 : decode cL_law 776 = .ok (.iadd, 1) := by decide +kernel
theorem dL_law_777 : decode cL_law 777 = .ok (.iaload, 1) := by decide +kernel
theorem dL_law_778 : decode cL_law 778 = .ok (.aload_n 0, 1) := by decide +kernel
theorem dL_law_779 : decode cL_law 779 = .ok (.iload_n 3, 1) := by decide +kernel
theorem dL_law_780 : decode cL_law 780 = .ok (.iconst 2, 1) := by decide +kernel
theorem dL_law_781 : decode cL_law 781 = .ok (.iadd, 1) := by decide +kernel
theorem dL_law_782 : decode cL_law 782 = .ok (.iaload, 1) := by decide +kernel
theorem dL_law_783 : decode cL_law 783 = .ok (.invokevirtual 103, 3) := by decide +kernel
theorem dL_law_786 : decode cL_law 786 = .ok (.if_icmp .eq 80, 3) := by decide +kernel
theorem dL_law_789 : decode cL_law 789 = .ok (.iconst 0, 1) := by decide +kernel
theorem dL_law_790 : decode cL_law 790 = .ok (.ireturn, 1) := by decide +kernel
theorem dL_law_791 : decode cL_law 791 = .ok (.aload_n 1, 1) := by decide +kernel
theorem dL_law_792 : decode cL_law 792 = .ok (.aload_n 0, 1) := by decide +kernel
theorem dL_law_793 : decode cL_law 793 = .ok (.iload_n 3, 1) := by decide +kernel
theorem dL_law_794 : decode cL_law 794 = .ok (.iconst 1, 1) := by decide +kernel
theorem dL_law_795 : decode cL_law 795 = .ok (.iadd, 1) := by decide +kernel
theorem dL_law_796 : decode cL_law 796 = .ok (.iaload, 1) := by decide +kernel
theorem dL_law_797 : decode cL_law 797 = .ok (.invokevirtual 104, 3) := by decide +kernel
theorem dL_law_800 : decode cL_law 800 = .ok (.aload_n 2, 1) := by decide +kernel
theorem dL_law_801 : decode cL_law 801 = .ok (.aload_n 0, 1) := by decide +kernel
theorem dL_law_802 : decode cL_law 802 = .ok (.iload_n 3, 1) := by decide +kernel
theorem dL_law_803 : decode cL_law 803 = .ok (.iconst 1, 1) := by decide +kernel
theorem dL_law_804 : decode cL_law 804 = .ok (.iadd, 1) := by decide +kernel
theorem dL_law_805 : decode cL_law 805 = .ok (.iaload, 1) := by decide +kernel
theorem dL_law_806 : decode cL_law 806 = .ok (.invokevirtual 107, 3) := by decide +kernel
theorem dL_law_809 : decode cL_law 809 = .ok (.if_icmp .eq 57, 3) := by decide +kernel
theorem dL_law_812 : decode cL_law 812 = .ok (.iconst 0, 1) := by decide +kernel
theorem dL_law_813 : decode cL_law 813 = .ok (.ireturn, 1) := by decide +kernel
theorem dL_law_814 : decode cL_law 814 = .ok (.aload_n 1, 1) := by decide +kernel
theorem dL_law_815 : decode cL_law 815 = .ok (.invokevirtual 108, 3) := by decide +kernel
theorem dL_law_818 : decode cL_law 818 = .ok (.aload_n 2, 1) := by decide +kernel
theorem dL_law_819 : decode cL_law 819 = .ok (.invokevirtual 111, 3) := by decide +kernel
theorem dL_law_822 : decode cL_law 822 = .ok (.if_icmp .eq 44, 3) := by decide +kernel
theorem dL_law_825 : decode cL_law 825 = .ok (.iconst 0, 1) := by decide +kernel
theorem dL_law_826 : decode cL_law 826 = .ok (.ireturn, 1) := by decide +kernel
theorem dL_law_827 : decode cL_law 827 = .ok (.aload_n 1, 1) := by decide +kernel
theorem dL_law_828 : decode cL_law 828 = .ok (.invokevirtual 112, 3) := by decide +kernel
theorem dL_law_831 : decode cL_law 831 = .ok (.aload_n 2, 1) := by decide +kernel
theorem dL_law_832 : decode cL_law 832 = .ok (.invokevirtual 115, 3) := by decide +kernel
theorem dL_law_835 : decode cL_law 835 = .ok (.if_icmp .eq 31, 3) := by decide +kernel
theorem dL_law_838 : decode cL_law 838 = .ok (.iconst 0, 1) := by decide +kernel
theorem dL_law_839 : decode cL_law 839 = .ok (.ireturn, 1) := by decide +kernel
theorem dL_law_840 : decode cL_law 840 = .ok (.aload_n 1, 1) := by decide +kernel
theorem dL_law_841 : decode cL_law 841 = .ok (.invokevirtual 116, 3) := by decide +kernel
theorem dL_law_844 : decode cL_law 844 = .ok (.aload_n 2, 1) := by decide +kernel
theorem dL_law_845 : decode cL_law 845 = .ok (.invokevirtual 119, 3) := by decide +kernel
theorem dL_law_848 : decode cL_law 848 = .ok (.if_icmp .eq 18, 3) := by decide +kernel
theorem dL_law_851 : decode cL_law 851 = .ok (.iconst 0, 1) := by decide +kernel
theorem dL_law_852 : decode cL_law 852 = .ok (.ireturn, 1) := by decide +kernel
theorem dL_law_853 : decode cL_law 853 = .ok (.aload_n 1, 1) := by decide +kernel
theorem dL_law_854 : decode cL_law 854 = .ok (.invokevirtual 120, 3) := by decide +kernel
theorem dL_law_857 : decode cL_law 857 = .ok (.aload_n 2, 1) := by decide +kernel
theorem dL_law_858 : decode cL_law 858 = .ok (.invokevirtual 123, 3) := by decide +kernel
theorem dL_law_861 : decode cL_law 861 = .ok (.if_icmp .eq 5, 3) := by decide +kernel
theorem dL_law_864 : decode cL_law 864 = .ok (.iconst 0, 1) := by decide +kernel
theorem dL_law_865 : decode cL_law 865 = .ok (.ireturn, 1) := by decide +kernel
theorem dL_law_866 : decode cL_law 866 = .ok (.iinc 3 4, 3) := by decide +kernel
theorem dL_law_869 : decode cL_law 869 = .ok (.goto (-851), 3) := by decide +kernel
theorem dL_law_872 : decode cL_law 872 = .ok (.iconst 1, 1) := by decide +kernel
theorem dL_law_873 : decode cL_law 873 = .ok (.ireturn, 1) := by decide +kernel
end
section
/-! words of all methods in one list; calls with it; pure guards; contracts of statics and of methods over a world of fixed cells -/
theorem goodIn_sub {big ws : List Cond} (hm : ∀ w ∈ ws, w ∈ big) (h : ws.all goodWord = true) : GoodIn big ws := fun w hw => ⟨hm w hw, good_of_word (List.all_eq_true.mp h w hw)⟩
abbrev vwCl : List vw_C := [(RJx4a65c, TJx4a65c, 3), (RX0, TX0, 5), (RX1, TX1, 2), (RX2, TX2, 7), (RX3, TX3, 3), (RX4, TX4, 14), (RX5, TX5, 7), (RX6, TX6, 22)]
theorem wsL_good : GoodIn wsL_law wsL_law := goodIn_sub (fun _ h => h) (by decide +kernel)
abbrev WSy (y : MethodName) (cc : ByteArray) (n : Nat) (ret : Option FieldType) : List Cond := .code y cc n ret :: wsL_law
abbrev rmF (d mc ms : Nat) : Room := { frames := d, cells := mc, slots := ms, locals := 40 * d }
theorem good_WSy {y : MethodName} {cc : ByteArray} {n : Nat} {ret : Option FieldType} (h : Cond.code y cc n ret ∈ wsL_law) : GoodIn wsL_law (WSy y cc n ret) := fun w hw => by
  rcases List.mem_cons.mp hw with e | e
  · subst e; exact wsL_good _ h
  · exact wsL_good _ e
def inb (i : Int32) (n : Nat) : Bool := decide (¬ (i < 0 ∨ n ≤ i.toNatClampNeg))
theorem inb_in {i : Int32} {n : Nat} (h : inb i n = true) : vp_in i n := of_decide_eq_true (p := ¬ (i < 0 ∨ n ≤ i.toNatClampNeg)) h
def grd {α : Type} (b : Bool) (x : Option α) : Option α := if b = true then x else none
theorem grd_some {α : Type} {b : Bool} {x : Option α} {r : α} (h : grd b x = some r) : b = true ∧ x = some r := by
  unfold grd at h
  split at h
  · exact ⟨by assumption, h⟩
  · cases h
theorem grd_t {α : Type} {b : Bool} {x : Option α} (h : b = true) : grd b x = x := if_pos h
def bnd {α β : Type} (x : Option α) (f : α → Option β) : Option β := match x with
  | none => none
  | some a => f a
theorem bnd_some {α β : Type} {x : Option α} {f : α → Option β} {r : β} (h : bnd x f = some r) : ∃ a, x = some a ∧ f a = some r := by
  cases x with
  | none => cases h
  | some a => exact ⟨a, rfl, h⟩
theorem bnd_t {α β : Type} {x : Option α} {f : α → Option β} {a : α} (h : x = some a) : bnd x f = f a := by subst h; rfl
theorem ift {α : Type} {c : Prop} [Decidable c] {x y r : α} (hc : c) (h : (if c then x else y) = r) : x = r := (if_pos hc).symm.trans h
theorem ifn {α : Type} {c : Prop} [Decidable c] {x y r : α} (hc : ¬ c) (h : (if c then x else y) = r) : y = r := (if_neg hc).symm.trans h
def isB (r : Int32) : Bool := r == 0 || r == 1
theorem isB_nar {r : Int32} (h : isB r = true) : narrow .boolean (.int r) = .int r := by
  unfold isB at h
  rcases (Bool.or_eq_true _ _).mp h with h | h
  · rw [eq_of_beq h]; rfl
  · rw [eq_of_beq h]; rfl
theorem isB_fit {r : Int32} (h : isB r = true) : fits .boolean (.int r) = true := by
  unfold isB at h
  rcases (Bool.or_eq_true _ _).mp h with h | h
  · rw [eq_of_beq h]; rfl
  · rw [eq_of_beq h]; rfl
/-- a method of the tables: its code, its kind, its class ready, its arguments counted -/
def SOk (y : MethodName) (cc : ByteArray) (n : Nat) (ret : Option FieldType) (k : Nat) : Prop := Cond.code y cc n ret ∈ wsL_law ∧ Cond.static y ∈ wsL_law ∧ Cond.initialized y.cls ∈ wsL_law ∧ (y.cls ≠ "java/lang/invoke/MethodHandle" ∧ y.cls ≠ "java/lang/invoke/VarHandle" ∧ (parseMethodDescriptor y.desc).map (fun d => d.parameters.length) = some k)
def VOk (y : MethodName) (cc : ByteArray) (n : Nat) (ret : Option FieldType) (k : Nat) : Prop := Cond.code y cc n ret ∈ wsL_law ∧ Cond.instanceMethod y ∈ wsL_law ∧ Cond.selects y.cls y y ∈ wsL_law ∧ Cond.initialized y.cls ∈ wsL_law ∧ (y.cls ≠ "java/lang/invoke/MethodHandle" ∧ y.cls ≠ "java/lang/invoke/VarHandle" ∧ (parseMethodDescriptor y.desc).map (fun d => d.parameters.length) = some k)
/-- what a body stands on -/
def BX (p : Program) (s : State) (m : MethodId) (args : Array Value) (c : Code) (cc : ByteArray) (n : Nat) (own : String) : Prop :=
  p.tables.exec = Jvm.exec ∧ c.code = cc ∧ c.maxLocals = n ∧ s.vm.findClass own = some m.cls ∧ ∀ w ∈ wsL_law, w.before args s = true
def sQ (v : Option Value) : Array Value → State → Outcome → State → Prop := fun _ st o t => o = .returned v ∧ t.heap = st.heap
def fQ (D : va_G) (v : Option Value) (w' : va_W) (A : Nat → Prop) : Array Value → State → Outcome → State → Prop := fun _ st o t => o = .returned v ∧ va_P D vwCl w' t.heap ∧ va_F A st t
def FPre (D : va_G) (tys : List (ClassId × FieldType)) (w : va_W) (sz : Nat) : State → Prop := fun U => U.heap.size = sz ∧ va_P D vwCl w U.heap ∧ va_K D vwCl tys U ∧ va_D (fun _ => True) w
theorem FPre.blind {D : va_G} {tys : List (ClassId × FieldType)} {w : va_W} {sz : Nat} {As : List Value} : FrameBlind (va_Pc As (FPre D tys w sz)) := fun a U g mk q => by
  obtain ⟨h0, h1, h2, h3, h4⟩ := q
  exact ⟨h0, h1, h2, va_K.moved (u := U) (U := U.calling g mk a) (Vm.Alike.refl U.vm) h3, h4⟩
/-- a static method's contract: height d, answer v -/
abbrev CS (l : Launch) (y : MethodName) (cc : ByteArray) (n d : Nat) (ret : Option FieldType) (As : List Value) (v : Option Value) : Prop := Met l y (WSy y cc n ret) (rmF d 0 0) (va_Pc As (fun _ => True)) (sQ v) 0 0 (fun _ => False)
/-- a method over the cells w: answer v, the cells w' behind it -/
abbrev CF (l : Launch) (y : MethodName) (cc : ByteArray) (n d : Nat) (ret : Option FieldType) (D : va_G) (tys : List (ClassId × FieldType)) (As : List Value) (v : Option Value) (w w' : va_W) : Prop := ∀ sz : Nat, Met l y (WSy y cc n ret) (rmF d 0 0) (va_Pc As (FPre D tys w sz)) (fQ D v w' (va_A w sz)) 0 0 (va_A w sz)
theorem va_D.same {A : Nat → Prop} {w w2 : va_W} (h : w2.map Prod.fst = w.map Prod.fst) (hD : va_D A w) : va_D A w2 := by
  have key : ∀ (k : Nat) (q : Nat × va_E), w2[k]? = some q → ∃ q0, w[k]? = some q0 ∧ q0.1 = q.1 := by
    intro k q hk
    have h1 : (w2.map Prod.fst)[k]? = some q.1 := by rw [List.getElem?_map, hk]; rfl
    rw [h, List.getElem?_map] at h1
    cases hw : w[k]? with
    | none => rw [hw] at h1; cases h1
    | some q0 => rw [hw] at h1; exact ⟨q0, rfl, Option.some.inj h1⟩
  refine ⟨fun i j x y hi hj hxy => ?_, fun k q hk => ?_⟩
  · obtain ⟨x0, h1, h2⟩ := key i x hi
    obtain ⟨y0, h3, h4⟩ := key j y hj
    exact hD.1 i j x0 y0 h1 h3 (h2.trans (hxy.trans h4.symm))
  · obtain ⟨q0, h1, h2⟩ := key k q hk
    rw [← h2]
    exact hD.2 k q0 h1
section MK
variable {l : Launch} {y : MethodName} {cc : ByteArray} {n d : Nat} {As : List Value}
theorem CS.mkI {ret : FieldType} {r : Int32} (hy : plainName y.cls = true) (hn : (lg_sl As).length ≤ n)
    (body : ∀ (p : Program) (e : Env) (s : State) (m : MethodId) (below : List Frame) (meth : Method) (c : Code) (Q : State → Prop), BX p s m As.toArray c cc n y.cls →
      (∀ (pc : Nat) (ls : Array Slot), narrow ret (.int r) = .int r → decode cc pc = .ok (.ireturn, 1) → W p l e (rmF d 0 0) s m As.toArray below meth c s.heap [] 0 0 Q (F0 m pc ls [.int r])) →
      ∀ ls : Array Slot, lv_has ls n (lv_args 0 As) → W p l e (rmF d 0 0) s m As.toArray below meth c s.heap [] 0 0 Q (F0 m 0 ls [])) : CS l y cc n d (some ret) As (some (.int r)) := by
  refine Met.ofW (cc := cc) (maxL := n) (ret := some ret) hy rfl ?_
  intro p e s m args below meth c s₁ B hml hv
  obtain ⟨rfl, -⟩ := hv
  rw [lg_entry_eq]
  exact body p e s m below meth c _ ⟨B.exec, B.bytes, hml, findClass_of_methodNamed B.named, fun w hw => atoms_spec (ws := WSy y cc n (some ret)) B.pre w (List.mem_cons_of_mem _ hw)⟩ (fun pc ls hnar hd => W.zret B.exec B.bytes B.returns hnar (fun t ht hW => ⟨rfl, ht⟩) (fun q h => by cases h) hd B.notSynchronized) _ (lv_entry As hn)
theorem CS.mkL {r : Int64} (hy : plainName y.cls = true) (hn : (lg_sl As).length ≤ n)
    (body : ∀ (p : Program) (e : Env) (s : State) (m : MethodId) (below : List Frame) (meth : Method) (c : Code) (Q : State → Prop), BX p s m As.toArray c cc n y.cls →
      (∀ (pc : Nat) (ls : Array Slot), decode cc pc = .ok (.lreturn, 1) → W p l e (rmF d 0 0) s m As.toArray below meth c s.heap [] 0 0 Q (F0 m pc ls [.long r])) →
      ∀ ls : Array Slot, lv_has ls n (lv_args 0 As) → W p l e (rmF d 0 0) s m As.toArray below meth c s.heap [] 0 0 Q (F0 m 0 ls [])) : CS l y cc n d (some .long) As (some (.long r)) := by
  refine Met.ofW (cc := cc) (maxL := n) (ret := some .long) hy rfl ?_
  intro p e s m args below meth c s₁ B hml hv
  obtain ⟨rfl, -⟩ := hv
  rw [lg_entry_eq]
  exact body p e s m below meth c _ ⟨B.exec, B.bytes, hml, findClass_of_methodNamed B.named, fun w hw => atoms_spec (ws := WSy y cc n (some .long)) B.pre w (List.mem_cons_of_mem _ hw)⟩ (fun pc ls hd => W.lret B.exec B.bytes B.returns (fun t ht hW => ⟨rfl, ht⟩) (fun q h => by cases h) hd B.notSynchronized) _ (lv_entry As hn)
variable {D : va_G} {tys : List (ClassId × FieldType)} {w w' : va_W}
theorem CF.mkI {ret : FieldType} {r : Int32} (hy : plainName y.cls = true) (hn : (lg_sl As).length ≤ n)
    (body : ∀ (p : Program) (e : Env) (s : State) (m : MethodId) (below : List Frame) (meth : Method) (c : Code) (Q : State → Prop) (A : Nat → Prop), BX p s m As.toArray c cc n y.cls → va_K D vwCl tys s → (∀ w2 : va_W, w2.map Prod.fst = w.map Prod.fst → va_D A w2) → (∀ q : Nat, s.heap.size ≤ q → A q) →
      (∀ (H : Heap) (locs : List Loc) (pc : Nat) (ls : Array Slot), narrow ret (.int r) = .int r → decode cc pc = .ok (.ireturn, 1) → va_P D vwCl w' H → va_S A s.heap H locs → W p l e (rmF d 0 0) s m As.toArray below meth c H locs 0 0 Q (F0 m pc ls [.int r])) →
      va_P D vwCl w s.heap → va_S A s.heap s.heap [] → ∀ ls : Array Slot, lv_has ls n (lv_args 0 As) → W p l e (rmF d 0 0) s m As.toArray below meth c s.heap [] 0 0 Q (F0 m 0 ls [])) : CF l y cc n d (some ret) D tys As (some (.int r)) w w' := by
  intro sz
  refine Met.ofW (cc := cc) (maxL := n) (ret := some ret) hy rfl ?_
  intro p e s m args below meth c s₁ B hml hv
  obtain ⟨rfl, hsz, hP, hK, hD0⟩ := hv
  subst hsz
  rw [lg_entry_eq]
  exact body p e s m below meth c _ (va_A w s.heap.size) ⟨B.exec, B.bytes, hml, findClass_of_methodNamed B.named, fun w hw => atoms_spec (ws := WSy y cc n (some ret)) B.pre w (List.mem_cons_of_mem _ hw)⟩ hK (fun w2 h2 => va_D.same h2 (hD0.self)) (fun q h => Or.inr h)
    (fun H locs pc ls hnar hd hP' hS' => W.zret B.exec B.bytes B.returns hnar (fun t ht hW => ⟨rfl, by rw [ht]; exact hP', hS'.F ht⟩) hS'.2.2 hd B.notSynchronized) hP va_S.rf _ (lv_entry As hn)
theorem CF.mkL {r : Int64} (hy : plainName y.cls = true) (hn : (lg_sl As).length ≤ n)
    (body : ∀ (p : Program) (e : Env) (s : State) (m : MethodId) (below : List Frame) (meth : Method) (c : Code) (Q : State → Prop) (A : Nat → Prop), BX p s m As.toArray c cc n y.cls → va_K D vwCl tys s → (∀ w2 : va_W, w2.map Prod.fst = w.map Prod.fst → va_D A w2) → (∀ q : Nat, s.heap.size ≤ q → A q) →
      (∀ (H : Heap) (locs : List Loc) (pc : Nat) (ls : Array Slot), decode cc pc = .ok (.lreturn, 1) → va_P D vwCl w' H → va_S A s.heap H locs → W p l e (rmF d 0 0) s m As.toArray below meth c H locs 0 0 Q (F0 m pc ls [.long r])) →
      va_P D vwCl w s.heap → va_S A s.heap s.heap [] → ∀ ls : Array Slot, lv_has ls n (lv_args 0 As) → W p l e (rmF d 0 0) s m As.toArray below meth c s.heap [] 0 0 Q (F0 m 0 ls [])) : CF l y cc n d (some .long) D tys As (some (.long r)) w w' := by
  intro sz
  refine Met.ofW (cc := cc) (maxL := n) (ret := some .long) hy rfl ?_
  intro p e s m args below meth c s₁ B hml hv
  obtain ⟨rfl, hsz, hP, hK, hD0⟩ := hv
  subst hsz
  rw [lg_entry_eq]
  exact body p e s m below meth c _ (va_A w s.heap.size) ⟨B.exec, B.bytes, hml, findClass_of_methodNamed B.named, fun w hw => atoms_spec (ws := WSy y cc n (some .long)) B.pre w (List.mem_cons_of_mem _ hw)⟩ hK (fun w2 h2 => va_D.same h2 (hD0.self)) (fun q h => Or.inr h)
    (fun H locs pc ls hd hP' hS' => W.lret B.exec B.bytes B.returns (fun t ht hW => ⟨rfl, by rw [ht]; exact hP', hS'.F ht⟩) hS'.2.2 hd B.notSynchronized) hP va_S.rf _ (lv_entry As hn)
theorem CF.mkV (hy : plainName y.cls = true) (hn : (lg_sl As).length ≤ n)
    (body : ∀ (p : Program) (e : Env) (s : State) (m : MethodId) (below : List Frame) (meth : Method) (c : Code) (Q : State → Prop) (A : Nat → Prop), BX p s m As.toArray c cc n y.cls → va_K D vwCl tys s → (∀ w2 : va_W, w2.map Prod.fst = w.map Prod.fst → va_D A w2) → (∀ q : Nat, s.heap.size ≤ q → A q) →
      (∀ (H : Heap) (locs : List Loc) (pc : Nat) (ls : Array Slot), decode cc pc = .ok (.return_, 1) → va_P D vwCl w' H → va_S A s.heap H locs → W p l e (rmF d 0 0) s m As.toArray below meth c H locs 0 0 Q (F0 m pc ls [])) →
      va_P D vwCl w s.heap → va_S A s.heap s.heap [] → ∀ ls : Array Slot, lv_has ls n (lv_args 0 As) → W p l e (rmF d 0 0) s m As.toArray below meth c s.heap [] 0 0 Q (F0 m 0 ls [])) : CF l y cc n d none D tys As none w w' := by
  intro sz
  refine Met.ofW (cc := cc) (maxL := n) (ret := none) hy rfl ?_
  intro p e s m args below meth c s₁ B hml hv
  obtain ⟨rfl, hsz, hP, hK, hD0⟩ := hv
  subst hsz
  rw [lg_entry_eq]
  exact body p e s m below meth c _ (va_A w s.heap.size) ⟨B.exec, B.bytes, hml, findClass_of_methodNamed B.named, fun w hw => atoms_spec (ws := WSy y cc n none) B.pre w (List.mem_cons_of_mem _ hw)⟩ hK (fun w2 h2 => va_D.same h2 (hD0.self)) (fun q h => Or.inr h)
    (fun H locs pc ls hd hP' hS' => W.vret B.exec B.bytes B.returns (fun t ht hW => ⟨rfl, by rw [ht]; exact hP', hS'.F ht⟩) hS'.2.2 hd B.notSynchronized) hP va_S.rf _ (lv_entry As hn)
end MK
section CALLS
variable {p : Program} {l : Launch} {e : Env} {R : Room} {s : State} {m : MethodId} {args : Array Value} {below : List Frame} {meth : Method} {c : Code} {H : Heap} {locs : List Loc} {cells slots : Nat} {Q : State → Prop}
variable {pc : Nat} {ls : Array Slot} {rest st0 : List Value} {a : Array Value} {cc : ByteArray} {nL : Nat} {own : String}
theorem s_run {v : Option Value} (hr : va_Run p l e R s m args below meth c H locs cells slots 0 0 (F0 m pc ls st0) rest (sQ v a) (fun _ => False))
    (kk : W p l e R s m args below meth c H locs cells slots Q (F0 m (pc + 3) ls (v.toList ++ rest))) : W p l e R s m args below meth c H locs cells slots Q (F0 m pc ls st0) := by
  intro T hT X
  obtain ⟨v1, st₀, t, T', L, h0, X', hL, e1, e2, ⟨hv, hb⟩, st⟩ := hr T hT X
  cases hv
  have hL0 : L = [] := by
    cases L with
    | nil => rfl
    | cons q L => exact (hL q List.mem_cons_self).elim
  subst hL0
  rw [List.append_nil] at X'
  obtain ⟨t2, a1, b1⟩ := kk T' (by rw [e1, hb, h0]) X'
  exact ⟨t2, st t2 a1, b1⟩
theorem f_run {v : Option Value} {D : va_G} {w' : va_W} {A A1 : Nat → Prop} (hr : va_Run p l e R s m args below meth c H locs cells slots 0 0 (F0 m pc ls st0) rest (fQ D v w' A1 a) A1) (hS : va_S A s.heap H locs) (hsub : ∀ q, A1 q → A q)
    (kk : ∀ (H1 : Heap) (locs1 : List Loc), va_P D vwCl w' H1 → va_S A s.heap H1 locs1 → W p l e R s m args below meth c H1 locs1 cells slots Q (F0 m (pc + 3) ls (v.toList ++ rest))) : W p l e R s m args below meth c H locs cells slots Q (F0 m pc ls st0) := by
  intro T hT X
  obtain ⟨v1, st₀, t, T', L, h0, X', hL, e1, e2, ⟨hv, hp, hz, hk⟩, st⟩ := hr T hT X
  cases hv
  rw [h0] at hz hk
  obtain ⟨t2, a1, b1⟩ := kk T'.heap (locs ++ L) (by rw [e1]; exact hp)
    ⟨Nat.le_trans hS.1 (by rw [e1]; exact hz), fun q h1 h2 => by rw [e1, hk q (Nat.lt_of_lt_of_le h1 hS.1) (fun z => h2 (hsub q z))]; exact hS.2.1 q h1 h2, fun q hq => by
      rcases List.mem_append.mp hq with h | h
      · exact hS.2.2 q h
      · exact hsub _ (hL q h)⟩ T' rfl X'
  exact ⟨t2, st t2 a1, b1⟩
variable {y : MethodName} {yc : ByteArray} {ny d k idx : Nat} {ret : Option FieldType} {As : List Value} {v : Option Value}
/-- a static call -/
theorem s_call (hM : CS l y yc ny d ret As v) (B : BX p s m args c cc nL own) (hO : SOk y yc ny ret k) (hlink : Cond.methodLink own idx y ∈ wsL_law) (hk : As.length = k) (hR : d + 1 ≤ R.frames ∧ 8 + (ny + 11) + 40 * d ≤ R.locals) (hC : cells ≤ R.cells ∧ slots ≤ R.slots) (hsz : ls.size = nL) (hst : st0 = As.reverse ++ rest) (hW : (rest.map fun v => v.category).sum ≤ 8) (hdg : decode cc pc = .ok (.invokestatic idx, 3))
    (kk : W p l e R s m args below meth c H locs cells slots Q (F0 m (pc + 3) ls (v.toList ++ rest))) : W p l e R s m args below meth c H locs cells slots Q (F0 m pc ls st0) := by
  obtain ⟨hx, hb, hml, hown, hts⟩ := B
  obtain ⟨o1, o2, o3, o4⟩ := hO
  exact s_run (va_runS (As := As) (rest := rest) (Ts := wsL_law) (n := k) ⟨hx, hb, hml, hown, hts⟩ hM ⟨callB_of k hts (good_WSy o1) rfl rfl rfl (hts _ o3) (hts _ hlink) o4 hR, hts _ o2⟩ ⟨fun a U g mk q => q, fun U hU hW => ⟨rfl, trivial⟩⟩ rfl hk hsz hst (lv_room hW) hdg hC) kk
/-- a call over the fixed cells -/
theorem f_call {D : va_G} {tys : List (ClassId × FieldType)} {w w' : va_W} {A : Nat → Prop} {ad : List Nat} {r0 : Nat} (hM : CF l y yc ny d ret D tys (.ref r0 :: As) v w w') (B : BX p s m args c cc nL own) (hK : va_K D vwCl tys s) (hDD : ∀ w2 : va_W, w2.map Prod.fst = ad → va_D A w2) (hA : ∀ q : Nat, s.heap.size ≤ q → A q) (hP : va_P D vwCl w H) (hS : va_S A s.heap H locs) (hw : w.map Prod.fst = ad)
    (hrecv : ∃ cell : Cell, H[r0]? = some cell ∧ cell.vm.isStatics = false ∧ s.vm.findClass y.cls = some cell.cls) (hO : VOk y yc ny ret k) (hlink : Cond.methodLink own idx y ∈ wsL_law) (hk : As.length = k) (hR : d + 1 ≤ R.frames ∧ 8 + (ny + 11) + 40 * d ≤ R.locals) (hC : cells ≤ R.cells ∧ slots ≤ R.slots) (hsz : ls.size = nL) (hst : st0 = As.reverse ++ .ref r0 :: rest) (hW : (rest.map fun v => v.category).sum ≤ 8) (hdg : decode cc pc = .ok (.invokevirtual idx, 3))
    (kk : ∀ (H1 : Heap) (locs1 : List Loc), va_P D vwCl w' H1 → va_S A s.heap H1 locs1 → W p l e R s m args below meth c H1 locs1 cells slots Q (F0 m (pc + 3) ls (v.toList ++ rest))) : W p l e R s m args below meth c H locs cells slots Q (F0 m pc ls st0) := by
  obtain ⟨hx, hb, hml, hown, hts⟩ := B
  obtain ⟨o1, o2, o3, o4, o5⟩ := hO
  have hsub : ∀ q, va_A w H.size q → A q := by
    intro q hq
    rcases hq with ⟨i, e9, h9⟩ | h9
    · exact (hDD w hw).2 i (q, e9) h9
    · exact hA q (Nat.le_trans hS.1 h9)
  exact f_run (va_runV (C := y.cls) (As := As) (rest := rest) (Ts := wsL_law) (n := k) ⟨hx, hb, hml, hown, hts⟩ (hM H.size) ⟨callB_of k hts (good_WSy o1) rfl rfl rfl (hts _ o4) (hts _ hlink) o5 hR, hts _ o2, hts _ o3⟩ ⟨FPre.blind, hrecv, fun U hU hW => ⟨rfl, by rw [hU], by rw [hU]; exact hP, va_K.moved hW.alike hK, (hDD w hw).weaken (fun _ _ _ _ => trivial)⟩⟩ rfl hk hsz hst (lv_room hW) hdg hC) hS hsub kk
end CALLS
end
section
theorem zz_end : (1 : Nat) = 1 := rfl
end
