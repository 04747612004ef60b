section
-- ===== PART A: goes FIRST, ahead of the names: the tables' words, and 'selects' of the private methods out of them =====
/-- a private method of a class that the tables say can be made, by its rows of tables_1 -/
def lw_okq (q : MethodName × Nat) : Prop := (q.1.cls ≠ "java/lang/invoke/MethodHandle" ∧ q.1.cls ≠ "java/lang/invoke/VarHandle") ∧ Cond.instantiable q.1.cls q.2 ∈ tables_1 ∧ Cond.privateMethod q.1 ∈ tables_1 ∧ Cond.instanceMethod q.1 ∈ tables_1
theorem lw_p0 : lw_okq (⟨"java/lang/Throwable", "fillInStackTrace", "(I)Ljava/lang/Throwable;"⟩, 6) := ⟨⟨by decide +kernel, by decide +kernel⟩, List.mem_of_getElem? (i := 346) (by decide +kernel), List.mem_of_getElem? (i := 344) (by decide +kernel), List.mem_of_getElem? (i := 345) (by decide +kernel)⟩
theorem lw_p1 : lw_okq (⟨"TracePacks", "isRow", "(III)Z"⟩, 9) := ⟨⟨by decide +kernel, by decide +kernel⟩, List.mem_of_getElem? (i := 20) (by decide +kernel), List.mem_of_getElem? (i := 385) (by decide +kernel), List.mem_of_getElem? (i := 386) (by decide +kernel)⟩
theorem lw_p2 : lw_okq (⟨"TracePacks", "closeOpen", "()Z"⟩, 9) := ⟨⟨by decide +kernel, by decide +kernel⟩, List.mem_of_getElem? (i := 20) (by decide +kernel), List.mem_of_getElem? (i := 414) (by decide +kernel), List.mem_of_getElem? (i := 415) (by decide +kernel)⟩
theorem lw_p3 : lw_okq (⟨"TracePacks$Packer", "addWord", "(I)V"⟩, 3) := ⟨⟨by decide +kernel, by decide +kernel⟩, List.mem_of_getElem? (i := 73) (by decide +kernel), List.mem_of_getElem? (i := 448) (by decide +kernel), List.mem_of_getElem? (i := 449) (by decide +kernel)⟩
theorem lw_p4 : lw_okq (⟨"TracePacks$Packer", "addBranches", "()V"⟩, 3) := ⟨⟨by decide +kernel, by decide +kernel⟩, List.mem_of_getElem? (i := 73) (by decide +kernel), List.mem_of_getElem? (i := 458) (by decide +kernel), List.mem_of_getElem? (i := 459) (by decide +kernel)⟩
theorem lw_p5 : lw_okq (⟨"TracePacks$Packer", "addKind", "(II)V"⟩, 3) := ⟨⟨by decide +kernel, by decide +kernel⟩, List.mem_of_getElem? (i := 73) (by decide +kernel), List.mem_of_getElem? (i := 462) (by decide +kernel), List.mem_of_getElem? (i := 463) (by decide +kernel)⟩
theorem lw_p6 : lw_okq (⟨"TracePacks$Packer", "addRow", "(III)V"⟩, 3) := ⟨⟨by decide +kernel, by decide +kernel⟩, List.mem_of_getElem? (i := 73) (by decide +kernel), List.mem_of_getElem? (i := 474) (by decide +kernel), List.mem_of_getElem? (i := 475) (by decide +kernel)⟩
theorem lw_p7 : lw_okq (⟨"TracePacks$Packer", "addNumber", "(J)V"⟩, 3) := ⟨⟨by decide +kernel, by decide +kernel⟩, List.mem_of_getElem? (i := 73) (by decide +kernel), List.mem_of_getElem? (i := 483) (by decide +kernel), List.mem_of_getElem? (i := 484) (by decide +kernel)⟩
theorem lw_p8 : lw_okq (⟨"TracePacks$Packer", "addLoad", "(I)V"⟩, 3) := ⟨⟨by decide +kernel, by decide +kernel⟩, List.mem_of_getElem? (i := 73) (by decide +kernel), List.mem_of_getElem? (i := 488) (by decide +kernel), List.mem_of_getElem? (i := 489) (by decide +kernel)⟩
theorem lw_p9 : lw_okq (⟨"TracePacks$Packer", "addStore", "(II)V"⟩, 3) := ⟨⟨by decide +kernel, by decide +kernel⟩, List.mem_of_getElem? (i := 73) (by decide +kernel), List.mem_of_getElem? (i := 504) (by decide +kernel), List.mem_of_getElem? (i := 505) (by decide +kernel)⟩
theorem lw_p10 : lw_okq (⟨"TracePacks$Packer", "lengthShielded", "()I"⟩, 3) := ⟨⟨by decide +kernel, by decide +kernel⟩, List.mem_of_getElem? (i := 73) (by decide +kernel), List.mem_of_getElem? (i := 531) (by decide +kernel), List.mem_of_getElem? (i := 532) (by decide +kernel)⟩
theorem lw_p11 : lw_okq (⟨"TracePacks$Reader", "clear", "()V"⟩, 6) := ⟨⟨by decide +kernel, by decide +kernel⟩, List.mem_of_getElem? (i := 148) (by decide +kernel), List.mem_of_getElem? (i := 636) (by decide +kernel), List.mem_of_getElem? (i := 637) (by decide +kernel)⟩
theorem lw_p12 : lw_okq (⟨"TracePacks$Unpacker", "unshield", "(LTracePacks$Ints;II)Z"⟩, 4) := ⟨⟨by decide +kernel, by decide +kernel⟩, List.mem_of_getElem? (i := 154) (by decide +kernel), List.mem_of_getElem? (i := 654) (by decide +kernel), List.mem_of_getElem? (i := 655) (by decide +kernel)⟩
theorem lw_p13 : lw_okq (⟨"TracePacks$Unpacker", "takeSum", "()Z"⟩, 4) := ⟨⟨by decide +kernel, by decide +kernel⟩, List.mem_of_getElem? (i := 154) (by decide +kernel), List.mem_of_getElem? (i := 664) (by decide +kernel), List.mem_of_getElem? (i := 665) (by decide +kernel)⟩
theorem lw_p14 : lw_okq (⟨"TracePacks$Unpacker", "takeHead", "()Z"⟩, 4) := ⟨⟨by decide +kernel, by decide +kernel⟩, List.mem_of_getElem? (i := 154) (by decide +kernel), List.mem_of_getElem? (i := 670) (by decide +kernel), List.mem_of_getElem? (i := 671) (by decide +kernel)⟩
theorem lw_p15 : lw_okq (⟨"TracePacks$Unpacker", "takeWord", "()J"⟩, 4) := ⟨⟨by decide +kernel, by decide +kernel⟩, List.mem_of_getElem? (i := 154) (by decide +kernel), List.mem_of_getElem? (i := 674) (by decide +kernel), List.mem_of_getElem? (i := 675) (by decide +kernel)⟩
def lw_privs_1 : List (MethodName × Nat) := [(⟨"java/lang/Throwable", "fillInStackTrace", "(I)Ljava/lang/Throwable;"⟩, 6), (⟨"TracePacks", "isRow", "(III)Z"⟩, 9), (⟨"TracePacks", "closeOpen", "()Z"⟩, 9), (⟨"TracePacks$Packer", "addWord", "(I)V"⟩, 3), (⟨"TracePacks$Packer", "addBranches", "()V"⟩, 3), (⟨"TracePacks$Packer", "addKind", "(II)V"⟩, 3), (⟨"TracePacks$Packer", "addRow", "(III)V"⟩, 3), (⟨"TracePacks$Packer", "addNumber", "(J)V"⟩, 3), (⟨"TracePacks$Packer", "addLoad", "(I)V"⟩, 3), (⟨"TracePacks$Packer", "addStore", "(II)V"⟩, 3), (⟨"TracePacks$Packer", "lengthShielded", "()I"⟩, 3), (⟨"TracePacks$Reader", "clear", "()V"⟩, 6), (⟨"TracePacks$Unpacker", "unshield", "(LTracePacks$Ints;II)Z"⟩, 4), (⟨"TracePacks$Unpacker", "takeSum", "()Z"⟩, 4), (⟨"TracePacks$Unpacker", "takeHead", "()Z"⟩, 4), (⟨"TracePacks$Unpacker", "takeWord", "()J"⟩, 4)]
theorem lw_r1 : ∀ q ∈ lw_privs_1, lw_okq q := List.forall_mem_cons.mpr ⟨lw_p0, List.forall_mem_cons.mpr ⟨lw_p1, List.forall_mem_cons.mpr ⟨lw_p2, List.forall_mem_cons.mpr ⟨lw_p3, List.forall_mem_cons.mpr ⟨lw_p4, List.forall_mem_cons.mpr ⟨lw_p5, List.forall_mem_cons.mpr ⟨lw_p6, List.forall_mem_cons.mpr ⟨lw_p7, List.forall_mem_cons.mpr ⟨lw_p8, List.forall_mem_cons.mpr ⟨lw_p9, List.forall_mem_cons.mpr ⟨lw_p10, List.forall_mem_cons.mpr ⟨lw_p11, List.forall_mem_cons.mpr ⟨lw_p12, List.forall_mem_cons.mpr ⟨lw_p13, List.forall_mem_cons.mpr ⟨lw_p14, List.forall_mem_cons.mpr ⟨lw_p15, fun _ h => absurd h List.not_mem_nil⟩⟩⟩⟩⟩⟩⟩⟩⟩⟩⟩⟩⟩⟩⟩⟩
theorem lw_p16 : lw_okq (⟨"TracePacks$Unpacker", "takeRow", "()Z"⟩, 4) := ⟨⟨by decide +kernel, by decide +kernel⟩, List.mem_of_getElem? (i := 154) (by decide +kernel), List.mem_of_getElem? (i := 683) (by decide +kernel), List.mem_of_getElem? (i := 684) (by decide +kernel)⟩
theorem lw_p17 : lw_okq (⟨"TracePacks$Unpacker", "takeNumber", "()J"⟩, 4) := ⟨⟨by decide +kernel, by decide +kernel⟩, List.mem_of_getElem? (i := 154) (by decide +kernel), List.mem_of_getElem? (i := 690) (by decide +kernel), List.mem_of_getElem? (i := 691) (by decide +kernel)⟩
theorem lw_p18 : lw_okq (⟨"TracePacks$Unpacker", "takeBranches", "(I)Z"⟩, 4) := ⟨⟨by decide +kernel, by decide +kernel⟩, List.mem_of_getElem? (i := 154) (by decide +kernel), List.mem_of_getElem? (i := 697) (by decide +kernel), List.mem_of_getElem? (i := 698) (by decide +kernel)⟩
theorem lw_p19 : lw_okq (⟨"TracePacks$Unpacker", "takeJump", "(J)Z"⟩, 4) := ⟨⟨by decide +kernel, by decide +kernel⟩, List.mem_of_getElem? (i := 154) (by decide +kernel), List.mem_of_getElem? (i := 702) (by decide +kernel), List.mem_of_getElem? (i := 703) (by decide +kernel)⟩
theorem lw_p20 : lw_okq (⟨"TracePacks$Unpacker", "takeLoad", "(IJ)Z"⟩, 4) := ⟨⟨by decide +kernel, by decide +kernel⟩, List.mem_of_getElem? (i := 154) (by decide +kernel), List.mem_of_getElem? (i := 709) (by decide +kernel), List.mem_of_getElem? (i := 710) (by decide +kernel)⟩
theorem lw_p21 : lw_okq (⟨"TracePacks$Unpacker", "takeStore", "(IJ)Z"⟩, 4) := ⟨⟨by decide +kernel, by decide +kernel⟩, List.mem_of_getElem? (i := 154) (by decide +kernel), List.mem_of_getElem? (i := 723) (by decide +kernel), List.mem_of_getElem? (i := 724) (by decide +kernel)⟩
theorem lw_p22 : lw_okq (⟨"TracePacks$Unpacker", "takeTime", "(J)Z"⟩, 4) := ⟨⟨by decide +kernel, by decide +kernel⟩, List.mem_of_getElem? (i := 154) (by decide +kernel), List.mem_of_getElem? (i := 737) (by decide +kernel), List.mem_of_getElem? (i := 738) (by decide +kernel)⟩
theorem lw_p23 : lw_okq (⟨"TracePacks$Reader", "keepRows", "(LTracePacks$Block;I)V"⟩, 6) := ⟨⟨by decide +kernel, by decide +kernel⟩, List.mem_of_getElem? (i := 148) (by decide +kernel), List.mem_of_getElem? (i := 747) (by decide +kernel), List.mem_of_getElem? (i := 748) (by decide +kernel)⟩
theorem lw_p24 : lw_okq (⟨"TracePacks$Kept", "putInOrder", "()V"⟩, 9) := ⟨⟨by decide +kernel, by decide +kernel⟩, List.mem_of_getElem? (i := 179) (by decide +kernel), List.mem_of_getElem? (i := 797) (by decide +kernel), List.mem_of_getElem? (i := 798) (by decide +kernel)⟩
theorem lw_p25 : lw_okq (⟨"TracePacks$Kept", "joinRuns", "(III)V"⟩, 9) := ⟨⟨by decide +kernel, by decide +kernel⟩, List.mem_of_getElem? (i := 179) (by decide +kernel), List.mem_of_getElem? (i := 805) (by decide +kernel), List.mem_of_getElem? (i := 806) (by decide +kernel)⟩
theorem lw_p26 : lw_okq (⟨"TracePacks$Kept", "goesBefore", "(II)Z"⟩, 9) := ⟨⟨by decide +kernel, by decide +kernel⟩, List.mem_of_getElem? (i := 179) (by decide +kernel), List.mem_of_getElem? (i := 809) (by decide +kernel), List.mem_of_getElem? (i := 810) (by decide +kernel)⟩
theorem lw_p27 : lw_okq (⟨"TracePacksModel", "fail", "(I)I"⟩, 40) := ⟨⟨by decide +kernel, by decide +kernel⟩, List.mem_of_getElem? (i := 813) (by decide +kernel), List.mem_of_getElem? (i := 952) (by decide +kernel), List.mem_of_getElem? (i := 953) (by decide +kernel)⟩
theorem lw_p28 : lw_okq (⟨"TracePacksModel", "close", "()Z"⟩, 40) := ⟨⟨by decide +kernel, by decide +kernel⟩, List.mem_of_getElem? (i := 813) (by decide +kernel), List.mem_of_getElem? (i := 961) (by decide +kernel), List.mem_of_getElem? (i := 962) (by decide +kernel)⟩
theorem lw_p29 : lw_okq (⟨"TracePacksModel", "makeInside", "()V"⟩, 40) := ⟨⟨by decide +kernel, by decide +kernel⟩, List.mem_of_getElem? (i := 813) (by decide +kernel), List.mem_of_getElem? (i := 965) (by decide +kernel), List.mem_of_getElem? (i := 966) (by decide +kernel)⟩
theorem lw_p30 : lw_okq (⟨"TracePacksModel", "say", "(I)V"⟩, 40) := ⟨⟨by decide +kernel, by decide +kernel⟩, List.mem_of_getElem? (i := 813) (by decide +kernel), List.mem_of_getElem? (i := 969) (by decide +kernel), List.mem_of_getElem? (i := 970) (by decide +kernel)⟩
theorem lw_p31 : lw_okq (⟨"TracePacksModel", "sayFour", "(I)V"⟩, 40) := ⟨⟨by decide +kernel, by decide +kernel⟩, List.mem_of_getElem? (i := 813) (by decide +kernel), List.mem_of_getElem? (i := 973) (by decide +kernel), List.mem_of_getElem? (i := 974) (by decide +kernel)⟩
def lw_privs_2 : List (MethodName × Nat) := [(⟨"TracePacks$Unpacker", "takeRow", "()Z"⟩, 4), (⟨"TracePacks$Unpacker", "takeNumber", "()J"⟩, 4), (⟨"TracePacks$Unpacker", "takeBranches", "(I)Z"⟩, 4), (⟨"TracePacks$Unpacker", "takeJump", "(J)Z"⟩, 4), (⟨"TracePacks$Unpacker", "takeLoad", "(IJ)Z"⟩, 4), (⟨"TracePacks$Unpacker", "takeStore", "(IJ)Z"⟩, 4), (⟨"TracePacks$Unpacker", "takeTime", "(J)Z"⟩, 4), (⟨"TracePacks$Reader", "keepRows", "(LTracePacks$Block;I)V"⟩, 6), (⟨"TracePacks$Kept", "putInOrder", "()V"⟩, 9), (⟨"TracePacks$Kept", "joinRuns", "(III)V"⟩, 9), (⟨"TracePacks$Kept", "goesBefore", "(II)Z"⟩, 9), (⟨"TracePacksModel", "fail", "(I)I"⟩, 40), (⟨"TracePacksModel", "close", "()Z"⟩, 40), (⟨"TracePacksModel", "makeInside", "()V"⟩, 40), (⟨"TracePacksModel", "say", "(I)V"⟩, 40), (⟨"TracePacksModel", "sayFour", "(I)V"⟩, 40)]
theorem lw_r2 : ∀ q ∈ lw_privs_2, lw_okq q := List.forall_mem_cons.mpr ⟨lw_p16, List.forall_mem_cons.mpr ⟨lw_p17, List.forall_mem_cons.mpr ⟨lw_p18, List.forall_mem_cons.mpr ⟨lw_p19, List.forall_mem_cons.mpr ⟨lw_p20, List.forall_mem_cons.mpr ⟨lw_p21, List.forall_mem_cons.mpr ⟨lw_p22, List.forall_mem_cons.mpr ⟨lw_p23, List.forall_mem_cons.mpr ⟨lw_p24, List.forall_mem_cons.mpr ⟨lw_p25, List.forall_mem_cons.mpr ⟨lw_p26, List.forall_mem_cons.mpr ⟨lw_p27, List.forall_mem_cons.mpr ⟨lw_p28, List.forall_mem_cons.mpr ⟨lw_p29, List.forall_mem_cons.mpr ⟨lw_p30, List.forall_mem_cons.mpr ⟨lw_p31, fun _ h => absurd h List.not_mem_nil⟩⟩⟩⟩⟩⟩⟩⟩⟩⟩⟩⟩⟩⟩⟩⟩
theorem lw_p32 : lw_okq (⟨"TracePacksModel", "sayRows", "()V"⟩, 40) := ⟨⟨by decide +kernel, by decide +kernel⟩, List.mem_of_getElem? (i := 813) (by decide +kernel), List.mem_of_getElem? (i := 977) (by decide +kernel), List.mem_of_getElem? (i := 978) (by decide +kernel)⟩
theorem lw_p33 : lw_okq (⟨"TracePacksModel", "sayDifference", "(I)V"⟩, 40) := ⟨⟨by decide +kernel, by decide +kernel⟩, List.mem_of_getElem? (i := 813) (by decide +kernel), List.mem_of_getElem? (i := 981) (by decide +kernel), List.mem_of_getElem? (i := 982) (by decide +kernel)⟩
theorem lw_p34 : lw_okq (⟨"TracePacksModel", "sayNumber", "(J)V"⟩, 40) := ⟨⟨by decide +kernel, by decide +kernel⟩, List.mem_of_getElem? (i := 813) (by decide +kernel), List.mem_of_getElem? (i := 987) (by decide +kernel), List.mem_of_getElem? (i := 988) (by decide +kernel)⟩
theorem lw_p35 : lw_okq (⟨"TracePacksModel", "putValue", "(I)I"⟩, 40) := ⟨⟨by decide +kernel, by decide +kernel⟩, List.mem_of_getElem? (i := 813) (by decide +kernel), List.mem_of_getElem? (i := 992) (by decide +kernel), List.mem_of_getElem? (i := 993) (by decide +kernel)⟩
theorem lw_p36 : lw_okq (⟨"TracePacksModel", "sumUp", "(I)V"⟩, 40) := ⟨⟨by decide +kernel, by decide +kernel⟩, List.mem_of_getElem? (i := 813) (by decide +kernel), List.mem_of_getElem? (i := 996) (by decide +kernel), List.mem_of_getElem? (i := 997) (by decide +kernel)⟩
theorem lw_p37 : lw_okq (⟨"TracePacksModel", "putByte", "(I)V"⟩, 40) := ⟨⟨by decide +kernel, by decide +kernel⟩, List.mem_of_getElem? (i := 813) (by decide +kernel), List.mem_of_getElem? (i := 1003) (by decide +kernel), List.mem_of_getElem? (i := 1004) (by decide +kernel)⟩
theorem lw_p38 : lw_okq (⟨"TracePacksModel", "block", "(II)V"⟩, 40) := ⟨⟨by decide +kernel, by decide +kernel⟩, List.mem_of_getElem? (i := 813) (by decide +kernel), List.mem_of_getElem? (i := 1038) (by decide +kernel), List.mem_of_getElem? (i := 1039) (by decide +kernel)⟩
theorem lw_p39 : lw_okq (⟨"TracePacksModel", "unshield", "(II)Z"⟩, 40) := ⟨⟨by decide +kernel, by decide +kernel⟩, List.mem_of_getElem? (i := 813) (by decide +kernel), List.mem_of_getElem? (i := 1042) (by decide +kernel), List.mem_of_getElem? (i := 1043) (by decide +kernel)⟩
theorem lw_p40 : lw_okq (⟨"TracePacksModel", "next", "()I"⟩, 40) := ⟨⟨by decide +kernel, by decide +kernel⟩, List.mem_of_getElem? (i := 813) (by decide +kernel), List.mem_of_getElem? (i := 1046) (by decide +kernel), List.mem_of_getElem? (i := 1047) (by decide +kernel)⟩
theorem lw_p41 : lw_okq (⟨"TracePacksModel", "nextFour", "()I"⟩, 40) := ⟨⟨by decide +kernel, by decide +kernel⟩, List.mem_of_getElem? (i := 813) (by decide +kernel), List.mem_of_getElem? (i := 1050) (by decide +kernel), List.mem_of_getElem? (i := 1051) (by decide +kernel)⟩
theorem lw_p42 : lw_okq (⟨"TracePacksModel", "getRows", "(I)V"⟩, 40) := ⟨⟨by decide +kernel, by decide +kernel⟩, List.mem_of_getElem? (i := 813) (by decide +kernel), List.mem_of_getElem? (i := 1055) (by decide +kernel), List.mem_of_getElem? (i := 1056) (by decide +kernel)⟩
theorem lw_p43 : lw_okq (⟨"TracePacksModel", "get", "(IIII)V"⟩, 40) := ⟨⟨by decide +kernel, by decide +kernel⟩, List.mem_of_getElem? (i := 813) (by decide +kernel), List.mem_of_getElem? (i := 1059) (by decide +kernel), List.mem_of_getElem? (i := 1060) (by decide +kernel)⟩
theorem lw_p44 : lw_okq (⟨"TracePacksModel", "nextDifference", "()I"⟩, 40) := ⟨⟨by decide +kernel, by decide +kernel⟩, List.mem_of_getElem? (i := 813) (by decide +kernel), List.mem_of_getElem? (i := 1063) (by decide +kernel), List.mem_of_getElem? (i := 1064) (by decide +kernel)⟩
theorem lw_p45 : lw_okq (⟨"TracePacksModel", "nextNumber", "()J"⟩, 40) := ⟨⟨by decide +kernel, by decide +kernel⟩, List.mem_of_getElem? (i := 813) (by decide +kernel), List.mem_of_getElem? (i := 1067) (by decide +kernel), List.mem_of_getElem? (i := 1068) (by decide +kernel)⟩
theorem lw_p46 : lw_okq (⟨"TracePacksModel", "keep", "(II)V"⟩, 40) := ⟨⟨by decide +kernel, by decide +kernel⟩, List.mem_of_getElem? (i := 813) (by decide +kernel), List.mem_of_getElem? (i := 1072) (by decide +kernel), List.mem_of_getElem? (i := 1073) (by decide +kernel)⟩
theorem lw_p47 : lw_okq (⟨"TracePacksModel", "isBefore", "(II)Z"⟩, 40) := ⟨⟨by decide +kernel, by decide +kernel⟩, List.mem_of_getElem? (i := 813) (by decide +kernel), List.mem_of_getElem? (i := 1085) (by decide +kernel), List.mem_of_getElem? (i := 1086) (by decide +kernel)⟩
def lw_privs_3 : List (MethodName × Nat) := [(⟨"TracePacksModel", "sayRows", "()V"⟩, 40), (⟨"TracePacksModel", "sayDifference", "(I)V"⟩, 40), (⟨"TracePacksModel", "sayNumber", "(J)V"⟩, 40), (⟨"TracePacksModel", "putValue", "(I)I"⟩, 40), (⟨"TracePacksModel", "sumUp", "(I)V"⟩, 40), (⟨"TracePacksModel", "putByte", "(I)V"⟩, 40), (⟨"TracePacksModel", "block", "(II)V"⟩, 40), (⟨"TracePacksModel", "unshield", "(II)Z"⟩, 40), (⟨"TracePacksModel", "next", "()I"⟩, 40), (⟨"TracePacksModel", "nextFour", "()I"⟩, 40), (⟨"TracePacksModel", "getRows", "(I)V"⟩, 40), (⟨"TracePacksModel", "get", "(IIII)V"⟩, 40), (⟨"TracePacksModel", "nextDifference", "()I"⟩, 40), (⟨"TracePacksModel", "nextNumber", "()J"⟩, 40), (⟨"TracePacksModel", "keep", "(II)V"⟩, 40), (⟨"TracePacksModel", "isBefore", "(II)Z"⟩, 40)]
theorem lw_r3 : ∀ q ∈ lw_privs_3, lw_okq q := List.forall_mem_cons.mpr ⟨lw_p32, List.forall_mem_cons.mpr ⟨lw_p33, List.forall_mem_cons.mpr ⟨lw_p34, List.forall_mem_cons.mpr ⟨lw_p35, List.forall_mem_cons.mpr ⟨lw_p36, List.forall_mem_cons.mpr ⟨lw_p37, List.forall_mem_cons.mpr ⟨lw_p38, List.forall_mem_cons.mpr ⟨lw_p39, List.forall_mem_cons.mpr ⟨lw_p40, List.forall_mem_cons.mpr ⟨lw_p41, List.forall_mem_cons.mpr ⟨lw_p42, List.forall_mem_cons.mpr ⟨lw_p43, List.forall_mem_cons.mpr ⟨lw_p44, List.forall_mem_cons.mpr ⟨lw_p45, List.forall_mem_cons.mpr ⟨lw_p46, List.forall_mem_cons.mpr ⟨lw_p47, fun _ h => absurd h List.not_mem_nil⟩⟩⟩⟩⟩⟩⟩⟩⟩⟩⟩⟩⟩⟩⟩⟩
def lw_privs : List (MethodName × Nat) := lw_privs_1 ++ (lw_privs_2 ++ (lw_privs_3))
def lw_tbl : List Cond := k2_sels lw_privs ++ tables_1
theorem lw_privs_ok : ∀ q ∈ lw_privs, lw_okq q := by
  show ∀ q ∈ lw_privs_1 ++ (lw_privs_2 ++ (lw_privs_3)), lw_okq q
  exact List.forall_mem_append.mpr ⟨lw_r1, List.forall_mem_append.mpr ⟨lw_r2, lw_r3⟩⟩
/-! names, by program (wip/whole/gen/mk01.py) -/
def R_I : String := "TracePacks$Ints"
def F_I : u_T := fun k => match k with
  | 0 => ("TracePacks$Ints", "cells", "[I", true)
  | _ => ("TracePacks$Ints", "size", "I", false)
def ft_I : Nat → FieldType := fun k => match k with
  | 0 => .array .int
  | _ => .int
theorem n_I : ∀ a, a < 2 → ∀ b, b < 2 → a ≠ b → (F_I a).2.1 ≠ (F_I b).2.1 := by decide +kernel
theorem tk_I : ∀ k, k < 2 → parseFieldDescriptor (F_I k).2.2.1 = some (ft_I k) := by decide +kernel
def R_L : String := "TracePacks$Places"
def F_L : u_T := fun k => match k with
  | 0 => ("TracePacks$Places", "place", "I", false)
  | _ => ("TracePacks$Places", "stride", "I", false)
def ft_L : Nat → FieldType := fun k => match k with
  | 0 => .int
  | _ => .int
theorem n_L : ∀ a, a < 2 → ∀ b, b < 2 → a ≠ b → (F_L a).2.1 ≠ (F_L b).2.1 := by decide +kernel
theorem tk_L : ∀ k, k < 2 → parseFieldDescriptor (F_L k).2.2.1 = some (ft_L k) := by decide +kernel
def R_B : String := "TracePacks$Block"
def F_B : u_T := fun k => match k with
  | 0 => ("TracePacks$Block", "kinds", "LTracePacks$Ints;", true)
  | 1 => ("TracePacks$Block", "as", "LTracePacks$Ints;", true)
  | 2 => ("TracePacks$Block", "bs", "LTracePacks$Ints;", true)
  | 3 => ("TracePacks$Block", "owner", "I", false)
  | _ => ("TracePacks$Block", "time", "I", false)
def ft_B : Nat → FieldType := fun k => match k with
  | 0 => .object "TracePacks$Ints"
  | 1 => .object "TracePacks$Ints"
  | 2 => .object "TracePacks$Ints"
  | 3 => .int
  | _ => .int
theorem n_B : ∀ a, a < 5 → ∀ b, b < 5 → a ≠ b → (F_B a).2.1 ≠ (F_B b).2.1 := by decide +kernel
theorem tk_B : ∀ k, k < 5 → parseFieldDescriptor (F_B k).2.2.1 = some (ft_B k) := by decide +kernel
def R_V : String := "TracePacks$LastValues"
def F_V : u_T := fun k => match k with
  | _ => ("TracePacks$LastValues", "values", "LTracePacks$Ints;", true)
def ft_V : Nat → FieldType := fun k => match k with
  | _ => .object "TracePacks$Ints"
theorem n_V : ∀ a, a < 1 → ∀ b, b < 1 → a ≠ b → (F_V a).2.1 ≠ (F_V b).2.1 := by decide +kernel
theorem tk_V : ∀ k, k < 1 → parseFieldDescriptor (F_V k).2.2.1 = some (ft_V k) := by decide +kernel
def R_M : String := "TracePacks$Memory"
def F_M : u_T := fun k => match k with
  | 0 => ("TracePacks$Memory", "loads", "LTracePacks$Places;", true)
  | 1 => ("TracePacks$Memory", "stores", "LTracePacks$Places;", true)
  | 2 => ("TracePacks$Memory", "values", "LTracePacks$LastValues;", true)
  | 3 => ("TracePacks$Memory", "jump", "I", false)
  | _ => ("TracePacks$Memory", "time", "I", false)
def ft_M : Nat → FieldType := fun k => match k with
  | 0 => .object "TracePacks$Places"
  | 1 => .object "TracePacks$Places"
  | 2 => .object "TracePacks$LastValues"
  | 3 => .int
  | _ => .int
theorem n_M : ∀ a, a < 5 → ∀ b, b < 5 → a ≠ b → (F_M a).2.1 ≠ (F_M b).2.1 := by decide +kernel
theorem tk_M : ∀ k, k < 5 → parseFieldDescriptor (F_M k).2.2.1 = some (ft_M k) := by decide +kernel
def R_K : String := "TracePacks$Kept"
def F_K : u_T := fun k => match k with
  | 0 => ("TracePacks$Kept", "kinds", "LTracePacks$Ints;", true)
  | 1 => ("TracePacks$Kept", "as", "LTracePacks$Ints;", true)
  | 2 => ("TracePacks$Kept", "bs", "LTracePacks$Ints;", true)
  | 3 => ("TracePacks$Kept", "owners", "LTracePacks$Ints;", true)
  | 4 => ("TracePacks$Kept", "times", "LTracePacks$Ints;", true)
  | 5 => ("TracePacks$Kept", "blocks", "LTracePacks$Ints;", true)
  | 6 => ("TracePacks$Kept", "order", "LTracePacks$Ints;", false)
  | 7 => ("TracePacks$Kept", "spare", "LTracePacks$Ints;", false)
  | _ => ("TracePacks$Kept", "isOrdered", "Z", false)
def ft_K : Nat → FieldType := fun k => match k with
  | 0 => .object "TracePacks$Ints"
  | 1 => .object "TracePacks$Ints"
  | 2 => .object "TracePacks$Ints"
  | 3 => .object "TracePacks$Ints"
  | 4 => .object "TracePacks$Ints"
  | 5 => .object "TracePacks$Ints"
  | 6 => .object "TracePacks$Ints"
  | 7 => .object "TracePacks$Ints"
  | _ => .boolean
theorem n_K : ∀ a, a < 9 → ∀ b, b < 9 → a ≠ b → (F_K a).2.1 ≠ (F_K b).2.1 := by decide +kernel
theorem tk_K : ∀ k, k < 9 → parseFieldDescriptor (F_K k).2.2.1 = some (ft_K k) := by decide +kernel
def R_Q : String := "TracePacks$Packer"
def F_Q : u_T := fun k => match k with
  | 0 => ("TracePacks$Packer", "inside", "LTracePacks$Ints;", true)
  | 1 => ("TracePacks$Packer", "memory", "LTracePacks$Memory;", true)
  | _ => ("TracePacks$Packer", "outcomes", "I", false)
def ft_Q : Nat → FieldType := fun k => match k with
  | 0 => .object "TracePacks$Ints"
  | 1 => .object "TracePacks$Memory"
  | _ => .int
theorem n_Q : ∀ a, a < 3 → ∀ b, b < 3 → a ≠ b → (F_Q a).2.1 ≠ (F_Q b).2.1 := by decide +kernel
theorem tk_Q : ∀ k, k < 3 → parseFieldDescriptor (F_Q k).2.2.1 = some (ft_Q k) := by decide +kernel
def R_U : String := "TracePacks$Unpacker"
def F_U : u_T := fun k => match k with
  | 0 => ("TracePacks$Unpacker", "inside", "LTracePacks$Ints;", true)
  | 1 => ("TracePacks$Unpacker", "memory", "LTracePacks$Memory;", true)
  | 2 => ("TracePacks$Unpacker", "block", "LTracePacks$Block;", true)
  | _ => ("TracePacks$Unpacker", "place", "I", false)
def ft_U : Nat → FieldType := fun k => match k with
  | 0 => .object "TracePacks$Ints"
  | 1 => .object "TracePacks$Memory"
  | 2 => .object "TracePacks$Block"
  | _ => .int
theorem n_U : ∀ a, a < 4 → ∀ b, b < 4 → a ≠ b → (F_U a).2.1 ≠ (F_U b).2.1 := by decide +kernel
theorem tk_U : ∀ k, k < 4 → parseFieldDescriptor (F_U k).2.2.1 = some (ft_U k) := by decide +kernel
def R_R : String := "TracePacks$Reader"
def F_R : u_T := fun k => match k with
  | 0 => ("TracePacks$Reader", "unpacker", "LTracePacks$Unpacker;", true)
  | 1 => ("TracePacks$Reader", "rows", "LTracePacks$Kept;", true)
  | 2 => ("TracePacks$Reader", "passedOver", "I", false)
  | 3 => ("TracePacks$Reader", "blocks", "I", false)
  | 4 => ("TracePacks$Reader", "broken", "I", false)
  | _ => ("TracePacks$Reader", "notKept", "I", false)
def ft_R : Nat → FieldType := fun k => match k with
  | 0 => .object "TracePacks$Unpacker"
  | 1 => .object "TracePacks$Kept"
  | 2 => .int
  | 3 => .int
  | 4 => .int
  | _ => .int
theorem n_R : ∀ a, a < 6 → ∀ b, b < 6 → a ≠ b → (F_R a).2.1 ≠ (F_R b).2.1 := by decide +kernel
theorem tk_R : ∀ k, k < 6 → parseFieldDescriptor (F_R k).2.2.1 = some (ft_R k) := by decide +kernel
def R_T : String := "TracePacks"
def F_T : u_T := fun k => match k with
  | 0 => ("TracePacks", "pack", "LTracePacks$Ints;", true)
  | 1 => ("TracePacks", "times", "LTracePacks$Ints;", true)
  | 2 => ("TracePacks", "open", "LTracePacks$Block;", true)
  | 3 => ("TracePacks", "packer", "LTracePacks$Packer;", true)
  | 4 => ("TracePacks", "reader", "LTracePacks$Reader;", true)
  | 5 => ("TracePacks", "current", "I", false)
  | 6 => ("TracePacks", "chosen", "I", false)
  | 7 => ("TracePacks", "rowsSoFar", "I", false)
  | _ => ("TracePacks", "blocksSoFar", "I", false)
def ft_T : Nat → FieldType := fun k => match k with
  | 0 => .object "TracePacks$Ints"
  | 1 => .object "TracePacks$Ints"
  | 2 => .object "TracePacks$Block"
  | 3 => .object "TracePacks$Packer"
  | 4 => .object "TracePacks$Reader"
  | 5 => .int
  | 6 => .int
  | 7 => .int
  | _ => .int
theorem n_T : ∀ a, a < 9 → ∀ b, b < 9 → a ≠ b → (F_T a).2.1 ≠ (F_T b).2.1 := by decide +kernel
theorem tk_T : ∀ k, k < 9 → parseFieldDescriptor (F_T k).2.2.1 = some (ft_T k) := by decide +kernel
def R_Z : String := "TracePacksModel"
def F_Z : u_T := fun k => match k with
  | 0 => ("TracePacksModel", "thrown", "I", false)
  | 1 => ("TracePacksModel", "size", "I", false)
  | 2 => ("TracePacksModel", "pack", "[B", true)
  | 3 => ("TracePacksModel", "thread", "I", false)
  | 4 => ("TracePacksModel", "time", "[I", true)
  | 5 => ("TracePacksModel", "rows", "I", false)
  | 6 => ("TracePacksModel", "owner", "I", false)
  | 7 => ("TracePacksModel", "began", "I", false)
  | 8 => ("TracePacksModel", "rowKind", "[I", true)
  | 9 => ("TracePacksModel", "rowA", "[I", true)
  | 10 => ("TracePacksModel", "rowB", "[I", true)
  | 11 => ("TracePacksModel", "allRows", "I", false)
  | 12 => ("TracePacksModel", "closed", "I", false)
  | 13 => ("TracePacksModel", "kinds", "I", false)
  | 14 => ("TracePacksModel", "threads", "I", false)
  | 15 => ("TracePacksModel", "inSize", "I", false)
  | 16 => ("TracePacksModel", "inside", "[I", true)
  | 17 => ("TracePacksModel", "p", "I", false)
  | 18 => ("TracePacksModel", "q", "I", false)
  | 19 => ("TracePacksModel", "values", "I", false)
  | 20 => ("TracePacksModel", "value", "[I", true)
  | 21 => ("TracePacksModel", "passed", "I", false)
  | 22 => ("TracePacksModel", "blocks", "I", false)
  | 23 => ("TracePacksModel", "broken", "I", false)
  | 24 => ("TracePacksModel", "kept", "I", false)
  | 25 => ("TracePacksModel", "others", "I", false)
  | 26 => ("TracePacksModel", "keptKind", "[I", true)
  | 27 => ("TracePacksModel", "keptA", "[I", true)
  | 28 => ("TracePacksModel", "keptB", "[I", true)
  | 29 => ("TracePacksModel", "keptThread", "[I", true)
  | 30 => ("TracePacksModel", "keptTime", "[I", true)
  | 31 => ("TracePacksModel", "keptBlock", "[I", true)
  | 32 => ("TracePacksModel", "gotKind", "[I", true)
  | 33 => ("TracePacksModel", "gotA", "[I", true)
  | 34 => ("TracePacksModel", "gotB", "[I", true)
  | 35 => ("TracePacksModel", "gotTime", "[I", true)
  | 36 => ("TracePacksModel", "got", "I", false)
  | 37 => ("TracePacksModel", "at", "I", false)
  | 38 => ("TracePacksModel", "last", "I", false)
  | _ => ("TracePacksModel", "good", "Z", false)
def ft_Z : Nat → FieldType := fun k => match k with
  | 0 => .int
  | 1 => .int
  | 2 => .array .byte
  | 3 => .int
  | 4 => .array .int
  | 5 => .int
  | 6 => .int
  | 7 => .int
  | 8 => .array .int
  | 9 => .array .int
  | 10 => .array .int
  | 11 => .int
  | 12 => .int
  | 13 => .int
  | 14 => .int
  | 15 => .int
  | 16 => .array .int
  | 17 => .int
  | 18 => .int
  | 19 => .int
  | 20 => .array .int
  | 21 => .int
  | 22 => .int
  | 23 => .int
  | 24 => .int
  | 25 => .int
  | 26 => .array .int
  | 27 => .array .int
  | 28 => .array .int
  | 29 => .array .int
  | 30 => .array .int
  | 31 => .array .int
  | 32 => .array .int
  | 33 => .array .int
  | 34 => .array .int
  | 35 => .array .int
  | 36 => .int
  | 37 => .int
  | 38 => .int
  | _ => .boolean
theorem n_Z : ∀ a, a < 40 → ∀ b, b < 40 → a ≠ b → (F_Z a).2.1 ≠ (F_Z b).2.1 := by decide +kernel
theorem tk_Z : ∀ k, k < 40 → parseFieldDescriptor (F_Z k).2.2.1 = some (ft_Z k) := by decide +kernel
abbrev vwCl : List vw_C := [(R_I, F_I, 2), (R_L, F_L, 2), (R_B, F_B, 5), (R_V, F_V, 1), (R_M, F_M, 5), (R_K, F_K, 9), (R_Q, F_Q, 3), (R_U, F_U, 4), (R_R, F_R, 6), (R_T, F_T, 9), (R_Z, F_Z, 40)]
def g_gw (w : Cond) : Bool := match w with
  | .fieldLinkNest .. => true
  | .methodLinkNest .. => true
  | w => goodWord w
def g_W : List Cond := lw_tbl.filter g_gw
def g_Gd (w : Cond) : Prop := ∀ (a a' : Array Value) (s U : State), s.WarmedH U.vm → w.before a s = true → w.before a' U = true
theorem g_good : ∀ w ∈ g_W, g_Gd w := by
  intro w hw a a' s U hW h
  have hg := (List.mem_filter.mp hw).2
  unfold g_gw at hg
  split at hg
  · exact va_Nw.use rfl (va_Nw.warmF hW (va_Nw.of rfl h))
  · exact va_Nw.use rfl (va_Nw.warmM hW (va_Nw.of rfl h))
  · exact word_at hW (good_of_word hg) h
theorem w_of {w : Cond} (h : w ∈ tables_1) (hg : g_gw w = true) : w ∈ g_W := List.mem_filter.mpr ⟨List.mem_append_right _ h, hg⟩
theorem w_pr {w : Cond} (i : Nat) (h : (k2_sels lw_privs)[i]? = some w) (hg : g_gw w = true) : w ∈ g_W := List.mem_filter.mpr ⟨List.mem_append_left _ (List.mem_of_getElem? h), hg⟩
theorem w_c1 {w : Cond} (i : Nat) (h : tables_1_1[i]? = some w) (hg : g_gw w = true) : w ∈ g_W := w_of (List.mem_append_left _ (List.mem_of_getElem? h)) hg
theorem w_c2 {w : Cond} (i : Nat) (h : tables_1_2[i]? = some w) (hg : g_gw w = true) : w ∈ g_W := w_of (List.mem_append_right _ (List.mem_append_left _ (List.mem_of_getElem? h))) hg
theorem w_c3 {w : Cond} (i : Nat) (h : tables_1_3[i]? = some w) (hg : g_gw w = true) : w ∈ g_W := w_of (List.mem_append_right _ (List.mem_append_right _ (List.mem_append_left _ (List.mem_of_getElem? h)))) hg
theorem w_c4 {w : Cond} (i : Nat) (h : tables_1_4[i]? = some w) (hg : g_gw w = true) : w ∈ g_W := w_of (List.mem_append_right _ (List.mem_append_right _ (List.mem_append_right _ (List.mem_append_left _ (List.mem_of_getElem? h))))) hg
theorem w_c5 {w : Cond} (i : Nat) (h : tables_1_5[i]? = some w) (hg : g_gw w = true) : w ∈ g_W := w_of (List.mem_append_right _ (List.mem_append_right _ (List.mem_append_right _ (List.mem_append_right _ (List.mem_of_getElem? h))))) hg
set_option maxRecDepth 20000 in
theorem i_I : ∀ w ∈ u_ws R_I F_I 2, w ∈ g_W := fun w h => w_of ((show ∀ w ∈ u_ws R_I F_I 2, w ∈ tables_1 by decide +kernel) w h) ((show ∀ w ∈ u_ws R_I F_I 2, g_gw w = true by decide +kernel) w h)
set_option maxRecDepth 20000 in
theorem i_L : ∀ w ∈ u_ws R_L F_L 2, w ∈ g_W := fun w h => w_of ((show ∀ w ∈ u_ws R_L F_L 2, w ∈ tables_1 by decide +kernel) w h) ((show ∀ w ∈ u_ws R_L F_L 2, g_gw w = true by decide +kernel) w h)
set_option maxRecDepth 20000 in
theorem i_B : ∀ w ∈ u_ws R_B F_B 5, w ∈ g_W := fun w h => w_of ((show ∀ w ∈ u_ws R_B F_B 5, w ∈ tables_1 by decide +kernel) w h) ((show ∀ w ∈ u_ws R_B F_B 5, g_gw w = true by decide +kernel) w h)
set_option maxRecDepth 20000 in
theorem i_V : ∀ w ∈ u_ws R_V F_V 1, w ∈ g_W := fun w h => w_of ((show ∀ w ∈ u_ws R_V F_V 1, w ∈ tables_1 by decide +kernel) w h) ((show ∀ w ∈ u_ws R_V F_V 1, g_gw w = true by decide +kernel) w h)
set_option maxRecDepth 20000 in
theorem i_M : ∀ w ∈ u_ws R_M F_M 5, w ∈ g_W := fun w h => w_of ((show ∀ w ∈ u_ws R_M F_M 5, w ∈ tables_1 by decide +kernel) w h) ((show ∀ w ∈ u_ws R_M F_M 5, g_gw w = true by decide +kernel) w h)
set_option maxRecDepth 20000 in
theorem i_K : ∀ w ∈ u_ws R_K F_K 9, w ∈ g_W := fun w h => w_of ((show ∀ w ∈ u_ws R_K F_K 9, w ∈ tables_1 by decide +kernel) w h) ((show ∀ w ∈ u_ws R_K F_K 9, g_gw w = true by decide +kernel) w h)
set_option maxRecDepth 20000 in
theorem i_Q : ∀ w ∈ u_ws R_Q F_Q 3, w ∈ g_W := fun w h => w_of ((show ∀ w ∈ u_ws R_Q F_Q 3, w ∈ tables_1 by decide +kernel) w h) ((show ∀ w ∈ u_ws R_Q F_Q 3, g_gw w = true by decide +kernel) w h)
set_option maxRecDepth 20000 in
theorem i_U : ∀ w ∈ u_ws R_U F_U 4, w ∈ g_W := fun w h => w_of ((show ∀ w ∈ u_ws R_U F_U 4, w ∈ tables_1 by decide +kernel) w h) ((show ∀ w ∈ u_ws R_U F_U 4, g_gw w = true by decide +kernel) w h)
set_option maxRecDepth 20000 in
theorem i_R : ∀ w ∈ u_ws R_R F_R 6, w ∈ g_W := fun w h => w_of ((show ∀ w ∈ u_ws R_R F_R 6, w ∈ tables_1 by decide +kernel) w h) ((show ∀ w ∈ u_ws R_R F_R 6, g_gw w = true by decide +kernel) w h)
set_option maxRecDepth 20000 in
theorem i_T : ∀ w ∈ u_ws R_T F_T 9, w ∈ g_W := fun w h => w_of ((show ∀ w ∈ u_ws R_T F_T 9, w ∈ tables_1 by decide +kernel) w h) ((show ∀ w ∈ u_ws R_T F_T 9, g_gw w = true by decide +kernel) w h)
set_option maxRecDepth 20000 in
theorem i_Z : ∀ w ∈ u_ws R_Z F_Z 40, w ∈ g_W := fun w h => w_of ((show ∀ w ∈ u_ws R_Z F_Z 40, w ∈ tables_1 by decide +kernel) w h) ((show ∀ w ∈ u_ws R_Z F_Z 40, g_gw w = true by decide +kernel) w h)
def y_T_init : MethodName := ⟨"TracePacks", "<init>", "()V"⟩
def y_I_init : MethodName := ⟨"TracePacks$Ints", "<init>", "(I)V"⟩
def y_I_add : MethodName := ⟨"TracePacks$Ints", "add", "(I)Z"⟩
def y_B_init : MethodName := ⟨"TracePacks$Block", "<init>", "()V"⟩
def y_Q_init : MethodName := ⟨"TracePacks$Packer", "<init>", "()V"⟩
def y_M_init : MethodName := ⟨"TracePacks$Memory", "<init>", "()V"⟩
def y_L_init : MethodName := ⟨"TracePacks$Places", "<init>", "()V"⟩
def y_V_init : MethodName := ⟨"TracePacks$LastValues", "<init>", "()V"⟩
def y_R_init : MethodName := ⟨"TracePacks$Reader", "<init>", "()V"⟩
def y_U_init : MethodName := ⟨"TracePacks$Unpacker", "<init>", "()V"⟩
def y_K_init : MethodName := ⟨"TracePacks$Kept", "<init>", "()V"⟩
def y_T_count : MethodName := ⟨"TracePacks", "count", "(I)I"⟩
def y_I_size : MethodName := ⟨"TracePacks$Ints", "size", "()I"⟩
def y_B_size : MethodName := ⟨"TracePacks$Block", "size", "()I"⟩
def y_R_passedOver : MethodName := ⟨"TracePacks$Reader", "passedOver", "()I"⟩
def y_R_blocks : MethodName := ⟨"TracePacks$Reader", "blocks", "()I"⟩
def y_R_broken : MethodName := ⟨"TracePacks$Reader", "broken", "()I"⟩
def y_R_rows : MethodName := ⟨"TracePacks$Reader", "rows", "()LTracePacks$Kept;"⟩
def y_K_size : MethodName := ⟨"TracePacks$Kept", "size", "()I"⟩
def y_R_notKept : MethodName := ⟨"TracePacks$Reader", "notKept", "()I"⟩
def y_W_thread : MethodName := ⟨"TracePacksLaw", "thread", "(LTracePacks;I[J)I"⟩
def y_T_thread : MethodName := ⟨"TracePacks", "thread", "(I)I"⟩
def y_W_row : MethodName := ⟨"TracePacksLaw", "row", "(LTracePacks;III[J)I"⟩
def y_T_row : MethodName := ⟨"TracePacks", "row", "(III)I"⟩
def y_T_isRow : MethodName := ⟨"TracePacks", "isRow", "(III)Z"⟩
def y_I_at : MethodName := ⟨"TracePacks$Ints", "at", "(I)I"⟩
def y_B_isClosedBy : MethodName := ⟨"TracePacks$Block", "isClosedBy", "(I)Z"⟩
def y_T_closeOpen : MethodName := ⟨"TracePacks", "closeOpen", "()Z"⟩
def y_Q_fill : MethodName := ⟨"TracePacks$Packer", "fill", "(LTracePacks$Block;)V"⟩
def y_I_shorten : MethodName := ⟨"TracePacks$Ints", "shorten", "(I)V"⟩
def y_B_time : MethodName := ⟨"TracePacks$Block", "time", "()I"⟩
def y_M_begin : MethodName := ⟨"TracePacks$Memory", "begin", "(I)V"⟩
def y_L_clear : MethodName := ⟨"TracePacks$Places", "clear", "()V"⟩
def y_V_clear : MethodName := ⟨"TracePacks$LastValues", "clear", "()V"⟩
def y_B_owner : MethodName := ⟨"TracePacks$Block", "owner", "()I"⟩
def y_Q_addWord : MethodName := ⟨"TracePacks$Packer", "addWord", "(I)V"⟩
def y_B_kind : MethodName := ⟨"TracePacks$Block", "kind", "(I)I"⟩
def y_Q_addBranches : MethodName := ⟨"TracePacks$Packer", "addBranches", "()V"⟩
def y_Q_addKind : MethodName := ⟨"TracePacks$Packer", "addKind", "(II)V"⟩
def y_B_a : MethodName := ⟨"TracePacks$Block", "a", "(I)I"⟩
def y_B_b : MethodName := ⟨"TracePacks$Block", "b", "(I)I"⟩
def y_Q_addRow : MethodName := ⟨"TracePacks$Packer", "addRow", "(III)V"⟩
def y_T_numberOf : MethodName := ⟨"TracePacks", "numberOf", "(I)J"⟩
def y_Q_addNumber : MethodName := ⟨"TracePacks$Packer", "addNumber", "(J)V"⟩
def y_Q_addLoad : MethodName := ⟨"TracePacks$Packer", "addLoad", "(I)V"⟩
def y_L_expected : MethodName := ⟨"TracePacks$Places", "expected", "()I"⟩
def y_L_differenceTo : MethodName := ⟨"TracePacks$Places", "differenceTo", "(I)I"⟩
def y_L_goTo : MethodName := ⟨"TracePacks$Places", "goTo", "(I)V"⟩
def y_Q_addStore : MethodName := ⟨"TracePacks$Packer", "addStore", "(II)V"⟩
def y_V_numberOfValue : MethodName := ⟨"TracePacks$LastValues", "numberOfValue", "(I)I"⟩
def y_V_use : MethodName := ⟨"TracePacks$LastValues", "use", "(I)V"⟩
def y_I_set : MethodName := ⟨"TracePacks$Ints", "set", "(II)V"⟩
def y_T_sumOf : MethodName := ⟨"TracePacks", "sumOf", "(LTracePacks$Ints;I)I"⟩
def y_Q_moveBehind : MethodName := ⟨"TracePacks$Packer", "moveBehind", "(LTracePacks$Ints;)Z"⟩
def y_Q_lengthShielded : MethodName := ⟨"TracePacks$Packer", "lengthShielded", "()I"⟩
def y_Q_isShielded : MethodName := ⟨"TracePacks$Packer", "isShielded", "(I)Z"⟩
def y_B_clear : MethodName := ⟨"TracePacks$Block", "clear", "()V"⟩
def y_B_begin : MethodName := ⟨"TracePacks$Block", "begin", "(II)V"⟩
def y_B_add : MethodName := ⟨"TracePacks$Block", "add", "(III)Z"⟩
def y_W_mark : MethodName := ⟨"TracePacksLaw", "mark", "(LTracePacks;[J)I"⟩
def y_T_mark : MethodName := ⟨"TracePacks", "mark", "()I"⟩
def y_W_byteAt : MethodName := ⟨"TracePacksLaw", "byteAt", "(LTracePacks;I[J)I"⟩
def y_T_byteAt : MethodName := ⟨"TracePacks", "byteAt", "(I)I"⟩
def y_I_has : MethodName := ⟨"TracePacks$Ints", "has", "(I)Z"⟩
def y_W_flip : MethodName := ⟨"TracePacksLaw", "flip", "(LTracePacks;II[J)I"⟩
def y_T_flip : MethodName := ⟨"TracePacks", "flip", "(II)I"⟩
def y_W_put : MethodName := ⟨"TracePacksLaw", "put", "(LTracePacks;I[J)I"⟩
def y_T_put : MethodName := ⟨"TracePacks", "put", "(I)I"⟩
def y_W_cut : MethodName := ⟨"TracePacksLaw", "cut", "(LTracePacks;I[J)I"⟩
def y_T_cut : MethodName := ⟨"TracePacks", "cut", "(I)I"⟩
def y_W_choose : MethodName := ⟨"TracePacksLaw", "choose", "(LTracePacks;II[J)I"⟩
def y_T_choose : MethodName := ⟨"TracePacks", "choose", "(II)I"⟩
def y_W_read : MethodName := ⟨"TracePacksLaw", "read", "(LTracePacks;I[J)I"⟩
def y_T_read : MethodName := ⟨"TracePacks", "read", "(I)I"⟩
def y_R_readFrom : MethodName := ⟨"TracePacks$Reader", "readFrom", "(LTracePacks$Ints;II)V"⟩
def y_R_clear : MethodName := ⟨"TracePacks$Reader", "clear", "()V"⟩
def y_K_clear : MethodName := ⟨"TracePacks$Kept", "clear", "()V"⟩
def y_R_firstMark : MethodName := ⟨"TracePacks$Reader", "firstMark", "(LTracePacks$Ints;I)I"⟩
def y_U_unpack : MethodName := ⟨"TracePacks$Unpacker", "unpack", "(LTracePacks$Ints;II)Z"⟩
def y_U_unshield : MethodName := ⟨"TracePacks$Unpacker", "unshield", "(LTracePacks$Ints;II)Z"⟩
def y_U_unshielded : MethodName := ⟨"TracePacks$Unpacker", "unshielded", "(I)I"⟩
def y_U_takeSum : MethodName := ⟨"TracePacks$Unpacker", "takeSum", "()Z"⟩
def y_U_takeHead : MethodName := ⟨"TracePacks$Unpacker", "takeHead", "()Z"⟩
def y_U_takeWord : MethodName := ⟨"TracePacks$Unpacker", "takeWord", "()J"⟩
def y_U_takeRow : MethodName := ⟨"TracePacks$Unpacker", "takeRow", "()Z"⟩
def y_U_isNumberBehind : MethodName := ⟨"TracePacks$Unpacker", "isNumberBehind", "(II)Z"⟩
def y_U_takeNumber : MethodName := ⟨"TracePacks$Unpacker", "takeNumber", "()J"⟩
def y_U_isLastOfNumber : MethodName := ⟨"TracePacks$Unpacker", "isLastOfNumber", "(II)Z"⟩
def y_U_takeBranches : MethodName := ⟨"TracePacks$Unpacker", "takeBranches", "(I)Z"⟩
def y_U_takeJump : MethodName := ⟨"TracePacks$Unpacker", "takeJump", "(J)Z"⟩
def y_T_differenceOf : MethodName := ⟨"TracePacks", "differenceOf", "(J)I"⟩
def y_U_takeLoad : MethodName := ⟨"TracePacks$Unpacker", "takeLoad", "(IJ)Z"⟩
def y_L_after : MethodName := ⟨"TracePacks$Places", "after", "(I)I"⟩
def y_L_last : MethodName := ⟨"TracePacks$Places", "last", "()I"⟩
def y_U_takeStore : MethodName := ⟨"TracePacks$Unpacker", "takeStore", "(IJ)Z"⟩
def y_V_at : MethodName := ⟨"TracePacks$LastValues", "at", "(I)I"⟩
def y_V_has : MethodName := ⟨"TracePacks$LastValues", "has", "(I)Z"⟩
def y_U_takeTime : MethodName := ⟨"TracePacks$Unpacker", "takeTime", "(J)Z"⟩
def y_U_block : MethodName := ⟨"TracePacks$Unpacker", "block", "()LTracePacks$Block;"⟩
def y_R_keepRows : MethodName := ⟨"TracePacks$Reader", "keepRows", "(LTracePacks$Block;I)V"⟩
def y_R_isChosen : MethodName := ⟨"TracePacks$Reader", "isChosen", "(III)Z"⟩
def y_K_add : MethodName := ⟨"TracePacks$Kept", "add", "(LTracePacks$Block;III)Z"⟩
def y_W_kept : MethodName := ⟨"TracePacksLaw", "kept", "(LTracePacks;II[J)I"⟩
def y_T_kept : MethodName := ⟨"TracePacks", "kept", "(II)I"⟩
def y_K_has : MethodName := ⟨"TracePacks$Kept", "has", "(II)Z"⟩
def y_K_at : MethodName := ⟨"TracePacks$Kept", "at", "(II)I"⟩
def y_W_merged : MethodName := ⟨"TracePacksLaw", "merged", "(LTracePacks;I[J)I"⟩
def y_T_merged : MethodName := ⟨"TracePacks", "merged", "(I)I"⟩
def y_K_byTime : MethodName := ⟨"TracePacks$Kept", "byTime", "(I)I"⟩
def y_K_putInOrder : MethodName := ⟨"TracePacks$Kept", "putInOrder", "()V"⟩
def y_K_joinRuns : MethodName := ⟨"TracePacks$Kept", "joinRuns", "(III)V"⟩
def y_K_goesBefore : MethodName := ⟨"TracePacks$Kept", "goesBefore", "(II)Z"⟩
def y_Z_init : MethodName := ⟨"TracePacksModel", "<init>", "()V"⟩
def y_Z_thrown : MethodName := ⟨"TracePacksModel", "thrown", "()I"⟩
def y_Z_thread : MethodName := ⟨"TracePacksModel", "thread", "(I)I"⟩
def y_Z_within : MethodName := ⟨"TracePacksModel", "within", "(JJJ)Z"⟩
def y_Z_fail : MethodName := ⟨"TracePacksModel", "fail", "(I)I"⟩
def y_Z_row : MethodName := ⟨"TracePacksModel", "row", "(III)I"⟩
def y_Z_close : MethodName := ⟨"TracePacksModel", "close", "()Z"⟩
def y_Z_makeInside : MethodName := ⟨"TracePacksModel", "makeInside", "()V"⟩
def y_Z_say : MethodName := ⟨"TracePacksModel", "say", "(I)V"⟩
def y_Z_sayFour : MethodName := ⟨"TracePacksModel", "sayFour", "(I)V"⟩
def y_Z_sayRows : MethodName := ⟨"TracePacksModel", "sayRows", "()V"⟩
def y_Z_sayDifference : MethodName := ⟨"TracePacksModel", "sayDifference", "(I)V"⟩
def y_Z_sayNumber : MethodName := ⟨"TracePacksModel", "sayNumber", "(J)V"⟩
def y_Z_putValue : MethodName := ⟨"TracePacksModel", "putValue", "(I)I"⟩
def y_Z_sumUp : MethodName := ⟨"TracePacksModel", "sumUp", "(I)V"⟩
def y_Z_isShielded : MethodName := ⟨"TracePacksModel", "isShielded", "(I)Z"⟩
def y_Z_putByte : MethodName := ⟨"TracePacksModel", "putByte", "(I)V"⟩
def y_Z_mark : MethodName := ⟨"TracePacksModel", "mark", "()I"⟩
def y_Z_byteAt : MethodName := ⟨"TracePacksModel", "byteAt", "(I)I"⟩
def y_Z_flip : MethodName := ⟨"TracePacksModel", "flip", "(II)I"⟩
def y_Z_put : MethodName := ⟨"TracePacksModel", "put", "(I)I"⟩
def y_Z_cut : MethodName := ⟨"TracePacksModel", "cut", "(I)I"⟩
def y_Z_choose : MethodName := ⟨"TracePacksModel", "choose", "(II)I"⟩
def y_Z_read : MethodName := ⟨"TracePacksModel", "read", "(I)I"⟩
def y_Z_block : MethodName := ⟨"TracePacksModel", "block", "(II)V"⟩
def y_Z_unshield : MethodName := ⟨"TracePacksModel", "unshield", "(II)Z"⟩
def y_Z_next : MethodName := ⟨"TracePacksModel", "next", "()I"⟩
def y_Z_nextFour : MethodName := ⟨"TracePacksModel", "nextFour", "()I"⟩
def y_Z_getRows : MethodName := ⟨"TracePacksModel", "getRows", "(I)V"⟩
def y_Z_get : MethodName := ⟨"TracePacksModel", "get", "(IIII)V"⟩
def y_Z_nextDifference : MethodName := ⟨"TracePacksModel", "nextDifference", "()I"⟩
def y_Z_nextNumber : MethodName := ⟨"TracePacksModel", "nextNumber", "()J"⟩
def y_Z_keep : MethodName := ⟨"TracePacksModel", "keep", "(II)V"⟩
def y_Z_kept : MethodName := ⟨"TracePacksModel", "kept", "(II)I"⟩
def y_Z_merged : MethodName := ⟨"TracePacksModel", "merged", "(I)I"⟩
def y_Z_isBefore : MethodName := ⟨"TracePacksModel", "isBefore", "(II)Z"⟩
def y_Z_count : MethodName := ⟨"TracePacksModel", "count", "(I)I"⟩
set_option maxRecDepth 100000 in
theorem w_1_0 : (Cond.initialized "TracePacksLaw") ∈ g_W := w_c1 0 rfl rfl
set_option maxRecDepth 100000 in
theorem w_1_1 : (Cond.initialized "TracePacks") ∈ g_W := w_c1 1 rfl rfl
set_option maxRecDepth 100000 in
theorem w_1_2 : (Cond.initialized "TracePacks$Ints") ∈ g_W := w_c1 2 rfl rfl
set_option maxRecDepth 100000 in
theorem w_1_3 : (Cond.initialized "java/lang/Math") ∈ g_W := w_c1 3 rfl rfl
set_option maxRecDepth 100000 in
theorem w_1_4 : (Cond.initialized "TracePacks$Block") ∈ g_W := w_c1 4 rfl rfl
set_option maxRecDepth 100000 in
theorem w_1_5 : (Cond.initialized "TracePacks$Packer") ∈ g_W := w_c1 5 rfl rfl
set_option maxRecDepth 100000 in
theorem w_1_6 : (Cond.initialized "TracePacks$Memory") ∈ g_W := w_c1 6 rfl rfl
set_option maxRecDepth 100000 in
theorem w_1_7 : (Cond.initialized "TracePacks$Places") ∈ g_W := w_c1 7 rfl rfl
set_option maxRecDepth 100000 in
theorem w_1_8 : (Cond.initialized "TracePacks$LastValues") ∈ g_W := w_c1 8 rfl rfl
set_option maxRecDepth 100000 in
theorem w_1_9 : (Cond.initialized "TracePacks$Reader") ∈ g_W := w_c1 9 rfl rfl
set_option maxRecDepth 100000 in
theorem w_1_10 : (Cond.initialized "TracePacks$Unpacker") ∈ g_W := w_c1 10 rfl rfl
set_option maxRecDepth 100000 in
theorem w_1_11 : (Cond.initialized "TracePacks$Kept") ∈ g_W := w_c1 11 rfl rfl
set_option maxRecDepth 100000 in
theorem w_1_12 : (Cond.initialized "TracePacksModel") ∈ g_W := w_c1 12 rfl rfl
set_option maxRecDepth 100000 in
theorem w_1_13 : (Cond.initialized "java/lang/Throwable") ∈ g_W := w_c1 13 rfl rfl
set_option maxRecDepth 100000 in
theorem w_1_14 : (Cond.initialized "java/lang/Exception") ∈ g_W := w_c1 14 rfl rfl
set_option maxRecDepth 100000 in
theorem w_1_15 : (Cond.initialized "java/lang/RuntimeException") ∈ g_W := w_c1 15 rfl rfl
set_option maxRecDepth 100000 in
theorem w_1_16 : (Cond.initialized "java/lang/IndexOutOfBoundsException") ∈ g_W := w_c1 16 rfl rfl
set_option maxRecDepth 100000 in
theorem w_1_17 : (Cond.initialized "java/lang/IllegalArgumentException") ∈ g_W := w_c1 17 rfl rfl
set_option maxRecDepth 100000 in
theorem w_1_18 : (Cond.initialized "java/lang/IllegalStateException") ∈ g_W := w_c1 18 rfl rfl
set_option maxRecDepth 100000 in
theorem w_1_19 : (Cond.classLink "TracePacksLaw" (8 : Nat) "TracePacks") ∈ g_W := w_c1 19 rfl rfl
set_option maxRecDepth 100000 in
theorem w_1_20 : (Cond.instantiable "TracePacks" (9 : Nat)) ∈ g_W := w_c1 20 rfl rfl
set_option maxRecDepth 100000 in
theorem w_1_21 : (Cond.methodLink "TracePacksLaw" (52 : Nat) ({ cls := "TracePacks", name := "<init>", desc := "()V" } : MethodName)) ∈ g_W := w_c1 21 rfl rfl
set_option maxRecDepth 100000 in
theorem w_1_22 : (Cond.instanceMethod ({ cls := "TracePacks", name := "<init>", desc := "()V" } : MethodName)) ∈ g_W := w_c1 22 rfl rfl
set_option maxRecDepth 100000 in
theorem w_1_23 : (Cond.code ({ cls := "TracePacks", name := "<init>", desc := "()V" } : MethodName) prog_1_method_1_code (2 : Nat) (Option.none : Option FieldType)) ∈ g_W := w_c1 23 rfl rfl
set_option maxRecDepth 100000 in
theorem w_1_24 : (Cond.methodLink "TracePacks" (3 : Nat) ({ cls := "java/lang/Object", name := "<init>", desc := "()V" } : MethodName)) ∈ g_W := w_c1 24 rfl rfl
set_option maxRecDepth 100000 in
theorem w_1_25 : (Cond.instanceMethod ({ cls := "java/lang/Object", name := "<init>", desc := "()V" } : MethodName)) ∈ g_W := w_c1 25 rfl rfl
set_option maxRecDepth 100000 in
theorem w_1_26 : (Cond.code ({ cls := "java/lang/Object", name := "<init>", desc := "()V" } : MethodName) object_method_1_code (1 : Nat) (Option.none : Option FieldType)) ∈ g_W := w_c1 26 rfl rfl
set_option maxRecDepth 100000 in
theorem w_1_27 : (Cond.classLink "TracePacks" (9 : Nat) "TracePacks$Ints") ∈ g_W := w_c1 27 rfl rfl
set_option maxRecDepth 100000 in
theorem w_1_28 : (Cond.instantiable "TracePacks$Ints" (2 : Nat)) ∈ g_W := w_c1 28 rfl rfl
set_option maxRecDepth 100000 in
theorem w_1_29 : (Cond.methodLink "TracePacks" (11 : Nat) ({ cls := "TracePacks$Ints", name := "<init>", desc := "(I)V" } : MethodName)) ∈ g_W := w_c1 29 rfl rfl
set_option maxRecDepth 100000 in
theorem w_1_30 : (Cond.instanceMethod ({ cls := "TracePacks$Ints", name := "<init>", desc := "(I)V" } : MethodName)) ∈ g_W := w_c1 30 rfl rfl
set_option maxRecDepth 100000 in
theorem w_1_31 : (Cond.code ({ cls := "TracePacks$Ints", name := "<init>", desc := "(I)V" } : MethodName) prog_3_method_1_code (2 : Nat) (Option.none : Option FieldType)) ∈ g_W := w_c1 31 rfl rfl
set_option maxRecDepth 100000 in
theorem w_1_32 : (Cond.methodLink "TracePacks$Ints" (3 : Nat) ({ cls := "java/lang/Object", name := "<init>", desc := "()V" } : MethodName)) ∈ g_W := w_c1 32 rfl rfl
set_option maxRecDepth 100000 in
theorem w_1_33 : (Cond.methodLink "TracePacks$Ints" (9 : Nat) ({ cls := "java/lang/Math", name := "max", desc := "(II)I" } : MethodName)) ∈ g_W := w_c1 33 rfl rfl
set_option maxRecDepth 100000 in
theorem w_1_34 : (Cond.static ({ cls := "java/lang/Math", name := "max", desc := "(II)I" } : MethodName)) ∈ g_W := w_c1 34 rfl rfl
set_option maxRecDepth 100000 in
theorem w_1_35 : (Cond.code ({ cls := "java/lang/Math", name := "max", desc := "(II)I" } : MethodName) prog_17_method_65_code (2 : Nat) (Option.some FieldType.int)) ∈ g_W := w_c1 35 rfl rfl
set_option maxRecDepth 100000 in
theorem w_1_36 : (Cond.fieldLink "TracePacks$Ints" (15 : Nat) "TracePacks$Ints" "cells" "[I") ∈ g_W := w_c1 36 rfl rfl
set_option maxRecDepth 100000 in
theorem w_1_37 : (Cond.fieldLink "TracePacks$Ints" (21 : Nat) "TracePacks$Ints" "size" "I") ∈ g_W := w_c1 37 rfl rfl
set_option maxRecDepth 100000 in
theorem w_1_43 : (Cond.arrayClass FieldType.int) ∈ g_W := w_c1 43 rfl rfl
set_option maxRecDepth 100000 in
theorem w_1_44 : (Cond.methodLink "TracePacks" (21 : Nat) ({ cls := "TracePacks$Ints", name := "add", desc := "(I)Z" } : MethodName)) ∈ g_W := w_c1 44 rfl rfl
set_option maxRecDepth 100000 in
theorem w_1_45 : (Cond.instanceMethod ({ cls := "TracePacks$Ints", name := "add", desc := "(I)Z" } : MethodName)) ∈ g_W := w_c1 45 rfl rfl
set_option maxRecDepth 100000 in
theorem w_1_46 : (Cond.selects "TracePacks$Ints" ({ cls := "TracePacks$Ints", name := "add", desc := "(I)Z" } : MethodName) ({ cls := "TracePacks$Ints", name := "add", desc := "(I)Z" } : MethodName)) ∈ g_W := w_c1 46 rfl rfl
set_option maxRecDepth 100000 in
theorem w_1_47 : (Cond.code ({ cls := "TracePacks$Ints", name := "add", desc := "(I)Z" } : MethodName) prog_3_method_6_code (2 : Nat) (Option.some FieldType.boolean)) ∈ g_W := w_c1 47 rfl rfl
set_option maxRecDepth 100000 in
theorem w_1_48 : (Cond.classLink "TracePacks" (25 : Nat) "TracePacks$Block") ∈ g_W := w_c1 48 rfl rfl
set_option maxRecDepth 100000 in
theorem w_1_49 : (Cond.instantiable "TracePacks$Block" (5 : Nat)) ∈ g_W := w_c1 49 rfl rfl
set_option maxRecDepth 100000 in
theorem w_1_50 : (Cond.methodLinkNest "TracePacks" (27 : Nat) ({ cls := "TracePacks$Block", name := "<init>", desc := "()V" } : MethodName) "TracePacks") ∈ g_W := w_c1 50 rfl rfl
set_option maxRecDepth 100000 in
theorem w_1_51 : (Cond.instanceMethod ({ cls := "TracePacks$Block", name := "<init>", desc := "()V" } : MethodName)) ∈ g_W := w_c1 51 rfl rfl
set_option maxRecDepth 100000 in
theorem w_1_52 : (Cond.code ({ cls := "TracePacks$Block", name := "<init>", desc := "()V" } : MethodName) prog_2_method_1_code (1 : Nat) (Option.none : Option FieldType)) ∈ g_W := w_c1 52 rfl rfl
set_option maxRecDepth 100000 in
theorem w_1_53 : (Cond.methodLink "TracePacks$Block" (3 : Nat) ({ cls := "java/lang/Object", name := "<init>", desc := "()V" } : MethodName)) ∈ g_W := w_c1 53 rfl rfl
set_option maxRecDepth 100000 in
theorem w_1_54 : (Cond.classLink "TracePacks$Block" (9 : Nat) "TracePacks$Ints") ∈ g_W := w_c1 54 rfl rfl
set_option maxRecDepth 100000 in
theorem w_1_55 : (Cond.methodLink "TracePacks$Block" (11 : Nat) ({ cls := "TracePacks$Ints", name := "<init>", desc := "(I)V" } : MethodName)) ∈ g_W := w_c1 55 rfl rfl
set_option maxRecDepth 100000 in
theorem w_1_56 : (Cond.fieldLink "TracePacks$Block" (14 : Nat) "TracePacks$Block" "kinds" "LTracePacks$Ints;") ∈ g_W := w_c1 56 rfl rfl
set_option maxRecDepth 100000 in
theorem w_1_57 : (Cond.fieldLink "TracePacks$Block" (20 : Nat) "TracePacks$Block" "as" "LTracePacks$Ints;") ∈ g_W := w_c1 57 rfl rfl
set_option maxRecDepth 100000 in
theorem w_1_58 : (Cond.fieldLink "TracePacks$Block" (23 : Nat) "TracePacks$Block" "bs" "LTracePacks$Ints;") ∈ g_W := w_c1 58 rfl rfl
set_option maxRecDepth 100000 in
theorem w_1_59 : (Cond.fieldLink "TracePacks$Block" (29 : Nat) "TracePacks$Block" "owner" "I") ∈ g_W := w_c1 59 rfl rfl
set_option maxRecDepth 100000 in
theorem w_1_60 : (Cond.fieldLink "TracePacks$Block" (33 : Nat) "TracePacks$Block" "time" "I") ∈ g_W := w_c1 60 rfl rfl
set_option maxRecDepth 100000 in
theorem w_1_72 : (Cond.classLink "TracePacks" (32 : Nat) "TracePacks$Packer") ∈ g_W := w_c1 72 rfl rfl
set_option maxRecDepth 100000 in
theorem w_1_73 : (Cond.instantiable "TracePacks$Packer" (3 : Nat)) ∈ g_W := w_c1 73 rfl rfl
set_option maxRecDepth 100000 in
theorem w_1_74 : (Cond.methodLinkNest "TracePacks" (34 : Nat) ({ cls := "TracePacks$Packer", name := "<init>", desc := "()V" } : MethodName) "TracePacks") ∈ g_W := w_c1 74 rfl rfl
set_option maxRecDepth 100000 in
theorem w_1_75 : (Cond.instanceMethod ({ cls := "TracePacks$Packer", name := "<init>", desc := "()V" } : MethodName)) ∈ g_W := w_c1 75 rfl rfl
set_option maxRecDepth 100000 in
theorem w_1_76 : (Cond.code ({ cls := "TracePacks$Packer", name := "<init>", desc := "()V" } : MethodName) prog_7_method_1_code (1 : Nat) (Option.none : Option FieldType)) ∈ g_W := w_c1 76 rfl rfl
set_option maxRecDepth 100000 in
theorem w_1_77 : (Cond.methodLink "TracePacks$Packer" (3 : Nat) ({ cls := "java/lang/Object", name := "<init>", desc := "()V" } : MethodName)) ∈ g_W := w_c1 77 rfl rfl
set_option maxRecDepth 100000 in
theorem w_1_78 : (Cond.classLink "TracePacks$Packer" (9 : Nat) "TracePacks$Ints") ∈ g_W := w_c1 78 rfl rfl
set_option maxRecDepth 100000 in
theorem w_1_79 : (Cond.methodLink "TracePacks$Packer" (11 : Nat) ({ cls := "TracePacks$Ints", name := "<init>", desc := "(I)V" } : MethodName)) ∈ g_W := w_c1 79 rfl rfl
set_option maxRecDepth 100000 in
theorem w_1_80 : (Cond.classLink "TracePacks$Packer" (20 : Nat) "TracePacks$Memory") ∈ g_W := w_c1 80 rfl rfl
set_option maxRecDepth 100000 in
theorem w_1_81 : (Cond.instantiable "TracePacks$Memory" (5 : Nat)) ∈ g_W := w_c1 81 rfl rfl
set_option maxRecDepth 100000 in
theorem w_1_82 : (Cond.methodLinkNest "TracePacks$Packer" (22 : Nat) ({ cls := "TracePacks$Memory", name := "<init>", desc := "()V" } : MethodName) "TracePacks") ∈ g_W := w_c1 82 rfl rfl
set_option maxRecDepth 100000 in
theorem w_1_83 : (Cond.instanceMethod ({ cls := "TracePacks$Memory", name := "<init>", desc := "()V" } : MethodName)) ∈ g_W := w_c1 83 rfl rfl
set_option maxRecDepth 100000 in
theorem w_1_84 : (Cond.code ({ cls := "TracePacks$Memory", name := "<init>", desc := "()V" } : MethodName) prog_6_method_1_code (1 : Nat) (Option.none : Option FieldType)) ∈ g_W := w_c1 84 rfl rfl
set_option maxRecDepth 100000 in
theorem w_1_85 : (Cond.methodLink "TracePacks$Memory" (1 : Nat) ({ cls := "java/lang/Object", name := "<init>", desc := "()V" } : MethodName)) ∈ g_W := w_c1 85 rfl rfl
set_option maxRecDepth 100000 in
theorem w_1_86 : (Cond.classLink "TracePacks$Memory" (7 : Nat) "TracePacks$Places") ∈ g_W := w_c1 86 rfl rfl
set_option maxRecDepth 100000 in
theorem w_1_87 : (Cond.instantiable "TracePacks$Places" (2 : Nat)) ∈ g_W := w_c1 87 rfl rfl
set_option maxRecDepth 100000 in
theorem w_1_88 : (Cond.methodLinkNest "TracePacks$Memory" (9 : Nat) ({ cls := "TracePacks$Places", name := "<init>", desc := "()V" } : MethodName) "TracePacks") ∈ g_W := w_c1 88 rfl rfl
set_option maxRecDepth 100000 in
theorem w_1_89 : (Cond.instanceMethod ({ cls := "TracePacks$Places", name := "<init>", desc := "()V" } : MethodName)) ∈ g_W := w_c1 89 rfl rfl
set_option maxRecDepth 100000 in
theorem w_1_90 : (Cond.code ({ cls := "TracePacks$Places", name := "<init>", desc := "()V" } : MethodName) prog_8_method_1_code (1 : Nat) (Option.none : Option FieldType)) ∈ g_W := w_c1 90 rfl rfl
set_option maxRecDepth 100000 in
theorem w_1_91 : (Cond.methodLink "TracePacks$Places" (1 : Nat) ({ cls := "java/lang/Object", name := "<init>", desc := "()V" } : MethodName)) ∈ g_W := w_c1 91 rfl rfl
set_option maxRecDepth 100000 in
theorem w_1_92 : (Cond.fieldLink "TracePacks$Places" (7 : Nat) "TracePacks$Places" "place" "I") ∈ g_W := w_c1 92 rfl rfl
set_option maxRecDepth 100000 in
theorem w_1_93 : (Cond.fieldLink "TracePacks$Places" (13 : Nat) "TracePacks$Places" "stride" "I") ∈ g_W := w_c1 93 rfl rfl
set_option maxRecDepth 100000 in
theorem w_1_99 : (Cond.classLink "TracePacks$Memory" (19 : Nat) "TracePacks$LastValues") ∈ g_W := w_c1 99 rfl rfl
set_option maxRecDepth 100000 in
theorem w_1_100 : (Cond.instantiable "TracePacks$LastValues" (1 : Nat)) ∈ g_W := w_c1 100 rfl rfl
set_option maxRecDepth 100000 in
theorem w_1_101 : (Cond.methodLinkNest "TracePacks$Memory" (21 : Nat) ({ cls := "TracePacks$LastValues", name := "<init>", desc := "()V" } : MethodName) "TracePacks") ∈ g_W := w_c1 101 rfl rfl
set_option maxRecDepth 100000 in
theorem w_1_102 : (Cond.instanceMethod ({ cls := "TracePacks$LastValues", name := "<init>", desc := "()V" } : MethodName)) ∈ g_W := w_c1 102 rfl rfl
set_option maxRecDepth 100000 in
theorem w_1_103 : (Cond.code ({ cls := "TracePacks$LastValues", name := "<init>", desc := "()V" } : MethodName) prog_5_method_1_code (1 : Nat) (Option.none : Option FieldType)) ∈ g_W := w_c1 103 rfl rfl
set_option maxRecDepth 100000 in
theorem w_1_104 : (Cond.methodLink "TracePacks$LastValues" (3 : Nat) ({ cls := "java/lang/Object", name := "<init>", desc := "()V" } : MethodName)) ∈ g_W := w_c1 104 rfl rfl
set_option maxRecDepth 100000 in
theorem w_1_105 : (Cond.classLink "TracePacks$LastValues" (9 : Nat) "TracePacks$Ints") ∈ g_W := w_c1 105 rfl rfl
set_option maxRecDepth 100000 in
theorem w_1_106 : (Cond.methodLink "TracePacks$LastValues" (11 : Nat) ({ cls := "TracePacks$Ints", name := "<init>", desc := "(I)V" } : MethodName)) ∈ g_W := w_c1 106 rfl rfl
set_option maxRecDepth 100000 in
theorem w_1_107 : (Cond.fieldLink "TracePacks$LastValues" (14 : Nat) "TracePacks$LastValues" "values" "LTracePacks$Ints;") ∈ g_W := w_c1 107 rfl rfl
set_option maxRecDepth 100000 in
theorem w_1_111 : (Cond.fieldLink "TracePacks$Memory" (10 : Nat) "TracePacks$Memory" "loads" "LTracePacks$Places;") ∈ g_W := w_c1 111 rfl rfl
set_option maxRecDepth 100000 in
theorem w_1_112 : (Cond.fieldLinkNest "TracePacks$Packer" (110 : Nat) "TracePacks$Memory" "loads" "LTracePacks$Places;" "TracePacks") ∈ g_W := w_c1 112 rfl rfl
set_option maxRecDepth 100000 in
theorem w_1_113 : (Cond.fieldLinkNest "TracePacks$Unpacker" (126 : Nat) "TracePacks$Memory" "loads" "LTracePacks$Places;" "TracePacks") ∈ g_W := w_c1 113 rfl rfl
set_option maxRecDepth 100000 in
theorem w_1_114 : (Cond.fieldLink "TracePacks$Memory" (16 : Nat) "TracePacks$Memory" "stores" "LTracePacks$Places;") ∈ g_W := w_c1 114 rfl rfl
set_option maxRecDepth 100000 in
theorem w_1_115 : (Cond.fieldLinkNest "TracePacks$Packer" (125 : Nat) "TracePacks$Memory" "stores" "LTracePacks$Places;" "TracePacks") ∈ g_W := w_c1 115 rfl rfl
set_option maxRecDepth 100000 in
theorem w_1_116 : (Cond.fieldLinkNest "TracePacks$Unpacker" (152 : Nat) "TracePacks$Memory" "stores" "LTracePacks$Places;" "TracePacks") ∈ g_W := w_c1 116 rfl rfl
set_option maxRecDepth 100000 in
theorem w_1_117 : (Cond.fieldLink "TracePacks$Memory" (22 : Nat) "TracePacks$Memory" "values" "LTracePacks$LastValues;") ∈ g_W := w_c1 117 rfl rfl
set_option maxRecDepth 100000 in
theorem w_1_118 : (Cond.fieldLinkNest "TracePacks$Packer" (128 : Nat) "TracePacks$Memory" "values" "LTracePacks$LastValues;" "TracePacks") ∈ g_W := w_c1 118 rfl rfl
set_option maxRecDepth 100000 in
theorem w_1_119 : (Cond.fieldLinkNest "TracePacks$Unpacker" (144 : Nat) "TracePacks$Memory" "values" "LTracePacks$LastValues;" "TracePacks") ∈ g_W := w_c1 119 rfl rfl
set_option maxRecDepth 100000 in
theorem w_1_120 : (Cond.fieldLink "TracePacks$Memory" (30 : Nat) "TracePacks$Memory" "jump" "I") ∈ g_W := w_c1 120 rfl rfl
set_option maxRecDepth 100000 in
theorem w_1_121 : (Cond.fieldLinkNest "TracePacks$Packer" (91 : Nat) "TracePacks$Memory" "jump" "I" "TracePacks") ∈ g_W := w_c1 121 rfl rfl
set_option maxRecDepth 100000 in
theorem w_1_122 : (Cond.fieldLinkNest "TracePacks$Unpacker" (119 : Nat) "TracePacks$Memory" "jump" "I" "TracePacks") ∈ g_W := w_c1 122 rfl rfl
set_option maxRecDepth 100000 in
theorem w_1_123 : (Cond.fieldLink "TracePacks$Memory" (34 : Nat) "TracePacks$Memory" "time" "I") ∈ g_W := w_c1 123 rfl rfl
set_option maxRecDepth 100000 in
theorem w_1_124 : (Cond.fieldLinkNest "TracePacks$Packer" (108 : Nat) "TracePacks$Memory" "time" "I" "TracePacks") ∈ g_W := w_c1 124 rfl rfl
set_option maxRecDepth 100000 in
theorem w_1_125 : (Cond.fieldLinkNest "TracePacks$Unpacker" (159 : Nat) "TracePacks$Memory" "time" "I" "TracePacks") ∈ g_W := w_c1 125 rfl rfl
set_option maxRecDepth 100000 in
theorem w_1_137 : (Cond.fieldLink "TracePacks$Packer" (14 : Nat) "TracePacks$Packer" "inside" "LTracePacks$Ints;") ∈ g_W := w_c1 137 rfl rfl
set_option maxRecDepth 100000 in
theorem w_1_138 : (Cond.fieldLink "TracePacks$Packer" (23 : Nat) "TracePacks$Packer" "memory" "LTracePacks$Memory;") ∈ g_W := w_c1 138 rfl rfl
set_option maxRecDepth 100000 in
theorem w_1_139 : (Cond.fieldLink "TracePacks$Packer" (27 : Nat) "TracePacks$Packer" "outcomes" "I") ∈ g_W := w_c1 139 rfl rfl
set_option maxRecDepth 100000 in
theorem w_1_147 : (Cond.classLink "TracePacks" (39 : Nat) "TracePacks$Reader") ∈ g_W := w_c1 147 rfl rfl
set_option maxRecDepth 100000 in
theorem w_1_148 : (Cond.instantiable "TracePacks$Reader" (6 : Nat)) ∈ g_W := w_c1 148 rfl rfl
set_option maxRecDepth 100000 in
theorem w_1_149 : (Cond.methodLinkNest "TracePacks" (41 : Nat) ({ cls := "TracePacks$Reader", name := "<init>", desc := "()V" } : MethodName) "TracePacks") ∈ g_W := w_c1 149 rfl rfl
set_option maxRecDepth 100000 in
theorem w_1_150 : (Cond.instanceMethod ({ cls := "TracePacks$Reader", name := "<init>", desc := "()V" } : MethodName)) ∈ g_W := w_c1 150 rfl rfl
set_option maxRecDepth 100000 in
theorem w_1_151 : (Cond.code ({ cls := "TracePacks$Reader", name := "<init>", desc := "()V" } : MethodName) prog_9_method_1_code (1 : Nat) (Option.none : Option FieldType)) ∈ g_W := w_c1 151 rfl rfl
set_option maxRecDepth 100000 in
theorem w_1_152 : (Cond.methodLink "TracePacks$Reader" (3 : Nat) ({ cls := "java/lang/Object", name := "<init>", desc := "()V" } : MethodName)) ∈ g_W := w_c1 152 rfl rfl
set_option maxRecDepth 100000 in
theorem w_1_153 : (Cond.classLink "TracePacks$Reader" (9 : Nat) "TracePacks$Unpacker") ∈ g_W := w_c1 153 rfl rfl
set_option maxRecDepth 100000 in
theorem w_1_154 : (Cond.instantiable "TracePacks$Unpacker" (4 : Nat)) ∈ g_W := w_c1 154 rfl rfl
set_option maxRecDepth 100000 in
theorem w_1_155 : (Cond.methodLinkNest "TracePacks$Reader" (11 : Nat) ({ cls := "TracePacks$Unpacker", name := "<init>", desc := "()V" } : MethodName) "TracePacks") ∈ g_W := w_c1 155 rfl rfl
set_option maxRecDepth 100000 in
theorem w_1_156 : (Cond.instanceMethod ({ cls := "TracePacks$Unpacker", name := "<init>", desc := "()V" } : MethodName)) ∈ g_W := w_c1 156 rfl rfl
set_option maxRecDepth 100000 in
theorem w_1_157 : (Cond.code ({ cls := "TracePacks$Unpacker", name := "<init>", desc := "()V" } : MethodName) prog_10_method_1_code (1 : Nat) (Option.none : Option FieldType)) ∈ g_W := w_c1 157 rfl rfl
set_option maxRecDepth 100000 in
theorem w_1_158 : (Cond.methodLink "TracePacks$Unpacker" (3 : Nat) ({ cls := "java/lang/Object", name := "<init>", desc := "()V" } : MethodName)) ∈ g_W := w_c1 158 rfl rfl
set_option maxRecDepth 100000 in
theorem w_1_159 : (Cond.classLink "TracePacks$Unpacker" (9 : Nat) "TracePacks$Ints") ∈ g_W := w_c1 159 rfl rfl
set_option maxRecDepth 100000 in
theorem w_1_160 : (Cond.methodLink "TracePacks$Unpacker" (11 : Nat) ({ cls := "TracePacks$Ints", name := "<init>", desc := "(I)V" } : MethodName)) ∈ g_W := w_c1 160 rfl rfl
set_option maxRecDepth 100000 in
theorem w_1_161 : (Cond.classLink "TracePacks$Unpacker" (20 : Nat) "TracePacks$Memory") ∈ g_W := w_c1 161 rfl rfl
set_option maxRecDepth 100000 in
theorem w_1_162 : (Cond.methodLinkNest "TracePacks$Unpacker" (22 : Nat) ({ cls := "TracePacks$Memory", name := "<init>", desc := "()V" } : MethodName) "TracePacks") ∈ g_W := w_c1 162 rfl rfl
set_option maxRecDepth 100000 in
theorem w_1_163 : (Cond.classLink "TracePacks$Unpacker" (27 : Nat) "TracePacks$Block") ∈ g_W := w_c1 163 rfl rfl
set_option maxRecDepth 100000 in
theorem w_1_164 : (Cond.methodLinkNest "TracePacks$Unpacker" (29 : Nat) ({ cls := "TracePacks$Block", name := "<init>", desc := "()V" } : MethodName) "TracePacks") ∈ g_W := w_c1 164 rfl rfl
set_option maxRecDepth 100000 in
theorem w_1_165 : (Cond.fieldLink "TracePacks$Unpacker" (14 : Nat) "TracePacks$Unpacker" "inside" "LTracePacks$Ints;") ∈ g_W := w_c1 165 rfl rfl
set_option maxRecDepth 100000 in
theorem w_1_166 : (Cond.fieldLink "TracePacks$Unpacker" (23 : Nat) "TracePacks$Unpacker" "memory" "LTracePacks$Memory;") ∈ g_W := w_c1 166 rfl rfl
set_option maxRecDepth 100000 in
theorem w_1_167 : (Cond.fieldLink "TracePacks$Unpacker" (30 : Nat) "TracePacks$Unpacker" "block" "LTracePacks$Block;") ∈ g_W := w_c1 167 rfl rfl
set_option maxRecDepth 100000 in
theorem w_1_168 : (Cond.fieldLink "TracePacks$Unpacker" (49 : Nat) "TracePacks$Unpacker" "place" "I") ∈ g_W := w_c1 168 rfl rfl
set_option maxRecDepth 100000 in
theorem w_1_178 : (Cond.classLink "TracePacks$Reader" (18 : Nat) "TracePacks$Kept") ∈ g_W := w_c1 178 rfl rfl
set_option maxRecDepth 100000 in
theorem w_1_179 : (Cond.instantiable "TracePacks$Kept" (9 : Nat)) ∈ g_W := w_c1 179 rfl rfl
set_option maxRecDepth 100000 in
theorem w_1_180 : (Cond.methodLinkNest "TracePacks$Reader" (20 : Nat) ({ cls := "TracePacks$Kept", name := "<init>", desc := "()V" } : MethodName) "TracePacks") ∈ g_W := w_c1 180 rfl rfl
set_option maxRecDepth 100000 in
theorem w_1_181 : (Cond.instanceMethod ({ cls := "TracePacks$Kept", name := "<init>", desc := "()V" } : MethodName)) ∈ g_W := w_c1 181 rfl rfl
set_option maxRecDepth 100000 in
theorem w_1_182 : (Cond.code ({ cls := "TracePacks$Kept", name := "<init>", desc := "()V" } : MethodName) prog_4_method_1_code (1 : Nat) (Option.none : Option FieldType)) ∈ g_W := w_c1 182 rfl rfl
set_option maxRecDepth 100000 in
theorem w_1_183 : (Cond.methodLink "TracePacks$Kept" (3 : Nat) ({ cls := "java/lang/Object", name := "<init>", desc := "()V" } : MethodName)) ∈ g_W := w_c1 183 rfl rfl
set_option maxRecDepth 100000 in
theorem w_1_184 : (Cond.classLink "TracePacks$Kept" (9 : Nat) "TracePacks$Ints") ∈ g_W := w_c1 184 rfl rfl
set_option maxRecDepth 100000 in
theorem w_1_185 : (Cond.methodLink "TracePacks$Kept" (11 : Nat) ({ cls := "TracePacks$Ints", name := "<init>", desc := "(I)V" } : MethodName)) ∈ g_W := w_c1 185 rfl rfl
set_option maxRecDepth 100000 in
theorem w_1_186 : (Cond.fieldLink "TracePacks$Kept" (14 : Nat) "TracePacks$Kept" "kinds" "LTracePacks$Ints;") ∈ g_W := w_c1 186 rfl rfl
set_option maxRecDepth 100000 in
theorem w_1_187 : (Cond.fieldLink "TracePacks$Kept" (20 : Nat) "TracePacks$Kept" "as" "LTracePacks$Ints;") ∈ g_W := w_c1 187 rfl rfl
set_option maxRecDepth 100000 in
theorem w_1_188 : (Cond.fieldLink "TracePacks$Kept" (23 : Nat) "TracePacks$Kept" "bs" "LTracePacks$Ints;") ∈ g_W := w_c1 188 rfl rfl
set_option maxRecDepth 100000 in
theorem w_1_189 : (Cond.fieldLink "TracePacks$Kept" (26 : Nat) "TracePacks$Kept" "owners" "LTracePacks$Ints;") ∈ g_W := w_c1 189 rfl rfl
set_option maxRecDepth 100000 in
theorem w_1_190 : (Cond.fieldLink "TracePacks$Kept" (29 : Nat) "TracePacks$Kept" "times" "LTracePacks$Ints;") ∈ g_W := w_c1 190 rfl rfl
set_option maxRecDepth 100000 in
theorem w_1_191 : (Cond.fieldLink "TracePacks$Kept" (32 : Nat) "TracePacks$Kept" "blocks" "LTracePacks$Ints;") ∈ g_W := w_c1 191 rfl rfl
set_option maxRecDepth 100000 in
theorem w_1_192 : (Cond.fieldLink "TracePacks$Kept" (35 : Nat) "TracePacks$Kept" "order" "LTracePacks$Ints;") ∈ g_W := w_c1 192 rfl rfl
set_option maxRecDepth 100000 in
theorem w_1_193 : (Cond.fieldLink "TracePacks$Kept" (38 : Nat) "TracePacks$Kept" "spare" "LTracePacks$Ints;") ∈ g_W := w_c1 193 rfl rfl
set_option maxRecDepth 100000 in
theorem w_1_194 : (Cond.fieldLink "TracePacks$Kept" (44 : Nat) "TracePacks$Kept" "isOrdered" "Z") ∈ g_W := w_c1 194 rfl rfl
set_option maxRecDepth 100000 in
theorem w_1_214 : (Cond.fieldLink "TracePacks$Reader" (12 : Nat) "TracePacks$Reader" "unpacker" "LTracePacks$Unpacker;") ∈ g_W := w_c1 214 rfl rfl
set_option maxRecDepth 100000 in
theorem w_1_215 : (Cond.fieldLink "TracePacks$Reader" (21 : Nat) "TracePacks$Reader" "rows" "LTracePacks$Kept;") ∈ g_W := w_c1 215 rfl rfl
set_option maxRecDepth 100000 in
theorem w_1_216 : (Cond.fieldLink "TracePacks$Reader" (32 : Nat) "TracePacks$Reader" "passedOver" "I") ∈ g_W := w_c1 216 rfl rfl
set_option maxRecDepth 100000 in
theorem w_1_217 : (Cond.fieldLink "TracePacks$Reader" (61 : Nat) "TracePacks$Reader" "blocks" "I") ∈ g_W := w_c1 217 rfl rfl
set_option maxRecDepth 100000 in
theorem w_1_218 : (Cond.fieldLink "TracePacks$Reader" (58 : Nat) "TracePacks$Reader" "broken" "I") ∈ g_W := w_c1 218 rfl rfl
set_option maxRecDepth 100000 in
theorem w_1_219 : (Cond.fieldLink "TracePacks$Reader" (64 : Nat) "TracePacks$Reader" "notKept" "I") ∈ g_W := w_c1 219 rfl rfl
set_option maxRecDepth 100000 in
theorem w_1_233 : (Cond.fieldLink "TracePacks" (14 : Nat) "TracePacks" "pack" "LTracePacks$Ints;") ∈ g_W := w_c1 233 rfl rfl
set_option maxRecDepth 100000 in
theorem w_1_234 : (Cond.fieldLink "TracePacks" (18 : Nat) "TracePacks" "times" "LTracePacks$Ints;") ∈ g_W := w_c1 234 rfl rfl
set_option maxRecDepth 100000 in
theorem w_1_235 : (Cond.fieldLink "TracePacks" (28 : Nat) "TracePacks" "open" "LTracePacks$Block;") ∈ g_W := w_c1 235 rfl rfl
set_option maxRecDepth 100000 in
theorem w_1_236 : (Cond.fieldLink "TracePacks" (35 : Nat) "TracePacks" "packer" "LTracePacks$Packer;") ∈ g_W := w_c1 236 rfl rfl
set_option maxRecDepth 100000 in
theorem w_1_237 : (Cond.fieldLink "TracePacks" (42 : Nat) "TracePacks" "reader" "LTracePacks$Reader;") ∈ g_W := w_c1 237 rfl rfl
set_option maxRecDepth 100000 in
theorem w_1_238 : (Cond.fieldLink "TracePacks" (57 : Nat) "TracePacks" "current" "I") ∈ g_W := w_c1 238 rfl rfl
set_option maxRecDepth 100000 in
theorem w_1_239 : (Cond.fieldLink "TracePacks" (46 : Nat) "TracePacks" "chosen" "I") ∈ g_W := w_c1 239 rfl rfl
set_option maxRecDepth 100000 in
theorem w_2_0 : (Cond.fieldLink "TracePacks" (98 : Nat) "TracePacks" "rowsSoFar" "I") ∈ g_W := w_c2 0 rfl rfl
set_option maxRecDepth 100000 in
theorem w_2_1 : (Cond.fieldLink "TracePacks" (144 : Nat) "TracePacks" "blocksSoFar" "I") ∈ g_W := w_c2 1 rfl rfl
set_option maxRecDepth 100000 in
theorem w_2_21 : (Cond.methodLink "TracePacksLaw" (98 : Nat) ({ cls := "TracePacks", name := "count", desc := "(I)I" } : MethodName)) ∈ g_W := w_c2 21 rfl rfl
set_option maxRecDepth 100000 in
theorem w_2_22 : (Cond.instanceMethod ({ cls := "TracePacks", name := "count", desc := "(I)I" } : MethodName)) ∈ g_W := w_c2 22 rfl rfl
set_option maxRecDepth 100000 in
theorem w_2_23 : (Cond.selects "TracePacks" ({ cls := "TracePacks", name := "count", desc := "(I)I" } : MethodName) ({ cls := "TracePacks", name := "count", desc := "(I)I" } : MethodName)) ∈ g_W := w_c2 23 rfl rfl
set_option maxRecDepth 100000 in
theorem w_2_24 : (Cond.code ({ cls := "TracePacks", name := "count", desc := "(I)I" } : MethodName) prog_1_method_13_code (2 : Nat) (Option.some FieldType.int)) ∈ g_W := w_c2 24 rfl rfl
set_option maxRecDepth 100000 in
theorem w_2_25 : (Cond.methodLink "TracePacks" (101 : Nat) ({ cls := "TracePacks$Ints", name := "size", desc := "()I" } : MethodName)) ∈ g_W := w_c2 25 rfl rfl
set_option maxRecDepth 100000 in
theorem w_2_26 : (Cond.instanceMethod ({ cls := "TracePacks$Ints", name := "size", desc := "()I" } : MethodName)) ∈ g_W := w_c2 26 rfl rfl
set_option maxRecDepth 100000 in
theorem w_2_27 : (Cond.selects "TracePacks$Ints" ({ cls := "TracePacks$Ints", name := "size", desc := "()I" } : MethodName) ({ cls := "TracePacks$Ints", name := "size", desc := "()I" } : MethodName)) ∈ g_W := w_c2 27 rfl rfl
set_option maxRecDepth 100000 in
theorem w_2_28 : (Cond.code ({ cls := "TracePacks$Ints", name := "size", desc := "()I" } : MethodName) prog_3_method_2_code (1 : Nat) (Option.some FieldType.int)) ∈ g_W := w_c2 28 rfl rfl
set_option maxRecDepth 100000 in
theorem w_2_29 : (Cond.methodLink "TracePacks" (81 : Nat) ({ cls := "TracePacks$Block", name := "size", desc := "()I" } : MethodName)) ∈ g_W := w_c2 29 rfl rfl
set_option maxRecDepth 100000 in
theorem w_2_30 : (Cond.instanceMethod ({ cls := "TracePacks$Block", name := "size", desc := "()I" } : MethodName)) ∈ g_W := w_c2 30 rfl rfl
set_option maxRecDepth 100000 in
theorem w_2_31 : (Cond.selects "TracePacks$Block" ({ cls := "TracePacks$Block", name := "size", desc := "()I" } : MethodName) ({ cls := "TracePacks$Block", name := "size", desc := "()I" } : MethodName)) ∈ g_W := w_c2 31 rfl rfl
set_option maxRecDepth 100000 in
theorem w_2_32 : (Cond.code ({ cls := "TracePacks$Block", name := "size", desc := "()I" } : MethodName) prog_2_method_6_code (1 : Nat) (Option.some FieldType.int)) ∈ g_W := w_c2 32 rfl rfl
set_option maxRecDepth 100000 in
theorem w_2_33 : (Cond.methodLink "TracePacks$Block" (47 : Nat) ({ cls := "TracePacks$Ints", name := "size", desc := "()I" } : MethodName)) ∈ g_W := w_c2 33 rfl rfl
set_option maxRecDepth 100000 in
theorem w_2_34 : (Cond.methodLink "TracePacks" (147 : Nat) ({ cls := "TracePacks$Reader", name := "passedOver", desc := "()I" } : MethodName)) ∈ g_W := w_c2 34 rfl rfl
set_option maxRecDepth 100000 in
theorem w_2_35 : (Cond.instanceMethod ({ cls := "TracePacks$Reader", name := "passedOver", desc := "()I" } : MethodName)) ∈ g_W := w_c2 35 rfl rfl
set_option maxRecDepth 100000 in
theorem w_2_36 : (Cond.selects "TracePacks$Reader" ({ cls := "TracePacks$Reader", name := "passedOver", desc := "()I" } : MethodName) ({ cls := "TracePacks$Reader", name := "passedOver", desc := "()I" } : MethodName)) ∈ g_W := w_c2 36 rfl rfl
set_option maxRecDepth 100000 in
theorem w_2_37 : (Cond.code ({ cls := "TracePacks$Reader", name := "passedOver", desc := "()I" } : MethodName) prog_9_method_4_code (1 : Nat) (Option.some FieldType.int)) ∈ g_W := w_c2 37 rfl rfl
set_option maxRecDepth 100000 in
theorem w_2_38 : (Cond.methodLink "TracePacks" (150 : Nat) ({ cls := "TracePacks$Reader", name := "blocks", desc := "()I" } : MethodName)) ∈ g_W := w_c2 38 rfl rfl
set_option maxRecDepth 100000 in
theorem w_2_39 : (Cond.instanceMethod ({ cls := "TracePacks$Reader", name := "blocks", desc := "()I" } : MethodName)) ∈ g_W := w_c2 39 rfl rfl
set_option maxRecDepth 100000 in
theorem w_2_40 : (Cond.selects "TracePacks$Reader" ({ cls := "TracePacks$Reader", name := "blocks", desc := "()I" } : MethodName) ({ cls := "TracePacks$Reader", name := "blocks", desc := "()I" } : MethodName)) ∈ g_W := w_c2 40 rfl rfl
set_option maxRecDepth 100000 in
theorem w_2_41 : (Cond.code ({ cls := "TracePacks$Reader", name := "blocks", desc := "()I" } : MethodName) prog_9_method_5_code (1 : Nat) (Option.some FieldType.int)) ∈ g_W := w_c2 41 rfl rfl
set_option maxRecDepth 100000 in
theorem w_2_42 : (Cond.methodLink "TracePacks" (153 : Nat) ({ cls := "TracePacks$Reader", name := "broken", desc := "()I" } : MethodName)) ∈ g_W := w_c2 42 rfl rfl
set_option maxRecDepth 100000 in
theorem w_2_43 : (Cond.instanceMethod ({ cls := "TracePacks$Reader", name := "broken", desc := "()I" } : MethodName)) ∈ g_W := w_c2 43 rfl rfl
set_option maxRecDepth 100000 in
theorem w_2_44 : (Cond.selects "TracePacks$Reader" ({ cls := "TracePacks$Reader", name := "broken", desc := "()I" } : MethodName) ({ cls := "TracePacks$Reader", name := "broken", desc := "()I" } : MethodName)) ∈ g_W := w_c2 44 rfl rfl
set_option maxRecDepth 100000 in
theorem w_2_45 : (Cond.code ({ cls := "TracePacks$Reader", name := "broken", desc := "()I" } : MethodName) prog_9_method_6_code (1 : Nat) (Option.some FieldType.int)) ∈ g_W := w_c2 45 rfl rfl
set_option maxRecDepth 100000 in
theorem w_2_46 : (Cond.methodLink "TracePacks" (126 : Nat) ({ cls := "TracePacks$Reader", name := "rows", desc := "()LTracePacks$Kept;" } : MethodName)) ∈ g_W := w_c2 46 rfl rfl
set_option maxRecDepth 100000 in
theorem w_2_47 : (Cond.instanceMethod ({ cls := "TracePacks$Reader", name := "rows", desc := "()LTracePacks$Kept;" } : MethodName)) ∈ g_W := w_c2 47 rfl rfl
set_option maxRecDepth 100000 in
theorem w_2_48 : (Cond.selects "TracePacks$Reader" ({ cls := "TracePacks$Reader", name := "rows", desc := "()LTracePacks$Kept;" } : MethodName) ({ cls := "TracePacks$Reader", name := "rows", desc := "()LTracePacks$Kept;" } : MethodName)) ∈ g_W := w_c2 48 rfl rfl
set_option maxRecDepth 100000 in
theorem w_2_49 : (Cond.code ({ cls := "TracePacks$Reader", name := "rows", desc := "()LTracePacks$Kept;" } : MethodName) prog_9_method_3_code (1 : Nat) (Option.some (FieldType.object "TracePacks$Kept"))) ∈ g_W := w_c2 49 rfl rfl
set_option maxRecDepth 100000 in
theorem w_2_50 : (Cond.methodLink "TracePacks" (130 : Nat) ({ cls := "TracePacks$Kept", name := "size", desc := "()I" } : MethodName)) ∈ g_W := w_c2 50 rfl rfl
set_option maxRecDepth 100000 in
theorem w_2_51 : (Cond.instanceMethod ({ cls := "TracePacks$Kept", name := "size", desc := "()I" } : MethodName)) ∈ g_W := w_c2 51 rfl rfl
set_option maxRecDepth 100000 in
theorem w_2_52 : (Cond.selects "TracePacks$Kept" ({ cls := "TracePacks$Kept", name := "size", desc := "()I" } : MethodName) ({ cls := "TracePacks$Kept", name := "size", desc := "()I" } : MethodName)) ∈ g_W := w_c2 52 rfl rfl
set_option maxRecDepth 100000 in
theorem w_2_53 : (Cond.code ({ cls := "TracePacks$Kept", name := "size", desc := "()I" } : MethodName) prog_4_method_4_code (1 : Nat) (Option.some FieldType.int)) ∈ g_W := w_c2 53 rfl rfl
set_option maxRecDepth 100000 in
theorem w_2_54 : (Cond.methodLink "TracePacks$Kept" (68 : Nat) ({ cls := "TracePacks$Ints", name := "size", desc := "()I" } : MethodName)) ∈ g_W := w_c2 54 rfl rfl
set_option maxRecDepth 100000 in
theorem w_2_55 : (Cond.methodLink "TracePacks" (156 : Nat) ({ cls := "TracePacks$Reader", name := "notKept", desc := "()I" } : MethodName)) ∈ g_W := w_c2 55 rfl rfl
set_option maxRecDepth 100000 in
theorem w_2_56 : (Cond.instanceMethod ({ cls := "TracePacks$Reader", name := "notKept", desc := "()I" } : MethodName)) ∈ g_W := w_c2 56 rfl rfl
set_option maxRecDepth 100000 in
theorem w_2_57 : (Cond.selects "TracePacks$Reader" ({ cls := "TracePacks$Reader", name := "notKept", desc := "()I" } : MethodName) ({ cls := "TracePacks$Reader", name := "notKept", desc := "()I" } : MethodName)) ∈ g_W := w_c2 57 rfl rfl
set_option maxRecDepth 100000 in
theorem w_2_58 : (Cond.code ({ cls := "TracePacks$Reader", name := "notKept", desc := "()I" } : MethodName) prog_9_method_7_code (1 : Nat) (Option.some FieldType.int)) ∈ g_W := w_c2 58 rfl rfl
set_option maxRecDepth 100000 in
theorem w_2_59 : (Cond.methodLink "TracePacksLaw" (56 : Nat) ({ cls := "TracePacksLaw", name := "thread", desc := "(LTracePacks;I[J)I" } : MethodName)) ∈ g_W := w_c2 59 rfl rfl
set_option maxRecDepth 100000 in
theorem w_2_60 : (Cond.static ({ cls := "TracePacksLaw", name := "thread", desc := "(LTracePacks;I[J)I" } : MethodName)) ∈ g_W := w_c2 60 rfl rfl
set_option maxRecDepth 100000 in
theorem w_2_61 : (Cond.codeWith ({ cls := "TracePacksLaw", name := "thread", desc := "(LTracePacks;I[J)I" } : MethodName) method_3_code (4 : Nat) (Option.some FieldType.int) [((0 : Nat), (9 : Nat), (12 : Nat), (13 : Nat))]) ∈ g_W := w_c2 61 rfl rfl
set_option maxRecDepth 100000 in
theorem w_2_62 : (Cond.classLink "TracePacksLaw" (13 : Nat) "java/lang/IndexOutOfBoundsException") ∈ g_W := w_c2 62 rfl rfl
set_option maxRecDepth 100000 in
theorem w_2_63 : (Cond.methodLink "TracePacksLaw" (7 : Nat) ({ cls := "TracePacks", name := "thread", desc := "(I)I" } : MethodName)) ∈ g_W := w_c2 63 rfl rfl
set_option maxRecDepth 100000 in
theorem w_2_64 : (Cond.instanceMethod ({ cls := "TracePacks", name := "thread", desc := "(I)I" } : MethodName)) ∈ g_W := w_c2 64 rfl rfl
set_option maxRecDepth 100000 in
theorem w_2_65 : (Cond.selects "TracePacks" ({ cls := "TracePacks", name := "thread", desc := "(I)I" } : MethodName) ({ cls := "TracePacks", name := "thread", desc := "(I)I" } : MethodName)) ∈ g_W := w_c2 65 rfl rfl
set_option maxRecDepth 100000 in
theorem w_2_66 : (Cond.code ({ cls := "TracePacks", name := "thread", desc := "(I)I" } : MethodName) prog_1_method_2_code (3 : Nat) (Option.some FieldType.int)) ∈ g_W := w_c2 66 rfl rfl
set_option maxRecDepth 100000 in
theorem w_2_67 : (Cond.classLink "TracePacks" (50 : Nat) "java/lang/IndexOutOfBoundsException") ∈ g_W := w_c2 67 rfl rfl
set_option maxRecDepth 100000 in
theorem w_2_68 : (Cond.instantiable "java/lang/IndexOutOfBoundsException" (6 : Nat)) ∈ g_W := w_c2 68 rfl rfl
set_option maxRecDepth 100000 in
theorem w_2_76 : (Cond.selects "java/lang/IndexOutOfBoundsException" ({ cls := "java/lang/Throwable", name := "fillInStackTrace", desc := "(I)Ljava/lang/Throwable;" } : MethodName) ({ cls := "java/lang/Throwable", name := "fillInStackTrace", desc := "(I)Ljava/lang/Throwable;" } : MethodName)) ∈ g_W := w_c2 76 rfl rfl
set_option maxRecDepth 100000 in
theorem w_2_77 : (Cond.selects "java/lang/IndexOutOfBoundsException" ({ cls := "java/lang/Throwable", name := "fillInStackTrace", desc := "()Ljava/lang/Throwable;" } : MethodName) ({ cls := "java/lang/Throwable", name := "fillInStackTrace", desc := "()Ljava/lang/Throwable;" } : MethodName)) ∈ g_W := w_c2 77 rfl rfl
set_option maxRecDepth 100000 in
theorem w_2_88 : (Cond.fieldLink "java/lang/Throwable" (198 : Nat) "java/lang/Throwable" "backtrace" "Ljava/lang/Object;") ∈ g_W := w_c2 88 rfl rfl
set_option maxRecDepth 100000 in
theorem w_2_90 : (Cond.instanceMethod ({ cls := "java/lang/Throwable", name := "<init>", desc := "()V" } : MethodName)) ∈ g_W := w_c2 90 rfl rfl
set_option maxRecDepth 100000 in
theorem w_2_91 : (Cond.code ({ cls := "java/lang/Throwable", name := "<init>", desc := "()V" } : MethodName) prog_20_method_1_code (1 : Nat) (Option.none : Option FieldType)) ∈ g_W := w_c2 91 rfl rfl
set_option maxRecDepth 100000 in
theorem w_2_92 : (Cond.methodLink "java/lang/Throwable" (1 : Nat) ({ cls := "java/lang/Object", name := "<init>", desc := "()V" } : MethodName)) ∈ g_W := w_c2 92 rfl rfl
set_option maxRecDepth 100000 in
theorem w_2_93 : (Cond.fieldLink "java/lang/Throwable" (13 : Nat) "java/lang/Throwable" "UNASSIGNED_STACK" "[Ljava/lang/StackTraceElement;") ∈ g_W := w_c2 93 rfl rfl
set_option maxRecDepth 100000 in
theorem w_2_95 : (Cond.fieldLink "java/lang/Throwable" (20 : Nat) "java/lang/Throwable" "SUPPRESSED_SENTINEL" "Ljava/util/List;") ∈ g_W := w_c2 95 rfl rfl
set_option maxRecDepth 100000 in
theorem w_2_97 : (Cond.methodLink "java/lang/Throwable" (27 : Nat) ({ cls := "java/lang/Throwable", name := "fillInStackTrace", desc := "()Ljava/lang/Throwable;" } : MethodName)) ∈ g_W := w_c2 97 rfl rfl
set_option maxRecDepth 100000 in
theorem w_2_98 : (Cond.instanceMethod ({ cls := "java/lang/Throwable", name := "fillInStackTrace", desc := "()Ljava/lang/Throwable;" } : MethodName)) ∈ g_W := w_c2 98 rfl rfl
set_option maxRecDepth 100000 in
theorem w_2_100 : (Cond.selects "java/lang/IllegalArgumentException" ({ cls := "java/lang/Throwable", name := "fillInStackTrace", desc := "()Ljava/lang/Throwable;" } : MethodName) ({ cls := "java/lang/Throwable", name := "fillInStackTrace", desc := "()Ljava/lang/Throwable;" } : MethodName)) ∈ g_W := w_c2 100 rfl rfl
set_option maxRecDepth 100000 in
theorem w_2_101 : (Cond.selects "java/lang/IllegalStateException" ({ cls := "java/lang/Throwable", name := "fillInStackTrace", desc := "()Ljava/lang/Throwable;" } : MethodName) ({ cls := "java/lang/Throwable", name := "fillInStackTrace", desc := "()Ljava/lang/Throwable;" } : MethodName)) ∈ g_W := w_c2 101 rfl rfl
set_option maxRecDepth 100000 in
theorem w_2_103 : (Cond.methodLink "java/lang/Throwable" (202 : Nat) ({ cls := "java/lang/Throwable", name := "fillInStackTrace", desc := "(I)Ljava/lang/Throwable;" } : MethodName)) ∈ g_W := w_c2 103 rfl rfl
set_option maxRecDepth 100000 in
theorem w_2_105 : (Cond.instanceMethod ({ cls := "java/lang/Throwable", name := "fillInStackTrace", desc := "(I)Ljava/lang/Throwable;" } : MethodName)) ∈ g_W := w_c2 105 rfl rfl
set_option maxRecDepth 100000 in
theorem w_2_106 : (Cond.instantiable "java/lang/Throwable" (6 : Nat)) ∈ g_W := w_c2 106 rfl rfl
set_option maxRecDepth 100000 in
theorem w_2_109 : (Cond.methodLink "TracePacks" (54 : Nat) ({ cls := "java/lang/IndexOutOfBoundsException", name := "<init>", desc := "(Ljava/lang/String;)V" } : MethodName)) ∈ g_W := w_c2 109 rfl rfl
set_option maxRecDepth 100000 in
theorem w_2_110 : (Cond.instanceMethod ({ cls := "java/lang/IndexOutOfBoundsException", name := "<init>", desc := "(Ljava/lang/String;)V" } : MethodName)) ∈ g_W := w_c2 110 rfl rfl
set_option maxRecDepth 100000 in
theorem w_2_111 : (Cond.code ({ cls := "java/lang/IndexOutOfBoundsException", name := "<init>", desc := "(Ljava/lang/String;)V" } : MethodName) prog_16_method_2_code (2 : Nat) (Option.none : Option FieldType)) ∈ g_W := w_c2 111 rfl rfl
set_option maxRecDepth 100000 in
theorem w_2_112 : (Cond.methodLink "java/lang/IndexOutOfBoundsException" (7 : Nat) ({ cls := "java/lang/RuntimeException", name := "<init>", desc := "(Ljava/lang/String;)V" } : MethodName)) ∈ g_W := w_c2 112 rfl rfl
set_option maxRecDepth 100000 in
theorem w_2_113 : (Cond.instanceMethod ({ cls := "java/lang/RuntimeException", name := "<init>", desc := "(Ljava/lang/String;)V" } : MethodName)) ∈ g_W := w_c2 113 rfl rfl
set_option maxRecDepth 100000 in
theorem w_2_114 : (Cond.code ({ cls := "java/lang/RuntimeException", name := "<init>", desc := "(Ljava/lang/String;)V" } : MethodName) prog_18_method_2_code (2 : Nat) (Option.none : Option FieldType)) ∈ g_W := w_c2 114 rfl rfl
set_option maxRecDepth 100000 in
theorem w_2_115 : (Cond.methodLink "java/lang/RuntimeException" (7 : Nat) ({ cls := "java/lang/Exception", name := "<init>", desc := "(Ljava/lang/String;)V" } : MethodName)) ∈ g_W := w_c2 115 rfl rfl
set_option maxRecDepth 100000 in
theorem w_2_116 : (Cond.instanceMethod ({ cls := "java/lang/Exception", name := "<init>", desc := "(Ljava/lang/String;)V" } : MethodName)) ∈ g_W := w_c2 116 rfl rfl
set_option maxRecDepth 100000 in
theorem w_2_117 : (Cond.code ({ cls := "java/lang/Exception", name := "<init>", desc := "(Ljava/lang/String;)V" } : MethodName) prog_13_method_2_code (2 : Nat) (Option.none : Option FieldType)) ∈ g_W := w_c2 117 rfl rfl
set_option maxRecDepth 100000 in
theorem w_2_118 : (Cond.methodLink "java/lang/Exception" (7 : Nat) ({ cls := "java/lang/Throwable", name := "<init>", desc := "(Ljava/lang/String;)V" } : MethodName)) ∈ g_W := w_c2 118 rfl rfl
set_option maxRecDepth 100000 in
theorem w_2_119 : (Cond.instanceMethod ({ cls := "java/lang/Throwable", name := "<init>", desc := "(Ljava/lang/String;)V" } : MethodName)) ∈ g_W := w_c2 119 rfl rfl
set_option maxRecDepth 100000 in
theorem w_2_120 : (Cond.code ({ cls := "java/lang/Throwable", name := "<init>", desc := "(Ljava/lang/String;)V" } : MethodName) prog_20_method_2_code (2 : Nat) (Option.none : Option FieldType)) ∈ g_W := w_c2 120 rfl rfl
set_option maxRecDepth 100000 in
theorem w_2_122 : (Cond.fieldLink "java/lang/Throwable" (31 : Nat) "java/lang/Throwable" "detailMessage" "Ljava/lang/String;") ∈ g_W := w_c2 122 rfl rfl
set_option maxRecDepth 100000 in
theorem w_2_123 : (Cond.fieldLink "java/lang/Throwable" (7 : Nat) "java/lang/Throwable" "cause" "Ljava/lang/Throwable;") ∈ g_W := w_c2 123 rfl rfl
set_option maxRecDepth 100000 in
theorem w_2_124 : (Cond.fieldLink "java/lang/Throwable" (17 : Nat) "java/lang/Throwable" "stackTrace" "[Ljava/lang/StackTraceElement;") ∈ g_W := w_c2 124 rfl rfl
set_option maxRecDepth 100000 in
theorem w_2_125 : (Cond.fieldLink "java/lang/Throwable" (24 : Nat) "java/lang/Throwable" "suppressedExceptions" "Ljava/util/List;") ∈ g_W := w_c2 125 rfl rfl
set_option maxRecDepth 100000 in
theorem w_2_134 : (Cond.arrayClass FieldType.byte) ∈ g_W := w_c2 134 rfl rfl
set_option maxRecDepth 100000 in
theorem w_2_135 : (Cond.methodLink "TracePacksLaw" (65 : Nat) ({ cls := "TracePacksLaw", name := "row", desc := "(LTracePacks;III[J)I" } : MethodName)) ∈ g_W := w_c2 135 rfl rfl
set_option maxRecDepth 100000 in
theorem w_2_136 : (Cond.static ({ cls := "TracePacksLaw", name := "row", desc := "(LTracePacks;III[J)I" } : MethodName)) ∈ g_W := w_c2 136 rfl rfl
set_option maxRecDepth 100000 in
theorem w_2_137 : (Cond.codeWith ({ cls := "TracePacksLaw", name := "row", desc := "(LTracePacks;III[J)I" } : MethodName) method_4_code (6 : Nat) (Option.some FieldType.int) [((0 : Nat), (12 : Nat), (15 : Nat), (19 : Nat)), ((0 : Nat), (12 : Nat), (19 : Nat), (21 : Nat))]) ∈ g_W := w_c2 137 rfl rfl
set_option maxRecDepth 100000 in
theorem w_2_138 : (Cond.classLink "TracePacksLaw" (19 : Nat) "java/lang/IllegalArgumentException") ∈ g_W := w_c2 138 rfl rfl
set_option maxRecDepth 100000 in
theorem w_2_139 : (Cond.classLink "TracePacksLaw" (21 : Nat) "java/lang/IllegalStateException") ∈ g_W := w_c2 139 rfl rfl
set_option maxRecDepth 100000 in
theorem w_2_140 : (Cond.methodLink "TracePacksLaw" (15 : Nat) ({ cls := "TracePacks", name := "row", desc := "(III)I" } : MethodName)) ∈ g_W := w_c2 140 rfl rfl
set_option maxRecDepth 100000 in
theorem w_2_141 : (Cond.instanceMethod ({ cls := "TracePacks", name := "row", desc := "(III)I" } : MethodName)) ∈ g_W := w_c2 141 rfl rfl
set_option maxRecDepth 100000 in
theorem w_2_142 : (Cond.selects "TracePacks" ({ cls := "TracePacks", name := "row", desc := "(III)I" } : MethodName) ({ cls := "TracePacks", name := "row", desc := "(III)I" } : MethodName)) ∈ g_W := w_c2 142 rfl rfl
set_option maxRecDepth 100000 in
theorem w_2_143 : (Cond.code ({ cls := "TracePacks", name := "row", desc := "(III)I" } : MethodName) prog_1_method_3_code (4 : Nat) (Option.some FieldType.int)) ∈ g_W := w_c2 143 rfl rfl
set_option maxRecDepth 100000 in
theorem w_2_144 : (Cond.methodLink "TracePacks" (60 : Nat) ({ cls := "TracePacks", name := "isRow", desc := "(III)Z" } : MethodName)) ∈ g_W := w_c2 144 rfl rfl
set_option maxRecDepth 100000 in
theorem w_2_146 : (Cond.instanceMethod ({ cls := "TracePacks", name := "isRow", desc := "(III)Z" } : MethodName)) ∈ g_W := w_c2 146 rfl rfl
set_option maxRecDepth 100000 in
theorem w_2_147 : (Cond.code ({ cls := "TracePacks", name := "isRow", desc := "(III)Z" } : MethodName) prog_1_method_14_code (4 : Nat) (Option.some FieldType.boolean)) ∈ g_W := w_c2 147 rfl rfl
set_option maxRecDepth 100000 in
theorem w_2_148 : (Cond.methodLink "TracePacks" (85 : Nat) ({ cls := "TracePacks$Ints", name := "at", desc := "(I)I" } : MethodName)) ∈ g_W := w_c2 148 rfl rfl
set_option maxRecDepth 100000 in
theorem w_2_149 : (Cond.instanceMethod ({ cls := "TracePacks$Ints", name := "at", desc := "(I)I" } : MethodName)) ∈ g_W := w_c2 149 rfl rfl
set_option maxRecDepth 100000 in
theorem w_2_150 : (Cond.selects "TracePacks$Ints" ({ cls := "TracePacks$Ints", name := "at", desc := "(I)I" } : MethodName) ({ cls := "TracePacks$Ints", name := "at", desc := "(I)I" } : MethodName)) ∈ g_W := w_c2 150 rfl rfl
set_option maxRecDepth 100000 in
theorem w_2_151 : (Cond.code ({ cls := "TracePacks$Ints", name := "at", desc := "(I)I" } : MethodName) prog_3_method_4_code (2 : Nat) (Option.some FieldType.int)) ∈ g_W := w_c2 151 rfl rfl
set_option maxRecDepth 100000 in
theorem w_2_152 : (Cond.classLink "TracePacks" (64 : Nat) "java/lang/IllegalArgumentException") ∈ g_W := w_c2 152 rfl rfl
set_option maxRecDepth 100000 in
theorem w_2_153 : (Cond.instantiable "java/lang/IllegalArgumentException" (6 : Nat)) ∈ g_W := w_c2 153 rfl rfl
set_option maxRecDepth 100000 in
theorem w_2_155 : (Cond.selects "java/lang/IllegalArgumentException" ({ cls := "java/lang/Throwable", name := "fillInStackTrace", desc := "(I)Ljava/lang/Throwable;" } : MethodName) ({ cls := "java/lang/Throwable", name := "fillInStackTrace", desc := "(I)Ljava/lang/Throwable;" } : MethodName)) ∈ g_W := w_c2 155 rfl rfl
set_option maxRecDepth 100000 in
theorem w_2_162 : (Cond.methodLink "TracePacks" (68 : Nat) ({ cls := "java/lang/IllegalArgumentException", name := "<init>", desc := "(Ljava/lang/String;)V" } : MethodName)) ∈ g_W := w_c2 162 rfl rfl
set_option maxRecDepth 100000 in
theorem w_2_163 : (Cond.instanceMethod ({ cls := "java/lang/IllegalArgumentException", name := "<init>", desc := "(Ljava/lang/String;)V" } : MethodName)) ∈ g_W := w_c2 163 rfl rfl
set_option maxRecDepth 100000 in
theorem w_2_164 : (Cond.code ({ cls := "java/lang/IllegalArgumentException", name := "<init>", desc := "(Ljava/lang/String;)V" } : MethodName) prog_14_method_2_code (2 : Nat) (Option.none : Option FieldType)) ∈ g_W := w_c2 164 rfl rfl
set_option maxRecDepth 100000 in
theorem w_2_165 : (Cond.methodLink "java/lang/IllegalArgumentException" (7 : Nat) ({ cls := "java/lang/RuntimeException", name := "<init>", desc := "(Ljava/lang/String;)V" } : MethodName)) ∈ g_W := w_c2 165 rfl rfl
set_option maxRecDepth 100000 in
theorem w_2_168 : (Cond.methodLink "TracePacks" (69 : Nat) ({ cls := "TracePacks$Block", name := "isClosedBy", desc := "(I)Z" } : MethodName)) ∈ g_W := w_c2 168 rfl rfl
set_option maxRecDepth 100000 in
theorem w_2_169 : (Cond.instanceMethod ({ cls := "TracePacks$Block", name := "isClosedBy", desc := "(I)Z" } : MethodName)) ∈ g_W := w_c2 169 rfl rfl
set_option maxRecDepth 100000 in
theorem w_2_170 : (Cond.selects "TracePacks$Block" ({ cls := "TracePacks$Block", name := "isClosedBy", desc := "(I)Z" } : MethodName) ({ cls := "TracePacks$Block", name := "isClosedBy", desc := "(I)Z" } : MethodName)) ∈ g_W := w_c2 170 rfl rfl
set_option maxRecDepth 100000 in
theorem w_2_171 : (Cond.code ({ cls := "TracePacks$Block", name := "isClosedBy", desc := "(I)Z" } : MethodName) prog_2_method_4_code (2 : Nat) (Option.some FieldType.boolean)) ∈ g_W := w_c2 171 rfl rfl
set_option maxRecDepth 100000 in
theorem w_2_172 : (Cond.methodLink "TracePacks$Block" (39 : Nat) ({ cls := "TracePacks$Block", name := "size", desc := "()I" } : MethodName)) ∈ g_W := w_c2 172 rfl rfl
set_option maxRecDepth 100000 in
theorem w_2_173 : (Cond.methodLink "TracePacks" (72 : Nat) ({ cls := "TracePacks", name := "closeOpen", desc := "()Z" } : MethodName)) ∈ g_W := w_c2 173 rfl rfl
set_option maxRecDepth 100000 in
theorem w_2_175 : (Cond.instanceMethod ({ cls := "TracePacks", name := "closeOpen", desc := "()Z" } : MethodName)) ∈ g_W := w_c2 175 rfl rfl
set_option maxRecDepth 100000 in
theorem w_2_176 : (Cond.code ({ cls := "TracePacks", name := "closeOpen", desc := "()Z" } : MethodName) prog_1_method_15_code (1 : Nat) (Option.some FieldType.boolean)) ∈ g_W := w_c2 176 rfl rfl
set_option maxRecDepth 100000 in
theorem w_2_177 : (Cond.methodLink "TracePacks" (159 : Nat) ({ cls := "TracePacks$Packer", name := "fill", desc := "(LTracePacks$Block;)V" } : MethodName)) ∈ g_W := w_c2 177 rfl rfl
set_option maxRecDepth 100000 in
theorem w_2_178 : (Cond.instanceMethod ({ cls := "TracePacks$Packer", name := "fill", desc := "(LTracePacks$Block;)V" } : MethodName)) ∈ g_W := w_c2 178 rfl rfl
set_option maxRecDepth 100000 in
theorem w_2_179 : (Cond.selects "TracePacks$Packer" ({ cls := "TracePacks$Packer", name := "fill", desc := "(LTracePacks$Block;)V" } : MethodName) ({ cls := "TracePacks$Packer", name := "fill", desc := "(LTracePacks$Block;)V" } : MethodName)) ∈ g_W := w_c2 179 rfl rfl
set_option maxRecDepth 100000 in
theorem w_2_180 : (Cond.code ({ cls := "TracePacks$Packer", name := "fill", desc := "(LTracePacks$Block;)V" } : MethodName) prog_7_method_2_code (3 : Nat) (Option.none : Option FieldType)) ∈ g_W := w_c2 180 rfl rfl
set_option maxRecDepth 100000 in
theorem w_2_181 : (Cond.methodLink "TracePacks$Packer" (31 : Nat) ({ cls := "TracePacks$Ints", name := "shorten", desc := "(I)V" } : MethodName)) ∈ g_W := w_c2 181 rfl rfl
set_option maxRecDepth 100000 in
theorem w_2_182 : (Cond.instanceMethod ({ cls := "TracePacks$Ints", name := "shorten", desc := "(I)V" } : MethodName)) ∈ g_W := w_c2 182 rfl rfl
set_option maxRecDepth 100000 in
theorem w_2_183 : (Cond.selects "TracePacks$Ints" ({ cls := "TracePacks$Ints", name := "shorten", desc := "(I)V" } : MethodName) ({ cls := "TracePacks$Ints", name := "shorten", desc := "(I)V" } : MethodName)) ∈ g_W := w_c2 183 rfl rfl
set_option maxRecDepth 100000 in
theorem w_2_184 : (Cond.code ({ cls := "TracePacks$Ints", name := "shorten", desc := "(I)V" } : MethodName) prog_3_method_7_code (2 : Nat) (Option.none : Option FieldType)) ∈ g_W := w_c2 184 rfl rfl
set_option maxRecDepth 100000 in
theorem w_2_185 : (Cond.methodLink "TracePacks$Packer" (34 : Nat) ({ cls := "TracePacks$Block", name := "time", desc := "()I" } : MethodName)) ∈ g_W := w_c2 185 rfl rfl
set_option maxRecDepth 100000 in
theorem w_2_186 : (Cond.instanceMethod ({ cls := "TracePacks$Block", name := "time", desc := "()I" } : MethodName)) ∈ g_W := w_c2 186 rfl rfl
set_option maxRecDepth 100000 in
theorem w_2_187 : (Cond.selects "TracePacks$Block" ({ cls := "TracePacks$Block", name := "time", desc := "()I" } : MethodName) ({ cls := "TracePacks$Block", name := "time", desc := "()I" } : MethodName)) ∈ g_W := w_c2 187 rfl rfl
set_option maxRecDepth 100000 in
theorem w_2_188 : (Cond.code ({ cls := "TracePacks$Block", name := "time", desc := "()I" } : MethodName) prog_2_method_8_code (1 : Nat) (Option.some FieldType.int)) ∈ g_W := w_c2 188 rfl rfl
set_option maxRecDepth 100000 in
theorem w_2_189 : (Cond.methodLink "TracePacks$Packer" (40 : Nat) ({ cls := "TracePacks$Memory", name := "begin", desc := "(I)V" } : MethodName)) ∈ g_W := w_c2 189 rfl rfl
set_option maxRecDepth 100000 in
theorem w_2_190 : (Cond.instanceMethod ({ cls := "TracePacks$Memory", name := "begin", desc := "(I)V" } : MethodName)) ∈ g_W := w_c2 190 rfl rfl
set_option maxRecDepth 100000 in
theorem w_2_191 : (Cond.selects "TracePacks$Memory" ({ cls := "TracePacks$Memory", name := "begin", desc := "(I)V" } : MethodName) ({ cls := "TracePacks$Memory", name := "begin", desc := "(I)V" } : MethodName)) ∈ g_W := w_c2 191 rfl rfl
set_option maxRecDepth 100000 in
theorem w_2_192 : (Cond.code ({ cls := "TracePacks$Memory", name := "begin", desc := "(I)V" } : MethodName) prog_6_method_2_code (2 : Nat) (Option.none : Option FieldType)) ∈ g_W := w_c2 192 rfl rfl
set_option maxRecDepth 100000 in
theorem w_2_193 : (Cond.methodLink "TracePacks$Memory" (26 : Nat) ({ cls := "TracePacks$Places", name := "clear", desc := "()V" } : MethodName)) ∈ g_W := w_c2 193 rfl rfl
set_option maxRecDepth 100000 in
theorem w_2_194 : (Cond.instanceMethod ({ cls := "TracePacks$Places", name := "clear", desc := "()V" } : MethodName)) ∈ g_W := w_c2 194 rfl rfl
set_option maxRecDepth 100000 in
theorem w_2_195 : (Cond.selects "TracePacks$Places" ({ cls := "TracePacks$Places", name := "clear", desc := "()V" } : MethodName) ({ cls := "TracePacks$Places", name := "clear", desc := "()V" } : MethodName)) ∈ g_W := w_c2 195 rfl rfl
set_option maxRecDepth 100000 in
theorem w_2_196 : (Cond.code ({ cls := "TracePacks$Places", name := "clear", desc := "()V" } : MethodName) prog_8_method_2_code (1 : Nat) (Option.none : Option FieldType)) ∈ g_W := w_c2 196 rfl rfl
set_option maxRecDepth 100000 in
theorem w_2_197 : (Cond.methodLink "TracePacks$Memory" (29 : Nat) ({ cls := "TracePacks$LastValues", name := "clear", desc := "()V" } : MethodName)) ∈ g_W := w_c2 197 rfl rfl
set_option maxRecDepth 100000 in
theorem w_2_198 : (Cond.instanceMethod ({ cls := "TracePacks$LastValues", name := "clear", desc := "()V" } : MethodName)) ∈ g_W := w_c2 198 rfl rfl
set_option maxRecDepth 100000 in
theorem w_2_199 : (Cond.selects "TracePacks$LastValues" ({ cls := "TracePacks$LastValues", name := "clear", desc := "()V" } : MethodName) ({ cls := "TracePacks$LastValues", name := "clear", desc := "()V" } : MethodName)) ∈ g_W := w_c2 199 rfl rfl
set_option maxRecDepth 100000 in
theorem w_2_200 : (Cond.code ({ cls := "TracePacks$LastValues", name := "clear", desc := "()V" } : MethodName) prog_5_method_2_code (1 : Nat) (Option.none : Option FieldType)) ∈ g_W := w_c2 200 rfl rfl
set_option maxRecDepth 100000 in
theorem w_2_201 : (Cond.methodLink "TracePacks$LastValues" (20 : Nat) ({ cls := "TracePacks$Ints", name := "shorten", desc := "(I)V" } : MethodName)) ∈ g_W := w_c2 201 rfl rfl
set_option maxRecDepth 100000 in
theorem w_2_202 : (Cond.methodLink "TracePacks$Packer" (43 : Nat) ({ cls := "TracePacks$Block", name := "owner", desc := "()I" } : MethodName)) ∈ g_W := w_c2 202 rfl rfl
set_option maxRecDepth 100000 in
theorem w_2_203 : (Cond.instanceMethod ({ cls := "TracePacks$Block", name := "owner", desc := "()I" } : MethodName)) ∈ g_W := w_c2 203 rfl rfl
set_option maxRecDepth 100000 in
theorem w_2_204 : (Cond.selects "TracePacks$Block" ({ cls := "TracePacks$Block", name := "owner", desc := "()I" } : MethodName) ({ cls := "TracePacks$Block", name := "owner", desc := "()I" } : MethodName)) ∈ g_W := w_c2 204 rfl rfl
set_option maxRecDepth 100000 in
theorem w_2_205 : (Cond.code ({ cls := "TracePacks$Block", name := "owner", desc := "()I" } : MethodName) prog_2_method_7_code (1 : Nat) (Option.some FieldType.int)) ∈ g_W := w_c2 205 rfl rfl
set_option maxRecDepth 100000 in
theorem w_2_206 : (Cond.methodLink "TracePacks$Packer" (46 : Nat) ({ cls := "TracePacks$Ints", name := "add", desc := "(I)Z" } : MethodName)) ∈ g_W := w_c2 206 rfl rfl
set_option maxRecDepth 100000 in
theorem w_2_207 : (Cond.methodLink "TracePacks$Packer" (50 : Nat) ({ cls := "TracePacks$Packer", name := "addWord", desc := "(I)V" } : MethodName)) ∈ g_W := w_c2 207 rfl rfl
set_option maxRecDepth 100000 in
theorem w_2_209 : (Cond.instanceMethod ({ cls := "TracePacks$Packer", name := "addWord", desc := "(I)V" } : MethodName)) ∈ g_W := w_c2 209 rfl rfl
set_option maxRecDepth 100000 in
theorem w_2_210 : (Cond.code ({ cls := "TracePacks$Packer", name := "addWord", desc := "(I)V" } : MethodName) prog_7_method_12_code (3 : Nat) (Option.none : Option FieldType)) ∈ g_W := w_c2 210 rfl rfl
set_option maxRecDepth 100000 in
theorem w_2_211 : (Cond.methodLink "TracePacks$Packer" (53 : Nat) ({ cls := "TracePacks$Block", name := "size", desc := "()I" } : MethodName)) ∈ g_W := w_c2 211 rfl rfl
set_option maxRecDepth 100000 in
theorem w_2_212 : (Cond.methodLink "TracePacks$Packer" (56 : Nat) ({ cls := "TracePacks$Block", name := "kind", desc := "(I)I" } : MethodName)) ∈ g_W := w_c2 212 rfl rfl
set_option maxRecDepth 100000 in
theorem w_2_213 : (Cond.instanceMethod ({ cls := "TracePacks$Block", name := "kind", desc := "(I)I" } : MethodName)) ∈ g_W := w_c2 213 rfl rfl
set_option maxRecDepth 100000 in
theorem w_2_214 : (Cond.selects "TracePacks$Block" ({ cls := "TracePacks$Block", name := "kind", desc := "(I)I" } : MethodName) ({ cls := "TracePacks$Block", name := "kind", desc := "(I)I" } : MethodName)) ∈ g_W := w_c2 214 rfl rfl
set_option maxRecDepth 100000 in
theorem w_2_215 : (Cond.code ({ cls := "TracePacks$Block", name := "kind", desc := "(I)I" } : MethodName) prog_2_method_9_code (2 : Nat) (Option.some FieldType.int)) ∈ g_W := w_c2 215 rfl rfl
set_option maxRecDepth 100000 in
theorem w_2_216 : (Cond.methodLink "TracePacks$Block" (48 : Nat) ({ cls := "TracePacks$Ints", name := "at", desc := "(I)I" } : MethodName)) ∈ g_W := w_c2 216 rfl rfl
set_option maxRecDepth 100000 in
theorem w_2_217 : (Cond.methodLink "TracePacks$Packer" (60 : Nat) ({ cls := "TracePacks$Packer", name := "addBranches", desc := "()V" } : MethodName)) ∈ g_W := w_c2 217 rfl rfl
set_option maxRecDepth 100000 in
theorem w_2_219 : (Cond.instanceMethod ({ cls := "TracePacks$Packer", name := "addBranches", desc := "()V" } : MethodName)) ∈ g_W := w_c2 219 rfl rfl
set_option maxRecDepth 100000 in
theorem w_2_220 : (Cond.code ({ cls := "TracePacks$Packer", name := "addBranches", desc := "()V" } : MethodName) prog_7_method_7_code (1 : Nat) (Option.none : Option FieldType)) ∈ g_W := w_c2 220 rfl rfl
set_option maxRecDepth 100000 in
theorem w_2_221 : (Cond.methodLink "TracePacks$Packer" (87 : Nat) ({ cls := "TracePacks$Packer", name := "addKind", desc := "(II)V" } : MethodName)) ∈ g_W := w_c2 221 rfl rfl
set_option maxRecDepth 100000 in
theorem w_2_223 : (Cond.instanceMethod ({ cls := "TracePacks$Packer", name := "addKind", desc := "(II)V" } : MethodName)) ∈ g_W := w_c2 223 rfl rfl
set_option maxRecDepth 100000 in
theorem w_2_224 : (Cond.code ({ cls := "TracePacks$Packer", name := "addKind", desc := "(II)V" } : MethodName) prog_7_method_10_code (3 : Nat) (Option.none : Option FieldType)) ∈ g_W := w_c2 224 rfl rfl
set_option maxRecDepth 100000 in
theorem w_2_225 : (Cond.methodLink "TracePacks$Packer" (63 : Nat) ({ cls := "TracePacks$Block", name := "a", desc := "(I)I" } : MethodName)) ∈ g_W := w_c2 225 rfl rfl
set_option maxRecDepth 100000 in
theorem w_2_226 : (Cond.instanceMethod ({ cls := "TracePacks$Block", name := "a", desc := "(I)I" } : MethodName)) ∈ g_W := w_c2 226 rfl rfl
set_option maxRecDepth 100000 in
theorem w_2_227 : (Cond.selects "TracePacks$Block" ({ cls := "TracePacks$Block", name := "a", desc := "(I)I" } : MethodName) ({ cls := "TracePacks$Block", name := "a", desc := "(I)I" } : MethodName)) ∈ g_W := w_c2 227 rfl rfl
set_option maxRecDepth 100000 in
theorem w_2_228 : (Cond.code ({ cls := "TracePacks$Block", name := "a", desc := "(I)I" } : MethodName) prog_2_method_10_code (2 : Nat) (Option.some FieldType.int)) ∈ g_W := w_c2 228 rfl rfl
set_option maxRecDepth 100000 in
theorem w_2_229 : (Cond.methodLink "TracePacks$Packer" (66 : Nat) ({ cls := "TracePacks$Block", name := "b", desc := "(I)I" } : MethodName)) ∈ g_W := w_c2 229 rfl rfl
set_option maxRecDepth 100000 in
theorem w_2_230 : (Cond.instanceMethod ({ cls := "TracePacks$Block", name := "b", desc := "(I)I" } : MethodName)) ∈ g_W := w_c2 230 rfl rfl
set_option maxRecDepth 100000 in
theorem w_2_231 : (Cond.selects "TracePacks$Block" ({ cls := "TracePacks$Block", name := "b", desc := "(I)I" } : MethodName) ({ cls := "TracePacks$Block", name := "b", desc := "(I)I" } : MethodName)) ∈ g_W := w_c2 231 rfl rfl
set_option maxRecDepth 100000 in
theorem w_2_232 : (Cond.code ({ cls := "TracePacks$Block", name := "b", desc := "(I)I" } : MethodName) prog_2_method_11_code (2 : Nat) (Option.some FieldType.int)) ∈ g_W := w_c2 232 rfl rfl
set_option maxRecDepth 100000 in
theorem w_2_233 : (Cond.methodLink "TracePacks$Packer" (69 : Nat) ({ cls := "TracePacks$Packer", name := "addRow", desc := "(III)V" } : MethodName)) ∈ g_W := w_c2 233 rfl rfl
set_option maxRecDepth 100000 in
theorem w_2_235 : (Cond.instanceMethod ({ cls := "TracePacks$Packer", name := "addRow", desc := "(III)V" } : MethodName)) ∈ g_W := w_c2 235 rfl rfl
set_option maxRecDepth 100000 in
theorem w_2_236 : (Cond.code ({ cls := "TracePacks$Packer", name := "addRow", desc := "(III)V" } : MethodName) prog_7_method_6_code (4 : Nat) (Option.none : Option FieldType)) ∈ g_W := w_c2 236 rfl rfl
set_option maxRecDepth 100000 in
theorem w_2_237 : (Cond.methodLinkNest "TracePacks$Packer" (94 : Nat) ({ cls := "TracePacks", name := "numberOf", desc := "(I)J" } : MethodName) "TracePacks") ∈ g_W := w_c2 237 rfl rfl
set_option maxRecDepth 100000 in
theorem w_2_238 : (Cond.static ({ cls := "TracePacks", name := "numberOf", desc := "(I)J" } : MethodName)) ∈ g_W := w_c2 238 rfl rfl
set_option maxRecDepth 100000 in
theorem w_2_239 : (Cond.code ({ cls := "TracePacks", name := "numberOf", desc := "(I)J" } : MethodName) prog_1_method_17_code (1 : Nat) (Option.some FieldType.long)) ∈ g_W := w_c2 239 rfl rfl
set_option maxRecDepth 100000 in
theorem w_3_0 : (Cond.constantLong "TracePacks" (170 : Nat) (2 : Int64)) ∈ g_W := w_c3 0 rfl rfl
set_option maxRecDepth 100000 in
theorem w_3_1 : (Cond.constantLong "TracePacks" (172 : Nat) (-2 : Int64)) ∈ g_W := w_c3 1 rfl rfl
set_option maxRecDepth 100000 in
theorem w_3_2 : (Cond.methodLink "TracePacks$Packer" (98 : Nat) ({ cls := "TracePacks$Packer", name := "addNumber", desc := "(J)V" } : MethodName)) ∈ g_W := w_c3 2 rfl rfl
set_option maxRecDepth 100000 in
theorem w_3_4 : (Cond.instanceMethod ({ cls := "TracePacks$Packer", name := "addNumber", desc := "(J)V" } : MethodName)) ∈ g_W := w_c3 4 rfl rfl
set_option maxRecDepth 100000 in
theorem w_3_5 : (Cond.code ({ cls := "TracePacks$Packer", name := "addNumber", desc := "(J)V" } : MethodName) prog_7_method_11_code (6 : Nat) (Option.none : Option FieldType)) ∈ g_W := w_c3 5 rfl rfl
set_option maxRecDepth 100000 in
theorem w_3_6 : (Cond.constantLong "TracePacks$Packer" (140 : Nat) (128 : Int64)) ∈ g_W := w_c3 6 rfl rfl
set_option maxRecDepth 100000 in
theorem w_3_7 : (Cond.methodLink "TracePacks$Packer" (102 : Nat) ({ cls := "TracePacks$Packer", name := "addLoad", desc := "(I)V" } : MethodName)) ∈ g_W := w_c3 7 rfl rfl
set_option maxRecDepth 100000 in
theorem w_3_9 : (Cond.instanceMethod ({ cls := "TracePacks$Packer", name := "addLoad", desc := "(I)V" } : MethodName)) ∈ g_W := w_c3 9 rfl rfl
set_option maxRecDepth 100000 in
theorem w_3_10 : (Cond.code ({ cls := "TracePacks$Packer", name := "addLoad", desc := "(I)V" } : MethodName) prog_7_method_8_code (2 : Nat) (Option.none : Option FieldType)) ∈ g_W := w_c3 10 rfl rfl
set_option maxRecDepth 100000 in
theorem w_3_11 : (Cond.methodLink "TracePacks$Packer" (114 : Nat) ({ cls := "TracePacks$Places", name := "expected", desc := "()I" } : MethodName)) ∈ g_W := w_c3 11 rfl rfl
set_option maxRecDepth 100000 in
theorem w_3_12 : (Cond.instanceMethod ({ cls := "TracePacks$Places", name := "expected", desc := "()I" } : MethodName)) ∈ g_W := w_c3 12 rfl rfl
set_option maxRecDepth 100000 in
theorem w_3_13 : (Cond.selects "TracePacks$Places" ({ cls := "TracePacks$Places", name := "expected", desc := "()I" } : MethodName) ({ cls := "TracePacks$Places", name := "expected", desc := "()I" } : MethodName)) ∈ g_W := w_c3 13 rfl rfl
set_option maxRecDepth 100000 in
theorem w_3_14 : (Cond.code ({ cls := "TracePacks$Places", name := "expected", desc := "()I" } : MethodName) prog_8_method_4_code (1 : Nat) (Option.some FieldType.int)) ∈ g_W := w_c3 14 rfl rfl
set_option maxRecDepth 100000 in
theorem w_3_15 : (Cond.methodLink "TracePacks$Packer" (119 : Nat) ({ cls := "TracePacks$Places", name := "differenceTo", desc := "(I)I" } : MethodName)) ∈ g_W := w_c3 15 rfl rfl
set_option maxRecDepth 100000 in
theorem w_3_16 : (Cond.instanceMethod ({ cls := "TracePacks$Places", name := "differenceTo", desc := "(I)I" } : MethodName)) ∈ g_W := w_c3 16 rfl rfl
set_option maxRecDepth 100000 in
theorem w_3_17 : (Cond.selects "TracePacks$Places" ({ cls := "TracePacks$Places", name := "differenceTo", desc := "(I)I" } : MethodName) ({ cls := "TracePacks$Places", name := "differenceTo", desc := "(I)I" } : MethodName)) ∈ g_W := w_c3 17 rfl rfl
set_option maxRecDepth 100000 in
theorem w_3_18 : (Cond.code ({ cls := "TracePacks$Places", name := "differenceTo", desc := "(I)I" } : MethodName) prog_8_method_6_code (2 : Nat) (Option.some FieldType.int)) ∈ g_W := w_c3 18 rfl rfl
set_option maxRecDepth 100000 in
theorem w_3_19 : (Cond.methodLink "TracePacks$Packer" (122 : Nat) ({ cls := "TracePacks$Places", name := "goTo", desc := "(I)V" } : MethodName)) ∈ g_W := w_c3 19 rfl rfl
set_option maxRecDepth 100000 in
theorem w_3_20 : (Cond.instanceMethod ({ cls := "TracePacks$Places", name := "goTo", desc := "(I)V" } : MethodName)) ∈ g_W := w_c3 20 rfl rfl
set_option maxRecDepth 100000 in
theorem w_3_21 : (Cond.selects "TracePacks$Places" ({ cls := "TracePacks$Places", name := "goTo", desc := "(I)V" } : MethodName) ({ cls := "TracePacks$Places", name := "goTo", desc := "(I)V" } : MethodName)) ∈ g_W := w_c3 21 rfl rfl
set_option maxRecDepth 100000 in
theorem w_3_22 : (Cond.code ({ cls := "TracePacks$Places", name := "goTo", desc := "(I)V" } : MethodName) prog_8_method_7_code (2 : Nat) (Option.none : Option FieldType)) ∈ g_W := w_c3 22 rfl rfl
set_option maxRecDepth 100000 in
theorem w_3_23 : (Cond.methodLink "TracePacks$Packer" (105 : Nat) ({ cls := "TracePacks$Packer", name := "addStore", desc := "(II)V" } : MethodName)) ∈ g_W := w_c3 23 rfl rfl
set_option maxRecDepth 100000 in
theorem w_3_25 : (Cond.instanceMethod ({ cls := "TracePacks$Packer", name := "addStore", desc := "(II)V" } : MethodName)) ∈ g_W := w_c3 25 rfl rfl
set_option maxRecDepth 100000 in
theorem w_3_26 : (Cond.code ({ cls := "TracePacks$Packer", name := "addStore", desc := "(II)V" } : MethodName) prog_7_method_9_code (6 : Nat) (Option.none : Option FieldType)) ∈ g_W := w_c3 26 rfl rfl
set_option maxRecDepth 100000 in
theorem w_3_27 : (Cond.methodLink "TracePacks$Packer" (132 : Nat) ({ cls := "TracePacks$LastValues", name := "numberOfValue", desc := "(I)I" } : MethodName)) ∈ g_W := w_c3 27 rfl rfl
set_option maxRecDepth 100000 in
theorem w_3_28 : (Cond.instanceMethod ({ cls := "TracePacks$LastValues", name := "numberOfValue", desc := "(I)I" } : MethodName)) ∈ g_W := w_c3 28 rfl rfl
set_option maxRecDepth 100000 in
theorem w_3_29 : (Cond.selects "TracePacks$LastValues" ({ cls := "TracePacks$LastValues", name := "numberOfValue", desc := "(I)I" } : MethodName) ({ cls := "TracePacks$LastValues", name := "numberOfValue", desc := "(I)I" } : MethodName)) ∈ g_W := w_c3 29 rfl rfl
set_option maxRecDepth 100000 in
theorem w_3_30 : (Cond.code ({ cls := "TracePacks$LastValues", name := "numberOfValue", desc := "(I)I" } : MethodName) prog_5_method_5_code (3 : Nat) (Option.some FieldType.int)) ∈ g_W := w_c3 30 rfl rfl
set_option maxRecDepth 100000 in
theorem w_3_31 : (Cond.methodLink "TracePacks$LastValues" (31 : Nat) ({ cls := "TracePacks$Ints", name := "size", desc := "()I" } : MethodName)) ∈ g_W := w_c3 31 rfl rfl
set_option maxRecDepth 100000 in
theorem w_3_32 : (Cond.methodLink "TracePacks$LastValues" (27 : Nat) ({ cls := "TracePacks$Ints", name := "at", desc := "(I)I" } : MethodName)) ∈ g_W := w_c3 32 rfl rfl
set_option maxRecDepth 100000 in
theorem w_3_33 : (Cond.methodLink "TracePacks$Packer" (137 : Nat) ({ cls := "TracePacks$LastValues", name := "use", desc := "(I)V" } : MethodName)) ∈ g_W := w_c3 33 rfl rfl
set_option maxRecDepth 100000 in
theorem w_3_34 : (Cond.instanceMethod ({ cls := "TracePacks$LastValues", name := "use", desc := "(I)V" } : MethodName)) ∈ g_W := w_c3 34 rfl rfl
set_option maxRecDepth 100000 in
theorem w_3_35 : (Cond.selects "TracePacks$LastValues" ({ cls := "TracePacks$LastValues", name := "use", desc := "(I)V" } : MethodName) ({ cls := "TracePacks$LastValues", name := "use", desc := "(I)V" } : MethodName)) ∈ g_W := w_c3 35 rfl rfl
set_option maxRecDepth 100000 in
theorem w_3_36 : (Cond.code ({ cls := "TracePacks$LastValues", name := "use", desc := "(I)V" } : MethodName) prog_5_method_6_code (5 : Nat) (Option.none : Option FieldType)) ∈ g_W := w_c3 36 rfl rfl
set_option maxRecDepth 100000 in
theorem w_3_37 : (Cond.methodLink "TracePacks$LastValues" (35 : Nat) ({ cls := "TracePacks$Ints", name := "set", desc := "(II)V" } : MethodName)) ∈ g_W := w_c3 37 rfl rfl
set_option maxRecDepth 100000 in
theorem w_3_38 : (Cond.instanceMethod ({ cls := "TracePacks$Ints", name := "set", desc := "(II)V" } : MethodName)) ∈ g_W := w_c3 38 rfl rfl
set_option maxRecDepth 100000 in
theorem w_3_39 : (Cond.selects "TracePacks$Ints" ({ cls := "TracePacks$Ints", name := "set", desc := "(II)V" } : MethodName) ({ cls := "TracePacks$Ints", name := "set", desc := "(II)V" } : MethodName)) ∈ g_W := w_c3 39 rfl rfl
set_option maxRecDepth 100000 in
theorem w_3_40 : (Cond.code ({ cls := "TracePacks$Ints", name := "set", desc := "(II)V" } : MethodName) prog_3_method_5_code (3 : Nat) (Option.none : Option FieldType)) ∈ g_W := w_c3 40 rfl rfl
set_option maxRecDepth 100000 in
theorem w_3_41 : (Cond.methodLink "TracePacks$LastValues" (39 : Nat) ({ cls := "TracePacks$Ints", name := "add", desc := "(I)Z" } : MethodName)) ∈ g_W := w_c3 41 rfl rfl
set_option maxRecDepth 100000 in
theorem w_3_42 : (Cond.methodLink "TracePacks$Packer" (73 : Nat) ({ cls := "TracePacks$Ints", name := "size", desc := "()I" } : MethodName)) ∈ g_W := w_c3 42 rfl rfl
set_option maxRecDepth 100000 in
theorem w_3_43 : (Cond.methodLinkNest "TracePacks$Packer" (74 : Nat) ({ cls := "TracePacks", name := "sumOf", desc := "(LTracePacks$Ints;I)I" } : MethodName) "TracePacks") ∈ g_W := w_c3 43 rfl rfl
set_option maxRecDepth 100000 in
theorem w_3_44 : (Cond.static ({ cls := "TracePacks", name := "sumOf", desc := "(LTracePacks$Ints;I)I" } : MethodName)) ∈ g_W := w_c3 44 rfl rfl
set_option maxRecDepth 100000 in
theorem w_3_45 : (Cond.code ({ cls := "TracePacks", name := "sumOf", desc := "(LTracePacks$Ints;I)I" } : MethodName) prog_1_method_16_code (5 : Nat) (Option.some FieldType.int)) ∈ g_W := w_c3 45 rfl rfl
set_option maxRecDepth 100000 in
theorem w_3_46 : (Cond.methodLink "TracePacks" (163 : Nat) ({ cls := "TracePacks$Packer", name := "moveBehind", desc := "(LTracePacks$Ints;)Z" } : MethodName)) ∈ g_W := w_c3 46 rfl rfl
set_option maxRecDepth 100000 in
theorem w_3_47 : (Cond.instanceMethod ({ cls := "TracePacks$Packer", name := "moveBehind", desc := "(LTracePacks$Ints;)Z" } : MethodName)) ∈ g_W := w_c3 47 rfl rfl
set_option maxRecDepth 100000 in
theorem w_3_48 : (Cond.selects "TracePacks$Packer" ({ cls := "TracePacks$Packer", name := "moveBehind", desc := "(LTracePacks$Ints;)Z" } : MethodName) ({ cls := "TracePacks$Packer", name := "moveBehind", desc := "(LTracePacks$Ints;)Z" } : MethodName)) ∈ g_W := w_c3 48 rfl rfl
set_option maxRecDepth 100000 in
theorem w_3_49 : (Cond.code ({ cls := "TracePacks$Packer", name := "moveBehind", desc := "(LTracePacks$Ints;)Z" } : MethodName) prog_7_method_3_code (4 : Nat) (Option.some FieldType.boolean)) ∈ g_W := w_c3 49 rfl rfl
set_option maxRecDepth 100000 in
theorem w_3_50 : (Cond.methodLink "TracePacks$Packer" (78 : Nat) ({ cls := "TracePacks$Packer", name := "lengthShielded", desc := "()I" } : MethodName)) ∈ g_W := w_c3 50 rfl rfl
set_option maxRecDepth 100000 in
theorem w_3_52 : (Cond.instanceMethod ({ cls := "TracePacks$Packer", name := "lengthShielded", desc := "()I" } : MethodName)) ∈ g_W := w_c3 52 rfl rfl
set_option maxRecDepth 100000 in
theorem w_3_53 : (Cond.code ({ cls := "TracePacks$Packer", name := "lengthShielded", desc := "()I" } : MethodName) prog_7_method_4_code (3 : Nat) (Option.some FieldType.int)) ∈ g_W := w_c3 53 rfl rfl
set_option maxRecDepth 100000 in
theorem w_3_54 : (Cond.methodLink "TracePacks$Packer" (81 : Nat) ({ cls := "TracePacks$Ints", name := "at", desc := "(I)I" } : MethodName)) ∈ g_W := w_c3 54 rfl rfl
set_option maxRecDepth 100000 in
theorem w_3_55 : (Cond.methodLink "TracePacks$Packer" (84 : Nat) ({ cls := "TracePacks$Packer", name := "isShielded", desc := "(I)Z" } : MethodName)) ∈ g_W := w_c3 55 rfl rfl
set_option maxRecDepth 100000 in
theorem w_3_56 : (Cond.static ({ cls := "TracePacks$Packer", name := "isShielded", desc := "(I)Z" } : MethodName)) ∈ g_W := w_c3 56 rfl rfl
set_option maxRecDepth 100000 in
theorem w_3_57 : (Cond.code ({ cls := "TracePacks$Packer", name := "isShielded", desc := "(I)Z" } : MethodName) prog_7_method_5_code (1 : Nat) (Option.some FieldType.boolean)) ∈ g_W := w_c3 57 rfl rfl
set_option maxRecDepth 100000 in
theorem w_3_58 : (Cond.methodLink "TracePacks" (167 : Nat) ({ cls := "TracePacks$Block", name := "clear", desc := "()V" } : MethodName)) ∈ g_W := w_c3 58 rfl rfl
set_option maxRecDepth 100000 in
theorem w_3_59 : (Cond.instanceMethod ({ cls := "TracePacks$Block", name := "clear", desc := "()V" } : MethodName)) ∈ g_W := w_c3 59 rfl rfl
set_option maxRecDepth 100000 in
theorem w_3_60 : (Cond.selects "TracePacks$Block" ({ cls := "TracePacks$Block", name := "clear", desc := "()V" } : MethodName) ({ cls := "TracePacks$Block", name := "clear", desc := "()V" } : MethodName)) ∈ g_W := w_c3 60 rfl rfl
set_option maxRecDepth 100000 in
theorem w_3_61 : (Cond.code ({ cls := "TracePacks$Block", name := "clear", desc := "()V" } : MethodName) prog_2_method_3_code (1 : Nat) (Option.none : Option FieldType)) ∈ g_W := w_c3 61 rfl rfl
set_option maxRecDepth 100000 in
theorem w_3_62 : (Cond.methodLink "TracePacks$Block" (36 : Nat) ({ cls := "TracePacks$Ints", name := "shorten", desc := "(I)V" } : MethodName)) ∈ g_W := w_c3 62 rfl rfl
set_option maxRecDepth 100000 in
theorem w_3_63 : (Cond.classLink "TracePacks" (76 : Nat) "java/lang/IllegalStateException") ∈ g_W := w_c3 63 rfl rfl
set_option maxRecDepth 100000 in
theorem w_3_64 : (Cond.instantiable "java/lang/IllegalStateException" (6 : Nat)) ∈ g_W := w_c3 64 rfl rfl
set_option maxRecDepth 100000 in
theorem w_3_66 : (Cond.selects "java/lang/IllegalStateException" ({ cls := "java/lang/Throwable", name := "fillInStackTrace", desc := "(I)Ljava/lang/Throwable;" } : MethodName) ({ cls := "java/lang/Throwable", name := "fillInStackTrace", desc := "(I)Ljava/lang/Throwable;" } : MethodName)) ∈ g_W := w_c3 66 rfl rfl
set_option maxRecDepth 100000 in
theorem w_3_73 : (Cond.methodLink "TracePacks" (80 : Nat) ({ cls := "java/lang/IllegalStateException", name := "<init>", desc := "(Ljava/lang/String;)V" } : MethodName)) ∈ g_W := w_c3 73 rfl rfl
set_option maxRecDepth 100000 in
theorem w_3_74 : (Cond.instanceMethod ({ cls := "java/lang/IllegalStateException", name := "<init>", desc := "(Ljava/lang/String;)V" } : MethodName)) ∈ g_W := w_c3 74 rfl rfl
set_option maxRecDepth 100000 in
theorem w_3_75 : (Cond.code ({ cls := "java/lang/IllegalStateException", name := "<init>", desc := "(Ljava/lang/String;)V" } : MethodName) prog_15_method_2_code (2 : Nat) (Option.none : Option FieldType)) ∈ g_W := w_c3 75 rfl rfl
set_option maxRecDepth 100000 in
theorem w_3_76 : (Cond.methodLink "java/lang/IllegalStateException" (7 : Nat) ({ cls := "java/lang/RuntimeException", name := "<init>", desc := "(Ljava/lang/String;)V" } : MethodName)) ∈ g_W := w_c3 76 rfl rfl
set_option maxRecDepth 100000 in
theorem w_3_79 : (Cond.methodLink "TracePacks" (89 : Nat) ({ cls := "TracePacks$Block", name := "begin", desc := "(II)V" } : MethodName)) ∈ g_W := w_c3 79 rfl rfl
set_option maxRecDepth 100000 in
theorem w_3_80 : (Cond.instanceMethod ({ cls := "TracePacks$Block", name := "begin", desc := "(II)V" } : MethodName)) ∈ g_W := w_c3 80 rfl rfl
set_option maxRecDepth 100000 in
theorem w_3_81 : (Cond.selects "TracePacks$Block" ({ cls := "TracePacks$Block", name := "begin", desc := "(II)V" } : MethodName) ({ cls := "TracePacks$Block", name := "begin", desc := "(II)V" } : MethodName)) ∈ g_W := w_c3 81 rfl rfl
set_option maxRecDepth 100000 in
theorem w_3_82 : (Cond.code ({ cls := "TracePacks$Block", name := "begin", desc := "(II)V" } : MethodName) prog_2_method_2_code (3 : Nat) (Option.none : Option FieldType)) ∈ g_W := w_c3 82 rfl rfl
set_option maxRecDepth 100000 in
theorem w_3_83 : (Cond.methodLink "TracePacks$Block" (26 : Nat) ({ cls := "TracePacks$Block", name := "clear", desc := "()V" } : MethodName)) ∈ g_W := w_c3 83 rfl rfl
set_option maxRecDepth 100000 in
theorem w_3_84 : (Cond.methodLink "TracePacks" (93 : Nat) ({ cls := "TracePacks$Block", name := "add", desc := "(III)Z" } : MethodName)) ∈ g_W := w_c3 84 rfl rfl
set_option maxRecDepth 100000 in
theorem w_3_85 : (Cond.instanceMethod ({ cls := "TracePacks$Block", name := "add", desc := "(III)Z" } : MethodName)) ∈ g_W := w_c3 85 rfl rfl
set_option maxRecDepth 100000 in
theorem w_3_86 : (Cond.selects "TracePacks$Block" ({ cls := "TracePacks$Block", name := "add", desc := "(III)Z" } : MethodName) ({ cls := "TracePacks$Block", name := "add", desc := "(III)Z" } : MethodName)) ∈ g_W := w_c3 86 rfl rfl
set_option maxRecDepth 100000 in
theorem w_3_87 : (Cond.code ({ cls := "TracePacks$Block", name := "add", desc := "(III)Z" } : MethodName) prog_2_method_5_code (4 : Nat) (Option.some FieldType.boolean)) ∈ g_W := w_c3 87 rfl rfl
set_option maxRecDepth 100000 in
theorem w_3_88 : (Cond.methodLink "TracePacks$Block" (43 : Nat) ({ cls := "TracePacks$Ints", name := "add", desc := "(I)Z" } : MethodName)) ∈ g_W := w_c3 88 rfl rfl
set_option maxRecDepth 100000 in
theorem w_3_89 : (Cond.methodLink "TracePacks" (95 : Nat) ({ cls := "TracePacks$Ints", name := "set", desc := "(II)V" } : MethodName)) ∈ g_W := w_c3 89 rfl rfl
set_option maxRecDepth 100000 in
theorem w_3_90 : (Cond.methodLink "TracePacksLaw" (69 : Nat) ({ cls := "TracePacksLaw", name := "mark", desc := "(LTracePacks;[J)I" } : MethodName)) ∈ g_W := w_c3 90 rfl rfl
set_option maxRecDepth 100000 in
theorem w_3_91 : (Cond.static ({ cls := "TracePacksLaw", name := "mark", desc := "(LTracePacks;[J)I" } : MethodName)) ∈ g_W := w_c3 91 rfl rfl
set_option maxRecDepth 100000 in
theorem w_3_92 : (Cond.codeWith ({ cls := "TracePacksLaw", name := "mark", desc := "(LTracePacks;[J)I" } : MethodName) method_5_code (3 : Nat) (Option.some FieldType.int) [((0 : Nat), (8 : Nat), (11 : Nat), (21 : Nat))]) ∈ g_W := w_c3 92 rfl rfl
set_option maxRecDepth 100000 in
theorem w_3_93 : (Cond.methodLink "TracePacksLaw" (23 : Nat) ({ cls := "TracePacks", name := "mark", desc := "()I" } : MethodName)) ∈ g_W := w_c3 93 rfl rfl
set_option maxRecDepth 100000 in
theorem w_3_94 : (Cond.instanceMethod ({ cls := "TracePacks", name := "mark", desc := "()I" } : MethodName)) ∈ g_W := w_c3 94 rfl rfl
set_option maxRecDepth 100000 in
theorem w_3_95 : (Cond.selects "TracePacks" ({ cls := "TracePacks", name := "mark", desc := "()I" } : MethodName) ({ cls := "TracePacks", name := "mark", desc := "()I" } : MethodName)) ∈ g_W := w_c3 95 rfl rfl
set_option maxRecDepth 100000 in
theorem w_3_96 : (Cond.code ({ cls := "TracePacks", name := "mark", desc := "()I" } : MethodName) prog_1_method_4_code (1 : Nat) (Option.some FieldType.int)) ∈ g_W := w_c3 96 rfl rfl
set_option maxRecDepth 100000 in
theorem w_3_97 : (Cond.methodLink "TracePacksLaw" (73 : Nat) ({ cls := "TracePacksLaw", name := "byteAt", desc := "(LTracePacks;I[J)I" } : MethodName)) ∈ g_W := w_c3 97 rfl rfl
set_option maxRecDepth 100000 in
theorem w_3_98 : (Cond.static ({ cls := "TracePacksLaw", name := "byteAt", desc := "(LTracePacks;I[J)I" } : MethodName)) ∈ g_W := w_c3 98 rfl rfl
set_option maxRecDepth 100000 in
theorem w_3_99 : (Cond.codeWith ({ cls := "TracePacksLaw", name := "byteAt", desc := "(LTracePacks;I[J)I" } : MethodName) method_6_code (4 : Nat) (Option.some FieldType.int) [((0 : Nat), (9 : Nat), (12 : Nat), (13 : Nat))]) ∈ g_W := w_c3 99 rfl rfl
set_option maxRecDepth 100000 in
theorem w_3_100 : (Cond.methodLink "TracePacksLaw" (27 : Nat) ({ cls := "TracePacks", name := "byteAt", desc := "(I)I" } : MethodName)) ∈ g_W := w_c3 100 rfl rfl
set_option maxRecDepth 100000 in
theorem w_3_101 : (Cond.instanceMethod ({ cls := "TracePacks", name := "byteAt", desc := "(I)I" } : MethodName)) ∈ g_W := w_c3 101 rfl rfl
set_option maxRecDepth 100000 in
theorem w_3_102 : (Cond.selects "TracePacks" ({ cls := "TracePacks", name := "byteAt", desc := "(I)I" } : MethodName) ({ cls := "TracePacks", name := "byteAt", desc := "(I)I" } : MethodName)) ∈ g_W := w_c3 102 rfl rfl
set_option maxRecDepth 100000 in
theorem w_3_103 : (Cond.code ({ cls := "TracePacks", name := "byteAt", desc := "(I)I" } : MethodName) prog_1_method_5_code (2 : Nat) (Option.some FieldType.int)) ∈ g_W := w_c3 103 rfl rfl
set_option maxRecDepth 100000 in
theorem w_3_104 : (Cond.methodLink "TracePacks" (102 : Nat) ({ cls := "TracePacks$Ints", name := "has", desc := "(I)Z" } : MethodName)) ∈ g_W := w_c3 104 rfl rfl
set_option maxRecDepth 100000 in
theorem w_3_105 : (Cond.instanceMethod ({ cls := "TracePacks$Ints", name := "has", desc := "(I)Z" } : MethodName)) ∈ g_W := w_c3 105 rfl rfl
set_option maxRecDepth 100000 in
theorem w_3_106 : (Cond.selects "TracePacks$Ints" ({ cls := "TracePacks$Ints", name := "has", desc := "(I)Z" } : MethodName) ({ cls := "TracePacks$Ints", name := "has", desc := "(I)Z" } : MethodName)) ∈ g_W := w_c3 106 rfl rfl
set_option maxRecDepth 100000 in
theorem w_3_107 : (Cond.code ({ cls := "TracePacks$Ints", name := "has", desc := "(I)Z" } : MethodName) prog_3_method_3_code (2 : Nat) (Option.some FieldType.boolean)) ∈ g_W := w_c3 107 rfl rfl
set_option maxRecDepth 100000 in
theorem w_3_109 : (Cond.methodLink "TracePacksLaw" (76 : Nat) ({ cls := "TracePacksLaw", name := "flip", desc := "(LTracePacks;II[J)I" } : MethodName)) ∈ g_W := w_c3 109 rfl rfl
set_option maxRecDepth 100000 in
theorem w_3_110 : (Cond.static ({ cls := "TracePacksLaw", name := "flip", desc := "(LTracePacks;II[J)I" } : MethodName)) ∈ g_W := w_c3 110 rfl rfl
set_option maxRecDepth 100000 in
theorem w_3_111 : (Cond.codeWith ({ cls := "TracePacksLaw", name := "flip", desc := "(LTracePacks;II[J)I" } : MethodName) method_7_code (5 : Nat) (Option.some FieldType.int) [((0 : Nat), (10 : Nat), (13 : Nat), (13 : Nat)), ((0 : Nat), (10 : Nat), (17 : Nat), (19 : Nat))]) ∈ g_W := w_c3 111 rfl rfl
set_option maxRecDepth 100000 in
theorem w_3_112 : (Cond.methodLink "TracePacksLaw" (30 : Nat) ({ cls := "TracePacks", name := "flip", desc := "(II)I" } : MethodName)) ∈ g_W := w_c3 112 rfl rfl
set_option maxRecDepth 100000 in
theorem w_3_113 : (Cond.instanceMethod ({ cls := "TracePacks", name := "flip", desc := "(II)I" } : MethodName)) ∈ g_W := w_c3 113 rfl rfl
set_option maxRecDepth 100000 in
theorem w_3_114 : (Cond.selects "TracePacks" ({ cls := "TracePacks", name := "flip", desc := "(II)I" } : MethodName) ({ cls := "TracePacks", name := "flip", desc := "(II)I" } : MethodName)) ∈ g_W := w_c3 114 rfl rfl
set_option maxRecDepth 100000 in
theorem w_3_115 : (Cond.code ({ cls := "TracePacks", name := "flip", desc := "(II)I" } : MethodName) prog_1_method_6_code (3 : Nat) (Option.some FieldType.int)) ∈ g_W := w_c3 115 rfl rfl
set_option maxRecDepth 100000 in
theorem w_3_117 : (Cond.methodLink "TracePacksLaw" (80 : Nat) ({ cls := "TracePacksLaw", name := "put", desc := "(LTracePacks;I[J)I" } : MethodName)) ∈ g_W := w_c3 117 rfl rfl
set_option maxRecDepth 100000 in
theorem w_3_118 : (Cond.static ({ cls := "TracePacksLaw", name := "put", desc := "(LTracePacks;I[J)I" } : MethodName)) ∈ g_W := w_c3 118 rfl rfl
set_option maxRecDepth 100000 in
theorem w_3_119 : (Cond.codeWith ({ cls := "TracePacksLaw", name := "put", desc := "(LTracePacks;I[J)I" } : MethodName) method_8_code (4 : Nat) (Option.some FieldType.int) [((0 : Nat), (9 : Nat), (12 : Nat), (19 : Nat)), ((0 : Nat), (9 : Nat), (15 : Nat), (21 : Nat))]) ∈ g_W := w_c3 119 rfl rfl
set_option maxRecDepth 100000 in
theorem w_3_120 : (Cond.methodLink "TracePacksLaw" (34 : Nat) ({ cls := "TracePacks", name := "put", desc := "(I)I" } : MethodName)) ∈ g_W := w_c3 120 rfl rfl
set_option maxRecDepth 100000 in
theorem w_3_121 : (Cond.instanceMethod ({ cls := "TracePacks", name := "put", desc := "(I)I" } : MethodName)) ∈ g_W := w_c3 121 rfl rfl
set_option maxRecDepth 100000 in
theorem w_3_122 : (Cond.selects "TracePacks" ({ cls := "TracePacks", name := "put", desc := "(I)I" } : MethodName) ({ cls := "TracePacks", name := "put", desc := "(I)I" } : MethodName)) ∈ g_W := w_c3 122 rfl rfl
set_option maxRecDepth 100000 in
theorem w_3_123 : (Cond.code ({ cls := "TracePacks", name := "put", desc := "(I)I" } : MethodName) prog_1_method_7_code (2 : Nat) (Option.some FieldType.int)) ∈ g_W := w_c3 123 rfl rfl
set_option maxRecDepth 100000 in
theorem w_3_126 : (Cond.methodLink "TracePacksLaw" (83 : Nat) ({ cls := "TracePacksLaw", name := "cut", desc := "(LTracePacks;I[J)I" } : MethodName)) ∈ g_W := w_c3 126 rfl rfl
set_option maxRecDepth 100000 in
theorem w_3_127 : (Cond.static ({ cls := "TracePacksLaw", name := "cut", desc := "(LTracePacks;I[J)I" } : MethodName)) ∈ g_W := w_c3 127 rfl rfl
set_option maxRecDepth 100000 in
theorem w_3_128 : (Cond.codeWith ({ cls := "TracePacksLaw", name := "cut", desc := "(LTracePacks;I[J)I" } : MethodName) method_9_code (4 : Nat) (Option.some FieldType.int) [((0 : Nat), (9 : Nat), (12 : Nat), (19 : Nat))]) ∈ g_W := w_c3 128 rfl rfl
set_option maxRecDepth 100000 in
theorem w_3_129 : (Cond.methodLink "TracePacksLaw" (37 : Nat) ({ cls := "TracePacks", name := "cut", desc := "(I)I" } : MethodName)) ∈ g_W := w_c3 129 rfl rfl
set_option maxRecDepth 100000 in
theorem w_3_130 : (Cond.instanceMethod ({ cls := "TracePacks", name := "cut", desc := "(I)I" } : MethodName)) ∈ g_W := w_c3 130 rfl rfl
set_option maxRecDepth 100000 in
theorem w_3_131 : (Cond.selects "TracePacks" ({ cls := "TracePacks", name := "cut", desc := "(I)I" } : MethodName) ({ cls := "TracePacks", name := "cut", desc := "(I)I" } : MethodName)) ∈ g_W := w_c3 131 rfl rfl
set_option maxRecDepth 100000 in
theorem w_3_132 : (Cond.code ({ cls := "TracePacks", name := "cut", desc := "(I)I" } : MethodName) prog_1_method_8_code (3 : Nat) (Option.some FieldType.int)) ∈ g_W := w_c3 132 rfl rfl
set_option maxRecDepth 100000 in
theorem w_3_134 : (Cond.methodLink "TracePacks" (115 : Nat) ({ cls := "TracePacks$Ints", name := "shorten", desc := "(I)V" } : MethodName)) ∈ g_W := w_c3 134 rfl rfl
set_option maxRecDepth 100000 in
theorem w_3_135 : (Cond.methodLink "TracePacksLaw" (86 : Nat) ({ cls := "TracePacksLaw", name := "choose", desc := "(LTracePacks;II[J)I" } : MethodName)) ∈ g_W := w_c3 135 rfl rfl
set_option maxRecDepth 100000 in
theorem w_3_136 : (Cond.static ({ cls := "TracePacksLaw", name := "choose", desc := "(LTracePacks;II[J)I" } : MethodName)) ∈ g_W := w_c3 136 rfl rfl
set_option maxRecDepth 100000 in
theorem w_3_137 : (Cond.codeWith ({ cls := "TracePacksLaw", name := "choose", desc := "(LTracePacks;II[J)I" } : MethodName) method_10_code (5 : Nat) (Option.some FieldType.int) [((0 : Nat), (10 : Nat), (13 : Nat), (19 : Nat))]) ∈ g_W := w_c3 137 rfl rfl
set_option maxRecDepth 100000 in
theorem w_3_138 : (Cond.methodLink "TracePacksLaw" (40 : Nat) ({ cls := "TracePacks", name := "choose", desc := "(II)I" } : MethodName)) ∈ g_W := w_c3 138 rfl rfl
set_option maxRecDepth 100000 in
theorem w_3_139 : (Cond.instanceMethod ({ cls := "TracePacks", name := "choose", desc := "(II)I" } : MethodName)) ∈ g_W := w_c3 139 rfl rfl
set_option maxRecDepth 100000 in
theorem w_3_140 : (Cond.selects "TracePacks" ({ cls := "TracePacks", name := "choose", desc := "(II)I" } : MethodName) ({ cls := "TracePacks", name := "choose", desc := "(II)I" } : MethodName)) ∈ g_W := w_c3 140 rfl rfl
set_option maxRecDepth 100000 in
theorem w_3_141 : (Cond.code ({ cls := "TracePacks", name := "choose", desc := "(II)I" } : MethodName) prog_1_method_9_code (4 : Nat) (Option.some FieldType.int)) ∈ g_W := w_c3 141 rfl rfl
set_option maxRecDepth 100000 in
theorem w_3_143 : (Cond.methodLink "TracePacksLaw" (89 : Nat) ({ cls := "TracePacksLaw", name := "read", desc := "(LTracePacks;I[J)I" } : MethodName)) ∈ g_W := w_c3 143 rfl rfl
set_option maxRecDepth 100000 in
theorem w_3_144 : (Cond.static ({ cls := "TracePacksLaw", name := "read", desc := "(LTracePacks;I[J)I" } : MethodName)) ∈ g_W := w_c3 144 rfl rfl
set_option maxRecDepth 100000 in
theorem w_3_145 : (Cond.codeWith ({ cls := "TracePacksLaw", name := "read", desc := "(LTracePacks;I[J)I" } : MethodName) method_11_code (4 : Nat) (Option.some FieldType.int) [((0 : Nat), (9 : Nat), (12 : Nat), (13 : Nat))]) ∈ g_W := w_c3 145 rfl rfl
set_option maxRecDepth 100000 in
theorem w_3_146 : (Cond.methodLink "TracePacksLaw" (43 : Nat) ({ cls := "TracePacks", name := "read", desc := "(I)I" } : MethodName)) ∈ g_W := w_c3 146 rfl rfl
set_option maxRecDepth 100000 in
theorem w_3_147 : (Cond.instanceMethod ({ cls := "TracePacks", name := "read", desc := "(I)I" } : MethodName)) ∈ g_W := w_c3 147 rfl rfl
set_option maxRecDepth 100000 in
theorem w_3_148 : (Cond.selects "TracePacks" ({ cls := "TracePacks", name := "read", desc := "(I)I" } : MethodName) ({ cls := "TracePacks", name := "read", desc := "(I)I" } : MethodName)) ∈ g_W := w_c3 148 rfl rfl
set_option maxRecDepth 100000 in
theorem w_3_149 : (Cond.code ({ cls := "TracePacks", name := "read", desc := "(I)I" } : MethodName) prog_1_method_10_code (2 : Nat) (Option.some FieldType.int)) ∈ g_W := w_c3 149 rfl rfl
set_option maxRecDepth 100000 in
theorem w_3_151 : (Cond.methodLink "TracePacks" (122 : Nat) ({ cls := "TracePacks$Reader", name := "readFrom", desc := "(LTracePacks$Ints;II)V" } : MethodName)) ∈ g_W := w_c3 151 rfl rfl
set_option maxRecDepth 100000 in
theorem w_3_152 : (Cond.instanceMethod ({ cls := "TracePacks$Reader", name := "readFrom", desc := "(LTracePacks$Ints;II)V" } : MethodName)) ∈ g_W := w_c3 152 rfl rfl
set_option maxRecDepth 100000 in
theorem w_3_153 : (Cond.selects "TracePacks$Reader" ({ cls := "TracePacks$Reader", name := "readFrom", desc := "(LTracePacks$Ints;II)V" } : MethodName) ({ cls := "TracePacks$Reader", name := "readFrom", desc := "(LTracePacks$Ints;II)V" } : MethodName)) ∈ g_W := w_c3 153 rfl rfl
set_option maxRecDepth 100000 in
theorem w_3_154 : (Cond.code ({ cls := "TracePacks$Reader", name := "readFrom", desc := "(LTracePacks$Ints;II)V" } : MethodName) prog_9_method_2_code (7 : Nat) (Option.none : Option FieldType)) ∈ g_W := w_c3 154 rfl rfl
set_option maxRecDepth 100000 in
theorem w_3_155 : (Cond.methodLink "TracePacks$Reader" (25 : Nat) ({ cls := "TracePacks$Reader", name := "clear", desc := "()V" } : MethodName)) ∈ g_W := w_c3 155 rfl rfl
set_option maxRecDepth 100000 in
theorem w_3_157 : (Cond.instanceMethod ({ cls := "TracePacks$Reader", name := "clear", desc := "()V" } : MethodName)) ∈ g_W := w_c3 157 rfl rfl
set_option maxRecDepth 100000 in
theorem w_3_158 : (Cond.code ({ cls := "TracePacks$Reader", name := "clear", desc := "()V" } : MethodName) prog_9_method_8_code (1 : Nat) (Option.none : Option FieldType)) ∈ g_W := w_c3 158 rfl rfl
set_option maxRecDepth 100000 in
theorem w_3_159 : (Cond.methodLink "TracePacks$Reader" (67 : Nat) ({ cls := "TracePacks$Kept", name := "clear", desc := "()V" } : MethodName)) ∈ g_W := w_c3 159 rfl rfl
set_option maxRecDepth 100000 in
theorem w_3_160 : (Cond.instanceMethod ({ cls := "TracePacks$Kept", name := "clear", desc := "()V" } : MethodName)) ∈ g_W := w_c3 160 rfl rfl
set_option maxRecDepth 100000 in
theorem w_3_161 : (Cond.selects "TracePacks$Kept" ({ cls := "TracePacks$Kept", name := "clear", desc := "()V" } : MethodName) ({ cls := "TracePacks$Kept", name := "clear", desc := "()V" } : MethodName)) ∈ g_W := w_c3 161 rfl rfl
set_option maxRecDepth 100000 in
theorem w_3_162 : (Cond.code ({ cls := "TracePacks$Kept", name := "clear", desc := "()V" } : MethodName) prog_4_method_2_code (1 : Nat) (Option.none : Option FieldType)) ∈ g_W := w_c3 162 rfl rfl
set_option maxRecDepth 100000 in
theorem w_3_163 : (Cond.methodLink "TracePacks$Kept" (41 : Nat) ({ cls := "TracePacks$Ints", name := "shorten", desc := "(I)V" } : MethodName)) ∈ g_W := w_c3 163 rfl rfl
set_option maxRecDepth 100000 in
theorem w_3_164 : (Cond.methodLink "TracePacks$Reader" (28 : Nat) ({ cls := "TracePacks$Reader", name := "firstMark", desc := "(LTracePacks$Ints;I)I" } : MethodName)) ∈ g_W := w_c3 164 rfl rfl
set_option maxRecDepth 100000 in
theorem w_3_165 : (Cond.static ({ cls := "TracePacks$Reader", name := "firstMark", desc := "(LTracePacks$Ints;I)I" } : MethodName)) ∈ g_W := w_c3 165 rfl rfl
set_option maxRecDepth 100000 in
theorem w_3_166 : (Cond.code ({ cls := "TracePacks$Reader", name := "firstMark", desc := "(LTracePacks$Ints;I)I" } : MethodName) prog_9_method_9_code (3 : Nat) (Option.some FieldType.int)) ∈ g_W := w_c3 166 rfl rfl
set_option maxRecDepth 100000 in
theorem w_3_167 : (Cond.methodLink "TracePacks$Reader" (36 : Nat) ({ cls := "TracePacks$Ints", name := "size", desc := "()I" } : MethodName)) ∈ g_W := w_c3 167 rfl rfl
set_option maxRecDepth 100000 in
theorem w_3_168 : (Cond.methodLink "TracePacks$Reader" (42 : Nat) ({ cls := "TracePacks$Ints", name := "at", desc := "(I)I" } : MethodName)) ∈ g_W := w_c3 168 rfl rfl
set_option maxRecDepth 100000 in
theorem w_3_169 : (Cond.methodLink "TracePacks$Reader" (46 : Nat) ({ cls := "TracePacks$Unpacker", name := "unpack", desc := "(LTracePacks$Ints;II)Z" } : MethodName)) ∈ g_W := w_c3 169 rfl rfl
set_option maxRecDepth 100000 in
theorem w_3_170 : (Cond.instanceMethod ({ cls := "TracePacks$Unpacker", name := "unpack", desc := "(LTracePacks$Ints;II)Z" } : MethodName)) ∈ g_W := w_c3 170 rfl rfl
set_option maxRecDepth 100000 in
theorem w_3_171 : (Cond.selects "TracePacks$Unpacker" ({ cls := "TracePacks$Unpacker", name := "unpack", desc := "(LTracePacks$Ints;II)Z" } : MethodName) ({ cls := "TracePacks$Unpacker", name := "unpack", desc := "(LTracePacks$Ints;II)Z" } : MethodName)) ∈ g_W := w_c3 171 rfl rfl
set_option maxRecDepth 100000 in
theorem w_3_172 : (Cond.code ({ cls := "TracePacks$Unpacker", name := "unpack", desc := "(LTracePacks$Ints;II)Z" } : MethodName) prog_10_method_3_code (6 : Nat) (Option.some FieldType.boolean)) ∈ g_W := w_c3 172 rfl rfl
set_option maxRecDepth 100000 in
theorem w_3_173 : (Cond.methodLink "TracePacks$Unpacker" (34 : Nat) ({ cls := "TracePacks$Unpacker", name := "unshield", desc := "(LTracePacks$Ints;II)Z" } : MethodName)) ∈ g_W := w_c3 173 rfl rfl
set_option maxRecDepth 100000 in
theorem w_3_175 : (Cond.instanceMethod ({ cls := "TracePacks$Unpacker", name := "unshield", desc := "(LTracePacks$Ints;II)Z" } : MethodName)) ∈ g_W := w_c3 175 rfl rfl
set_option maxRecDepth 100000 in
theorem w_3_176 : (Cond.code ({ cls := "TracePacks$Unpacker", name := "unshield", desc := "(LTracePacks$Ints;II)Z" } : MethodName) prog_10_method_4_code (7 : Nat) (Option.some FieldType.boolean)) ∈ g_W := w_c3 176 rfl rfl
set_option maxRecDepth 100000 in
theorem w_3_177 : (Cond.methodLink "TracePacks$Unpacker" (65 : Nat) ({ cls := "TracePacks$Ints", name := "shorten", desc := "(I)V" } : MethodName)) ∈ g_W := w_c3 177 rfl rfl
set_option maxRecDepth 100000 in
theorem w_3_178 : (Cond.methodLink "TracePacks$Unpacker" (45 : Nat) ({ cls := "TracePacks$Ints", name := "at", desc := "(I)I" } : MethodName)) ∈ g_W := w_c3 178 rfl rfl
set_option maxRecDepth 100000 in
theorem w_3_179 : (Cond.methodLink "TracePacks$Unpacker" (68 : Nat) ({ cls := "TracePacks$Unpacker", name := "unshielded", desc := "(I)I" } : MethodName)) ∈ g_W := w_c3 179 rfl rfl
set_option maxRecDepth 100000 in
theorem w_3_180 : (Cond.static ({ cls := "TracePacks$Unpacker", name := "unshielded", desc := "(I)I" } : MethodName)) ∈ g_W := w_c3 180 rfl rfl
set_option maxRecDepth 100000 in
theorem w_3_181 : (Cond.code ({ cls := "TracePacks$Unpacker", name := "unshielded", desc := "(I)I" } : MethodName) prog_10_method_5_code (1 : Nat) (Option.some FieldType.int)) ∈ g_W := w_c3 181 rfl rfl
set_option maxRecDepth 100000 in
theorem w_3_182 : (Cond.methodLink "TracePacks$Unpacker" (71 : Nat) ({ cls := "TracePacks$Ints", name := "add", desc := "(I)Z" } : MethodName)) ∈ g_W := w_c3 182 rfl rfl
set_option maxRecDepth 100000 in
theorem w_3_183 : (Cond.methodLink "TracePacks$Unpacker" (38 : Nat) ({ cls := "TracePacks$Unpacker", name := "takeSum", desc := "()Z" } : MethodName)) ∈ g_W := w_c3 183 rfl rfl
set_option maxRecDepth 100000 in
theorem w_3_185 : (Cond.instanceMethod ({ cls := "TracePacks$Unpacker", name := "takeSum", desc := "()Z" } : MethodName)) ∈ g_W := w_c3 185 rfl rfl
set_option maxRecDepth 100000 in
theorem w_3_186 : (Cond.code ({ cls := "TracePacks$Unpacker", name := "takeSum", desc := "()Z" } : MethodName) prog_10_method_6_code (3 : Nat) (Option.some FieldType.boolean)) ∈ g_W := w_c3 186 rfl rfl
set_option maxRecDepth 100000 in
theorem w_3_187 : (Cond.methodLink "TracePacks$Unpacker" (64 : Nat) ({ cls := "TracePacks$Ints", name := "size", desc := "()I" } : MethodName)) ∈ g_W := w_c3 187 rfl rfl
set_option maxRecDepth 100000 in
theorem w_3_188 : (Cond.methodLinkNest "TracePacks$Unpacker" (74 : Nat) ({ cls := "TracePacks", name := "sumOf", desc := "(LTracePacks$Ints;I)I" } : MethodName) "TracePacks") ∈ g_W := w_c3 188 rfl rfl
set_option maxRecDepth 100000 in
theorem w_3_189 : (Cond.methodLink "TracePacks$Unpacker" (42 : Nat) ({ cls := "TracePacks$Unpacker", name := "takeHead", desc := "()Z" } : MethodName)) ∈ g_W := w_c3 189 rfl rfl
set_option maxRecDepth 100000 in
theorem w_3_191 : (Cond.instanceMethod ({ cls := "TracePacks$Unpacker", name := "takeHead", desc := "()Z" } : MethodName)) ∈ g_W := w_c3 191 rfl rfl
set_option maxRecDepth 100000 in
theorem w_3_192 : (Cond.code ({ cls := "TracePacks$Unpacker", name := "takeHead", desc := "()Z" } : MethodName) prog_10_method_7_code (5 : Nat) (Option.some FieldType.boolean)) ∈ g_W := w_c3 192 rfl rfl
set_option maxRecDepth 100000 in
theorem w_3_193 : (Cond.methodLink "TracePacks$Unpacker" (78 : Nat) ({ cls := "TracePacks$Unpacker", name := "takeWord", desc := "()J" } : MethodName)) ∈ g_W := w_c3 193 rfl rfl
set_option maxRecDepth 100000 in
theorem w_3_195 : (Cond.instanceMethod ({ cls := "TracePacks$Unpacker", name := "takeWord", desc := "()J" } : MethodName)) ∈ g_W := w_c3 195 rfl rfl
set_option maxRecDepth 100000 in
theorem w_3_196 : (Cond.code ({ cls := "TracePacks$Unpacker", name := "takeWord", desc := "()J" } : MethodName) prog_10_method_17_code (4 : Nat) (Option.some FieldType.long)) ∈ g_W := w_c3 196 rfl rfl
set_option maxRecDepth 100000 in
theorem w_3_197 : (Cond.constantLong "TracePacks$Unpacker" (82 : Nat) (-1 : Int64)) ∈ g_W := w_c3 197 rfl rfl
set_option maxRecDepth 100000 in
theorem w_3_198 : (Cond.constantLong "TracePacks$Unpacker" (84 : Nat) (2147483647 : Int64)) ∈ g_W := w_c3 198 rfl rfl
set_option maxRecDepth 100000 in
theorem w_3_199 : (Cond.methodLink "TracePacks$Unpacker" (86 : Nat) ({ cls := "TracePacks$Block", name := "begin", desc := "(II)V" } : MethodName)) ∈ g_W := w_c3 199 rfl rfl
set_option maxRecDepth 100000 in
theorem w_3_200 : (Cond.methodLink "TracePacks$Unpacker" (90 : Nat) ({ cls := "TracePacks$Memory", name := "begin", desc := "(I)V" } : MethodName)) ∈ g_W := w_c3 200 rfl rfl
set_option maxRecDepth 100000 in
theorem w_3_201 : (Cond.methodLink "TracePacks$Unpacker" (53 : Nat) ({ cls := "TracePacks$Ints", name := "has", desc := "(I)Z" } : MethodName)) ∈ g_W := w_c3 201 rfl rfl
set_option maxRecDepth 100000 in
theorem w_3_202 : (Cond.methodLink "TracePacks$Unpacker" (57 : Nat) ({ cls := "TracePacks$Unpacker", name := "takeRow", desc := "()Z" } : MethodName)) ∈ g_W := w_c3 202 rfl rfl
set_option maxRecDepth 100000 in
theorem w_3_204 : (Cond.instanceMethod ({ cls := "TracePacks$Unpacker", name := "takeRow", desc := "()Z" } : MethodName)) ∈ g_W := w_c3 204 rfl rfl
set_option maxRecDepth 100000 in
theorem w_3_205 : (Cond.code ({ cls := "TracePacks$Unpacker", name := "takeRow", desc := "()Z" } : MethodName) prog_10_method_8_code (6 : Nat) (Option.some FieldType.boolean)) ∈ g_W := w_c3 205 rfl rfl
set_option maxRecDepth 100000 in
theorem w_3_206 : (Cond.methodLink "TracePacks$Unpacker" (92 : Nat) ({ cls := "TracePacks$Unpacker", name := "isNumberBehind", desc := "(II)Z" } : MethodName)) ∈ g_W := w_c3 206 rfl rfl
set_option maxRecDepth 100000 in
theorem w_3_207 : (Cond.static ({ cls := "TracePacks$Unpacker", name := "isNumberBehind", desc := "(II)Z" } : MethodName)) ∈ g_W := w_c3 207 rfl rfl
set_option maxRecDepth 100000 in
theorem w_3_208 : (Cond.code ({ cls := "TracePacks$Unpacker", name := "isNumberBehind", desc := "(II)Z" } : MethodName) prog_10_method_9_code (2 : Nat) (Option.some FieldType.boolean)) ∈ g_W := w_c3 208 rfl rfl
set_option maxRecDepth 100000 in
theorem w_3_209 : (Cond.methodLink "TracePacks$Unpacker" (96 : Nat) ({ cls := "TracePacks$Unpacker", name := "takeNumber", desc := "()J" } : MethodName)) ∈ g_W := w_c3 209 rfl rfl
set_option maxRecDepth 100000 in
theorem w_3_211 : (Cond.instanceMethod ({ cls := "TracePacks$Unpacker", name := "takeNumber", desc := "()J" } : MethodName)) ∈ g_W := w_c3 211 rfl rfl
set_option maxRecDepth 100000 in
theorem w_3_212 : (Cond.code ({ cls := "TracePacks$Unpacker", name := "takeNumber", desc := "()J" } : MethodName) prog_10_method_15_code (5 : Nat) (Option.some FieldType.long)) ∈ g_W := w_c3 212 rfl rfl
set_option maxRecDepth 100000 in
theorem w_3_213 : (Cond.methodLink "TracePacks$Unpacker" (162 : Nat) ({ cls := "TracePacks$Unpacker", name := "isLastOfNumber", desc := "(II)Z" } : MethodName)) ∈ g_W := w_c3 213 rfl rfl
set_option maxRecDepth 100000 in
theorem w_3_214 : (Cond.static ({ cls := "TracePacks$Unpacker", name := "isLastOfNumber", desc := "(II)Z" } : MethodName)) ∈ g_W := w_c3 214 rfl rfl
set_option maxRecDepth 100000 in
theorem w_3_215 : (Cond.code ({ cls := "TracePacks$Unpacker", name := "isLastOfNumber", desc := "(II)Z" } : MethodName) prog_10_method_16_code (2 : Nat) (Option.some FieldType.boolean)) ∈ g_W := w_c3 215 rfl rfl
set_option maxRecDepth 100000 in
theorem w_3_216 : (Cond.methodLink "TracePacks$Unpacker" (99 : Nat) ({ cls := "TracePacks$Unpacker", name := "takeBranches", desc := "(I)Z" } : MethodName)) ∈ g_W := w_c3 216 rfl rfl
set_option maxRecDepth 100000 in
theorem w_3_218 : (Cond.instanceMethod ({ cls := "TracePacks$Unpacker", name := "takeBranches", desc := "(I)Z" } : MethodName)) ∈ g_W := w_c3 218 rfl rfl
set_option maxRecDepth 100000 in
theorem w_3_219 : (Cond.code ({ cls := "TracePacks$Unpacker", name := "takeBranches", desc := "(I)Z" } : MethodName) prog_10_method_10_code (5 : Nat) (Option.some FieldType.boolean)) ∈ g_W := w_c3 219 rfl rfl
set_option maxRecDepth 100000 in
theorem w_3_220 : (Cond.methodLink "TracePacks$Unpacker" (116 : Nat) ({ cls := "TracePacks$Block", name := "add", desc := "(III)Z" } : MethodName)) ∈ g_W := w_c3 220 rfl rfl
set_option maxRecDepth 100000 in
theorem w_3_221 : (Cond.methodLink "TracePacks$Unpacker" (102 : Nat) ({ cls := "TracePacks$Unpacker", name := "takeJump", desc := "(J)Z" } : MethodName)) ∈ g_W := w_c3 221 rfl rfl
set_option maxRecDepth 100000 in
theorem w_3_223 : (Cond.instanceMethod ({ cls := "TracePacks$Unpacker", name := "takeJump", desc := "(J)Z" } : MethodName)) ∈ g_W := w_c3 223 rfl rfl
set_option maxRecDepth 100000 in
theorem w_3_224 : (Cond.code ({ cls := "TracePacks$Unpacker", name := "takeJump", desc := "(J)Z" } : MethodName) prog_10_method_11_code (3 : Nat) (Option.some FieldType.boolean)) ∈ g_W := w_c3 224 rfl rfl
set_option maxRecDepth 100000 in
theorem w_3_225 : (Cond.methodLinkNest "TracePacks$Unpacker" (122 : Nat) ({ cls := "TracePacks", name := "differenceOf", desc := "(J)I" } : MethodName) "TracePacks") ∈ g_W := w_c3 225 rfl rfl
set_option maxRecDepth 100000 in
theorem w_3_226 : (Cond.static ({ cls := "TracePacks", name := "differenceOf", desc := "(J)I" } : MethodName)) ∈ g_W := w_c3 226 rfl rfl
set_option maxRecDepth 100000 in
theorem w_3_227 : (Cond.code ({ cls := "TracePacks", name := "differenceOf", desc := "(J)I" } : MethodName) prog_1_method_18_code (2 : Nat) (Option.some FieldType.int)) ∈ g_W := w_c3 227 rfl rfl
set_option maxRecDepth 100000 in
theorem w_3_228 : (Cond.methodLink "TracePacks$Unpacker" (106 : Nat) ({ cls := "TracePacks$Unpacker", name := "takeLoad", desc := "(IJ)Z" } : MethodName)) ∈ g_W := w_c3 228 rfl rfl
set_option maxRecDepth 100000 in
theorem w_3_230 : (Cond.instanceMethod ({ cls := "TracePacks$Unpacker", name := "takeLoad", desc := "(IJ)Z" } : MethodName)) ∈ g_W := w_c3 230 rfl rfl
set_option maxRecDepth 100000 in
theorem w_3_231 : (Cond.code ({ cls := "TracePacks$Unpacker", name := "takeLoad", desc := "(IJ)Z" } : MethodName) prog_10_method_12_code (5 : Nat) (Option.some FieldType.boolean)) ∈ g_W := w_c3 231 rfl rfl
set_option maxRecDepth 100000 in
theorem w_3_232 : (Cond.methodLink "TracePacks$Unpacker" (130 : Nat) ({ cls := "TracePacks$Places", name := "after", desc := "(I)I" } : MethodName)) ∈ g_W := w_c3 232 rfl rfl
set_option maxRecDepth 100000 in
theorem w_3_233 : (Cond.instanceMethod ({ cls := "TracePacks$Places", name := "after", desc := "(I)I" } : MethodName)) ∈ g_W := w_c3 233 rfl rfl
set_option maxRecDepth 100000 in
theorem w_3_234 : (Cond.selects "TracePacks$Places" ({ cls := "TracePacks$Places", name := "after", desc := "(I)I" } : MethodName) ({ cls := "TracePacks$Places", name := "after", desc := "(I)I" } : MethodName)) ∈ g_W := w_c3 234 rfl rfl
set_option maxRecDepth 100000 in
theorem w_3_235 : (Cond.code ({ cls := "TracePacks$Places", name := "after", desc := "(I)I" } : MethodName) prog_8_method_3_code (2 : Nat) (Option.some FieldType.int)) ∈ g_W := w_c3 235 rfl rfl
set_option maxRecDepth 100000 in
theorem w_3_236 : (Cond.methodLink "TracePacks$Unpacker" (135 : Nat) ({ cls := "TracePacks$Places", name := "expected", desc := "()I" } : MethodName)) ∈ g_W := w_c3 236 rfl rfl
set_option maxRecDepth 100000 in
theorem w_3_237 : (Cond.methodLink "TracePacks$Unpacker" (138 : Nat) ({ cls := "TracePacks$Places", name := "goTo", desc := "(I)V" } : MethodName)) ∈ g_W := w_c3 237 rfl rfl
set_option maxRecDepth 100000 in
theorem w_3_238 : (Cond.methodLink "TracePacks$Unpacker" (141 : Nat) ({ cls := "TracePacks$Places", name := "last", desc := "()I" } : MethodName)) ∈ g_W := w_c3 238 rfl rfl
set_option maxRecDepth 100000 in
theorem w_3_239 : (Cond.instanceMethod ({ cls := "TracePacks$Places", name := "last", desc := "()I" } : MethodName)) ∈ g_W := w_c3 239 rfl rfl
set_option maxRecDepth 100000 in
theorem w_4_0 : (Cond.selects "TracePacks$Places" ({ cls := "TracePacks$Places", name := "last", desc := "()I" } : MethodName) ({ cls := "TracePacks$Places", name := "last", desc := "()I" } : MethodName)) ∈ g_W := w_c4 0 rfl rfl
set_option maxRecDepth 100000 in
theorem w_4_1 : (Cond.code ({ cls := "TracePacks$Places", name := "last", desc := "()I" } : MethodName) prog_8_method_5_code (1 : Nat) (Option.some FieldType.int)) ∈ g_W := w_c4 1 rfl rfl
set_option maxRecDepth 100000 in
theorem w_4_2 : (Cond.methodLink "TracePacks$Unpacker" (110 : Nat) ({ cls := "TracePacks$Unpacker", name := "takeStore", desc := "(IJ)Z" } : MethodName)) ∈ g_W := w_c4 2 rfl rfl
set_option maxRecDepth 100000 in
theorem w_4_4 : (Cond.instanceMethod ({ cls := "TracePacks$Unpacker", name := "takeStore", desc := "(IJ)Z" } : MethodName)) ∈ g_W := w_c4 4 rfl rfl
set_option maxRecDepth 100000 in
theorem w_4_5 : (Cond.code ({ cls := "TracePacks$Unpacker", name := "takeStore", desc := "(IJ)Z" } : MethodName) prog_10_method_13_code (9 : Nat) (Option.some FieldType.boolean)) ∈ g_W := w_c4 5 rfl rfl
set_option maxRecDepth 100000 in
theorem w_4_6 : (Cond.methodLink "TracePacks$Unpacker" (148 : Nat) ({ cls := "TracePacks$LastValues", name := "at", desc := "(I)I" } : MethodName)) ∈ g_W := w_c4 6 rfl rfl
set_option maxRecDepth 100000 in
theorem w_4_7 : (Cond.instanceMethod ({ cls := "TracePacks$LastValues", name := "at", desc := "(I)I" } : MethodName)) ∈ g_W := w_c4 7 rfl rfl
set_option maxRecDepth 100000 in
theorem w_4_8 : (Cond.selects "TracePacks$LastValues" ({ cls := "TracePacks$LastValues", name := "at", desc := "(I)I" } : MethodName) ({ cls := "TracePacks$LastValues", name := "at", desc := "(I)I" } : MethodName)) ∈ g_W := w_c4 8 rfl rfl
set_option maxRecDepth 100000 in
theorem w_4_9 : (Cond.code ({ cls := "TracePacks$LastValues", name := "at", desc := "(I)I" } : MethodName) prog_5_method_4_code (2 : Nat) (Option.some FieldType.int)) ∈ g_W := w_c4 9 rfl rfl
set_option maxRecDepth 100000 in
theorem w_4_10 : (Cond.methodLink "TracePacks$Unpacker" (151 : Nat) ({ cls := "TracePacks$LastValues", name := "has", desc := "(I)Z" } : MethodName)) ∈ g_W := w_c4 10 rfl rfl
set_option maxRecDepth 100000 in
theorem w_4_11 : (Cond.instanceMethod ({ cls := "TracePacks$LastValues", name := "has", desc := "(I)Z" } : MethodName)) ∈ g_W := w_c4 11 rfl rfl
set_option maxRecDepth 100000 in
theorem w_4_12 : (Cond.selects "TracePacks$LastValues" ({ cls := "TracePacks$LastValues", name := "has", desc := "(I)Z" } : MethodName) ({ cls := "TracePacks$LastValues", name := "has", desc := "(I)Z" } : MethodName)) ∈ g_W := w_c4 12 rfl rfl
set_option maxRecDepth 100000 in
theorem w_4_13 : (Cond.code ({ cls := "TracePacks$LastValues", name := "has", desc := "(I)Z" } : MethodName) prog_5_method_3_code (2 : Nat) (Option.some FieldType.boolean)) ∈ g_W := w_c4 13 rfl rfl
set_option maxRecDepth 100000 in
theorem w_4_14 : (Cond.methodLink "TracePacks$LastValues" (23 : Nat) ({ cls := "TracePacks$Ints", name := "has", desc := "(I)Z" } : MethodName)) ∈ g_W := w_c4 14 rfl rfl
set_option maxRecDepth 100000 in
theorem w_4_15 : (Cond.methodLink "TracePacks$Unpacker" (155 : Nat) ({ cls := "TracePacks$LastValues", name := "use", desc := "(I)V" } : MethodName)) ∈ g_W := w_c4 15 rfl rfl
set_option maxRecDepth 100000 in
theorem w_4_16 : (Cond.methodLink "TracePacks$Unpacker" (113 : Nat) ({ cls := "TracePacks$Unpacker", name := "takeTime", desc := "(J)Z" } : MethodName)) ∈ g_W := w_c4 16 rfl rfl
set_option maxRecDepth 100000 in
theorem w_4_18 : (Cond.instanceMethod ({ cls := "TracePacks$Unpacker", name := "takeTime", desc := "(J)Z" } : MethodName)) ∈ g_W := w_c4 18 rfl rfl
set_option maxRecDepth 100000 in
theorem w_4_19 : (Cond.code ({ cls := "TracePacks$Unpacker", name := "takeTime", desc := "(J)Z" } : MethodName) prog_10_method_14_code (3 : Nat) (Option.some FieldType.boolean)) ∈ g_W := w_c4 19 rfl rfl
set_option maxRecDepth 100000 in
theorem w_4_20 : (Cond.constant "TracePacks$Unpacker" (158 : Nat) (2147483647 : Int32)) ∈ g_W := w_c4 20 rfl rfl
set_option maxRecDepth 100000 in
theorem w_4_21 : (Cond.methodLink "TracePacks$Unpacker" (60 : Nat) ({ cls := "TracePacks$Block", name := "size", desc := "()I" } : MethodName)) ∈ g_W := w_c4 21 rfl rfl
set_option maxRecDepth 100000 in
theorem w_4_22 : (Cond.methodLink "TracePacks$Reader" (50 : Nat) ({ cls := "TracePacks$Unpacker", name := "block", desc := "()LTracePacks$Block;" } : MethodName)) ∈ g_W := w_c4 22 rfl rfl
set_option maxRecDepth 100000 in
theorem w_4_23 : (Cond.instanceMethod ({ cls := "TracePacks$Unpacker", name := "block", desc := "()LTracePacks$Block;" } : MethodName)) ∈ g_W := w_c4 23 rfl rfl
set_option maxRecDepth 100000 in
theorem w_4_24 : (Cond.selects "TracePacks$Unpacker" ({ cls := "TracePacks$Unpacker", name := "block", desc := "()LTracePacks$Block;" } : MethodName) ({ cls := "TracePacks$Unpacker", name := "block", desc := "()LTracePacks$Block;" } : MethodName)) ∈ g_W := w_c4 24 rfl rfl
set_option maxRecDepth 100000 in
theorem w_4_25 : (Cond.code ({ cls := "TracePacks$Unpacker", name := "block", desc := "()LTracePacks$Block;" } : MethodName) prog_10_method_2_code (1 : Nat) (Option.some (FieldType.object "TracePacks$Block"))) ∈ g_W := w_c4 25 rfl rfl
set_option maxRecDepth 100000 in
theorem w_4_26 : (Cond.methodLink "TracePacks$Reader" (54 : Nat) ({ cls := "TracePacks$Reader", name := "keepRows", desc := "(LTracePacks$Block;I)V" } : MethodName)) ∈ g_W := w_c4 26 rfl rfl
set_option maxRecDepth 100000 in
theorem w_4_28 : (Cond.instanceMethod ({ cls := "TracePacks$Reader", name := "keepRows", desc := "(LTracePacks$Block;I)V" } : MethodName)) ∈ g_W := w_c4 28 rfl rfl
set_option maxRecDepth 100000 in
theorem w_4_29 : (Cond.code ({ cls := "TracePacks$Reader", name := "keepRows", desc := "(LTracePacks$Block;I)V" } : MethodName) prog_9_method_10_code (5 : Nat) (Option.none : Option FieldType)) ∈ g_W := w_c4 29 rfl rfl
set_option maxRecDepth 100000 in
theorem w_4_30 : (Cond.methodLink "TracePacks$Reader" (68 : Nat) ({ cls := "TracePacks$Block", name := "time", desc := "()I" } : MethodName)) ∈ g_W := w_c4 30 rfl rfl
set_option maxRecDepth 100000 in
theorem w_4_31 : (Cond.methodLink "TracePacks$Reader" (73 : Nat) ({ cls := "TracePacks$Block", name := "size", desc := "()I" } : MethodName)) ∈ g_W := w_c4 31 rfl rfl
set_option maxRecDepth 100000 in
theorem w_4_32 : (Cond.methodLink "TracePacks$Reader" (74 : Nat) ({ cls := "TracePacks$Block", name := "kind", desc := "(I)I" } : MethodName)) ∈ g_W := w_c4 32 rfl rfl
set_option maxRecDepth 100000 in
theorem w_4_33 : (Cond.methodLink "TracePacks$Reader" (77 : Nat) ({ cls := "TracePacks$Block", name := "a", desc := "(I)I" } : MethodName)) ∈ g_W := w_c4 33 rfl rfl
set_option maxRecDepth 100000 in
theorem w_4_34 : (Cond.methodLink "TracePacks$Reader" (80 : Nat) ({ cls := "TracePacks$Block", name := "owner", desc := "()I" } : MethodName)) ∈ g_W := w_c4 34 rfl rfl
set_option maxRecDepth 100000 in
theorem w_4_35 : (Cond.methodLink "TracePacks$Reader" (83 : Nat) ({ cls := "TracePacks$Reader", name := "isChosen", desc := "(III)Z" } : MethodName)) ∈ g_W := w_c4 35 rfl rfl
set_option maxRecDepth 100000 in
theorem w_4_36 : (Cond.static ({ cls := "TracePacks$Reader", name := "isChosen", desc := "(III)Z" } : MethodName)) ∈ g_W := w_c4 36 rfl rfl
set_option maxRecDepth 100000 in
theorem w_4_37 : (Cond.code ({ cls := "TracePacks$Reader", name := "isChosen", desc := "(III)Z" } : MethodName) prog_9_method_11_code (3 : Nat) (Option.some FieldType.boolean)) ∈ g_W := w_c4 37 rfl rfl
set_option maxRecDepth 100000 in
theorem w_4_38 : (Cond.methodLink "TracePacks$Reader" (87 : Nat) ({ cls := "TracePacks$Kept", name := "add", desc := "(LTracePacks$Block;III)Z" } : MethodName)) ∈ g_W := w_c4 38 rfl rfl
set_option maxRecDepth 100000 in
theorem w_4_39 : (Cond.instanceMethod ({ cls := "TracePacks$Kept", name := "add", desc := "(LTracePacks$Block;III)Z" } : MethodName)) ∈ g_W := w_c4 39 rfl rfl
set_option maxRecDepth 100000 in
theorem w_4_40 : (Cond.selects "TracePacks$Kept" ({ cls := "TracePacks$Kept", name := "add", desc := "(LTracePacks$Block;III)Z" } : MethodName) ({ cls := "TracePacks$Kept", name := "add", desc := "(LTracePacks$Block;III)Z" } : MethodName)) ∈ g_W := w_c4 40 rfl rfl
set_option maxRecDepth 100000 in
theorem w_4_41 : (Cond.code ({ cls := "TracePacks$Kept", name := "add", desc := "(LTracePacks$Block;III)Z" } : MethodName) prog_4_method_3_code (5 : Nat) (Option.some FieldType.boolean)) ∈ g_W := w_c4 41 rfl rfl
set_option maxRecDepth 100000 in
theorem w_4_42 : (Cond.methodLink "TracePacks$Kept" (48 : Nat) ({ cls := "TracePacks$Block", name := "kind", desc := "(I)I" } : MethodName)) ∈ g_W := w_c4 42 rfl rfl
set_option maxRecDepth 100000 in
theorem w_4_43 : (Cond.methodLink "TracePacks$Kept" (54 : Nat) ({ cls := "TracePacks$Ints", name := "add", desc := "(I)Z" } : MethodName)) ∈ g_W := w_c4 43 rfl rfl
set_option maxRecDepth 100000 in
theorem w_4_44 : (Cond.methodLink "TracePacks$Kept" (58 : Nat) ({ cls := "TracePacks$Block", name := "a", desc := "(I)I" } : MethodName)) ∈ g_W := w_c4 44 rfl rfl
set_option maxRecDepth 100000 in
theorem w_4_45 : (Cond.methodLink "TracePacks$Kept" (61 : Nat) ({ cls := "TracePacks$Block", name := "b", desc := "(I)I" } : MethodName)) ∈ g_W := w_c4 45 rfl rfl
set_option maxRecDepth 100000 in
theorem w_4_46 : (Cond.methodLink "TracePacks$Kept" (64 : Nat) ({ cls := "TracePacks$Block", name := "owner", desc := "()I" } : MethodName)) ∈ g_W := w_c4 46 rfl rfl
set_option maxRecDepth 100000 in
theorem w_4_47 : (Cond.methodLink "TracePacksLaw" (92 : Nat) ({ cls := "TracePacksLaw", name := "kept", desc := "(LTracePacks;II[J)I" } : MethodName)) ∈ g_W := w_c4 47 rfl rfl
set_option maxRecDepth 100000 in
theorem w_4_48 : (Cond.static ({ cls := "TracePacksLaw", name := "kept", desc := "(LTracePacks;II[J)I" } : MethodName)) ∈ g_W := w_c4 48 rfl rfl
set_option maxRecDepth 100000 in
theorem w_4_49 : (Cond.codeWith ({ cls := "TracePacksLaw", name := "kept", desc := "(LTracePacks;II[J)I" } : MethodName) method_12_code (5 : Nat) (Option.some FieldType.int) [((0 : Nat), (10 : Nat), (13 : Nat), (13 : Nat))]) ∈ g_W := w_c4 49 rfl rfl
set_option maxRecDepth 100000 in
theorem w_4_50 : (Cond.methodLink "TracePacksLaw" (46 : Nat) ({ cls := "TracePacks", name := "kept", desc := "(II)I" } : MethodName)) ∈ g_W := w_c4 50 rfl rfl
set_option maxRecDepth 100000 in
theorem w_4_51 : (Cond.instanceMethod ({ cls := "TracePacks", name := "kept", desc := "(II)I" } : MethodName)) ∈ g_W := w_c4 51 rfl rfl
set_option maxRecDepth 100000 in
theorem w_4_52 : (Cond.selects "TracePacks" ({ cls := "TracePacks", name := "kept", desc := "(II)I" } : MethodName) ({ cls := "TracePacks", name := "kept", desc := "(II)I" } : MethodName)) ∈ g_W := w_c4 52 rfl rfl
set_option maxRecDepth 100000 in
theorem w_4_53 : (Cond.code ({ cls := "TracePacks", name := "kept", desc := "(II)I" } : MethodName) prog_1_method_11_code (3 : Nat) (Option.some FieldType.int)) ∈ g_W := w_c4 53 rfl rfl
set_option maxRecDepth 100000 in
theorem w_4_54 : (Cond.methodLink "TracePacks" (133 : Nat) ({ cls := "TracePacks$Kept", name := "has", desc := "(II)Z" } : MethodName)) ∈ g_W := w_c4 54 rfl rfl
set_option maxRecDepth 100000 in
theorem w_4_55 : (Cond.instanceMethod ({ cls := "TracePacks$Kept", name := "has", desc := "(II)Z" } : MethodName)) ∈ g_W := w_c4 55 rfl rfl
set_option maxRecDepth 100000 in
theorem w_4_56 : (Cond.selects "TracePacks$Kept" ({ cls := "TracePacks$Kept", name := "has", desc := "(II)Z" } : MethodName) ({ cls := "TracePacks$Kept", name := "has", desc := "(II)Z" } : MethodName)) ∈ g_W := w_c4 56 rfl rfl
set_option maxRecDepth 100000 in
theorem w_4_57 : (Cond.code ({ cls := "TracePacks$Kept", name := "has", desc := "(II)Z" } : MethodName) prog_4_method_5_code (3 : Nat) (Option.some FieldType.boolean)) ∈ g_W := w_c4 57 rfl rfl
set_option maxRecDepth 100000 in
theorem w_4_58 : (Cond.methodLink "TracePacks$Kept" (71 : Nat) ({ cls := "TracePacks$Ints", name := "has", desc := "(I)Z" } : MethodName)) ∈ g_W := w_c4 58 rfl rfl
set_option maxRecDepth 100000 in
theorem w_4_60 : (Cond.methodLink "TracePacks" (138 : Nat) ({ cls := "TracePacks$Kept", name := "at", desc := "(II)I" } : MethodName)) ∈ g_W := w_c4 60 rfl rfl
set_option maxRecDepth 100000 in
theorem w_4_61 : (Cond.instanceMethod ({ cls := "TracePacks$Kept", name := "at", desc := "(II)I" } : MethodName)) ∈ g_W := w_c4 61 rfl rfl
set_option maxRecDepth 100000 in
theorem w_4_62 : (Cond.selects "TracePacks$Kept" ({ cls := "TracePacks$Kept", name := "at", desc := "(II)I" } : MethodName) ({ cls := "TracePacks$Kept", name := "at", desc := "(II)I" } : MethodName)) ∈ g_W := w_c4 62 rfl rfl
set_option maxRecDepth 100000 in
theorem w_4_63 : (Cond.code ({ cls := "TracePacks$Kept", name := "at", desc := "(II)I" } : MethodName) prog_4_method_6_code (3 : Nat) (Option.some FieldType.int)) ∈ g_W := w_c4 63 rfl rfl
set_option maxRecDepth 100000 in
theorem w_4_64 : (Cond.methodLink "TracePacks$Kept" (74 : Nat) ({ cls := "TracePacks$Ints", name := "at", desc := "(I)I" } : MethodName)) ∈ g_W := w_c4 64 rfl rfl
set_option maxRecDepth 100000 in
theorem w_4_65 : (Cond.methodLink "TracePacksLaw" (95 : Nat) ({ cls := "TracePacksLaw", name := "merged", desc := "(LTracePacks;I[J)I" } : MethodName)) ∈ g_W := w_c4 65 rfl rfl
set_option maxRecDepth 100000 in
theorem w_4_66 : (Cond.static ({ cls := "TracePacksLaw", name := "merged", desc := "(LTracePacks;I[J)I" } : MethodName)) ∈ g_W := w_c4 66 rfl rfl
set_option maxRecDepth 100000 in
theorem w_4_67 : (Cond.codeWith ({ cls := "TracePacksLaw", name := "merged", desc := "(LTracePacks;I[J)I" } : MethodName) method_13_code (4 : Nat) (Option.some FieldType.int) [((0 : Nat), (9 : Nat), (12 : Nat), (13 : Nat))]) ∈ g_W := w_c4 67 rfl rfl
set_option maxRecDepth 100000 in
theorem w_4_68 : (Cond.methodLink "TracePacksLaw" (49 : Nat) ({ cls := "TracePacks", name := "merged", desc := "(I)I" } : MethodName)) ∈ g_W := w_c4 68 rfl rfl
set_option maxRecDepth 100000 in
theorem w_4_69 : (Cond.instanceMethod ({ cls := "TracePacks", name := "merged", desc := "(I)I" } : MethodName)) ∈ g_W := w_c4 69 rfl rfl
set_option maxRecDepth 100000 in
theorem w_4_70 : (Cond.selects "TracePacks" ({ cls := "TracePacks", name := "merged", desc := "(I)I" } : MethodName) ({ cls := "TracePacks", name := "merged", desc := "(I)I" } : MethodName)) ∈ g_W := w_c4 70 rfl rfl
set_option maxRecDepth 100000 in
theorem w_4_71 : (Cond.code ({ cls := "TracePacks", name := "merged", desc := "(I)I" } : MethodName) prog_1_method_12_code (2 : Nat) (Option.some FieldType.int)) ∈ g_W := w_c4 71 rfl rfl
set_option maxRecDepth 100000 in
theorem w_4_72 : (Cond.methodLink "TracePacks" (141 : Nat) ({ cls := "TracePacks$Kept", name := "byTime", desc := "(I)I" } : MethodName)) ∈ g_W := w_c4 72 rfl rfl
set_option maxRecDepth 100000 in
theorem w_4_73 : (Cond.instanceMethod ({ cls := "TracePacks$Kept", name := "byTime", desc := "(I)I" } : MethodName)) ∈ g_W := w_c4 73 rfl rfl
set_option maxRecDepth 100000 in
theorem w_4_74 : (Cond.selects "TracePacks$Kept" ({ cls := "TracePacks$Kept", name := "byTime", desc := "(I)I" } : MethodName) ({ cls := "TracePacks$Kept", name := "byTime", desc := "(I)I" } : MethodName)) ∈ g_W := w_c4 74 rfl rfl
set_option maxRecDepth 100000 in
theorem w_4_75 : (Cond.code ({ cls := "TracePacks$Kept", name := "byTime", desc := "(I)I" } : MethodName) prog_4_method_7_code (2 : Nat) (Option.some FieldType.int)) ∈ g_W := w_c4 75 rfl rfl
set_option maxRecDepth 100000 in
theorem w_4_76 : (Cond.methodLink "TracePacks$Kept" (77 : Nat) ({ cls := "TracePacks$Kept", name := "putInOrder", desc := "()V" } : MethodName)) ∈ g_W := w_c4 76 rfl rfl
set_option maxRecDepth 100000 in
theorem w_4_78 : (Cond.instanceMethod ({ cls := "TracePacks$Kept", name := "putInOrder", desc := "()V" } : MethodName)) ∈ g_W := w_c4 78 rfl rfl
set_option maxRecDepth 100000 in
theorem w_4_79 : (Cond.code ({ cls := "TracePacks$Kept", name := "putInOrder", desc := "()V" } : MethodName) prog_4_method_8_code (3 : Nat) (Option.none : Option FieldType)) ∈ g_W := w_c4 79 rfl rfl
set_option maxRecDepth 100000 in
theorem w_4_80 : (Cond.methodLink "TracePacks$Kept" (80 : Nat) ({ cls := "TracePacks$Kept", name := "size", desc := "()I" } : MethodName)) ∈ g_W := w_c4 80 rfl rfl
set_option maxRecDepth 100000 in
theorem w_4_81 : (Cond.methodLink "TracePacks$Kept" (81 : Nat) ({ cls := "java/lang/Math", name := "min", desc := "(II)I" } : MethodName)) ∈ g_W := w_c4 81 rfl rfl
set_option maxRecDepth 100000 in
theorem w_4_82 : (Cond.static ({ cls := "java/lang/Math", name := "min", desc := "(II)I" } : MethodName)) ∈ g_W := w_c4 82 rfl rfl
set_option maxRecDepth 100000 in
theorem w_4_83 : (Cond.code ({ cls := "java/lang/Math", name := "min", desc := "(II)I" } : MethodName) prog_17_method_69_code (2 : Nat) (Option.some FieldType.int)) ∈ g_W := w_c4 83 rfl rfl
set_option maxRecDepth 100000 in
theorem w_4_84 : (Cond.methodLink "TracePacks$Kept" (87 : Nat) ({ cls := "TracePacks$Kept", name := "joinRuns", desc := "(III)V" } : MethodName)) ∈ g_W := w_c4 84 rfl rfl
set_option maxRecDepth 100000 in
theorem w_4_86 : (Cond.instanceMethod ({ cls := "TracePacks$Kept", name := "joinRuns", desc := "(III)V" } : MethodName)) ∈ g_W := w_c4 86 rfl rfl
set_option maxRecDepth 100000 in
theorem w_4_87 : (Cond.code ({ cls := "TracePacks$Kept", name := "joinRuns", desc := "(III)V" } : MethodName) prog_4_method_9_code (8 : Nat) (Option.none : Option FieldType)) ∈ g_W := w_c4 87 rfl rfl
set_option maxRecDepth 100000 in
theorem w_4_88 : (Cond.methodLink "TracePacks$Kept" (91 : Nat) ({ cls := "TracePacks$Kept", name := "goesBefore", desc := "(II)Z" } : MethodName)) ∈ g_W := w_c4 88 rfl rfl
set_option maxRecDepth 100000 in
theorem w_4_90 : (Cond.instanceMethod ({ cls := "TracePacks$Kept", name := "goesBefore", desc := "(II)Z" } : MethodName)) ∈ g_W := w_c4 90 rfl rfl
set_option maxRecDepth 100000 in
theorem w_4_91 : (Cond.code ({ cls := "TracePacks$Kept", name := "goesBefore", desc := "(II)Z" } : MethodName) prog_4_method_10_code (3 : Nat) (Option.some FieldType.boolean)) ∈ g_W := w_c4 91 rfl rfl
set_option maxRecDepth 100000 in
theorem w_4_92 : (Cond.classLink "TracePacksLaw" (53 : Nat) "TracePacksModel") ∈ g_W := w_c4 92 rfl rfl
set_option maxRecDepth 100000 in
theorem w_4_93 : (Cond.instantiable "TracePacksModel" (40 : Nat)) ∈ g_W := w_c4 93 rfl rfl
set_option maxRecDepth 100000 in
theorem w_4_94 : (Cond.methodLink "TracePacksLaw" (55 : Nat) ({ cls := "TracePacksModel", name := "<init>", desc := "()V" } : MethodName)) ∈ g_W := w_c4 94 rfl rfl
set_option maxRecDepth 100000 in
theorem w_4_95 : (Cond.instanceMethod ({ cls := "TracePacksModel", name := "<init>", desc := "()V" } : MethodName)) ∈ g_W := w_c4 95 rfl rfl
set_option maxRecDepth 100000 in
theorem w_4_96 : (Cond.code ({ cls := "TracePacksModel", name := "<init>", desc := "()V" } : MethodName) prog_12_method_1_code (1 : Nat) (Option.none : Option FieldType)) ∈ g_W := w_c4 96 rfl rfl
set_option maxRecDepth 100000 in
theorem w_4_97 : (Cond.methodLink "TracePacksModel" (1 : Nat) ({ cls := "java/lang/Object", name := "<init>", desc := "()V" } : MethodName)) ∈ g_W := w_c4 97 rfl rfl
set_option maxRecDepth 100000 in
theorem w_4_98 : (Cond.fieldLink "TracePacksModel" (69 : Nat) "TracePacksModel" "thrown" "I") ∈ g_W := w_c4 98 rfl rfl
set_option maxRecDepth 100000 in
theorem w_4_99 : (Cond.fieldLink "TracePacksModel" (142 : Nat) "TracePacksModel" "size" "I") ∈ g_W := w_c4 99 rfl rfl
set_option maxRecDepth 100000 in
theorem w_4_100 : (Cond.fieldLink "TracePacksModel" (7 : Nat) "TracePacksModel" "pack" "[B") ∈ g_W := w_c4 100 rfl rfl
set_option maxRecDepth 100000 in
theorem w_4_101 : (Cond.fieldLink "TracePacksModel" (82 : Nat) "TracePacksModel" "thread" "I") ∈ g_W := w_c4 101 rfl rfl
set_option maxRecDepth 100000 in
theorem w_4_102 : (Cond.fieldLink "TracePacksModel" (13 : Nat) "TracePacksModel" "time" "[I") ∈ g_W := w_c4 102 rfl rfl
set_option maxRecDepth 100000 in
theorem w_4_103 : (Cond.fieldLink "TracePacksModel" (108 : Nat) "TracePacksModel" "rows" "I") ∈ g_W := w_c4 103 rfl rfl
set_option maxRecDepth 100000 in
theorem w_4_104 : (Cond.fieldLink "TracePacksModel" (126 : Nat) "TracePacksModel" "owner" "I") ∈ g_W := w_c4 104 rfl rfl
set_option maxRecDepth 100000 in
theorem w_4_105 : (Cond.fieldLink "TracePacksModel" (105 : Nat) "TracePacksModel" "began" "I") ∈ g_W := w_c4 105 rfl rfl
set_option maxRecDepth 100000 in
theorem w_4_106 : (Cond.fieldLink "TracePacksModel" (17 : Nat) "TracePacksModel" "rowKind" "[I") ∈ g_W := w_c4 106 rfl rfl
set_option maxRecDepth 100000 in
theorem w_4_107 : (Cond.fieldLink "TracePacksModel" (20 : Nat) "TracePacksModel" "rowA" "[I") ∈ g_W := w_c4 107 rfl rfl
set_option maxRecDepth 100000 in
theorem w_4_108 : (Cond.fieldLink "TracePacksModel" (23 : Nat) "TracePacksModel" "rowB" "[I") ∈ g_W := w_c4 108 rfl rfl
set_option maxRecDepth 100000 in
theorem w_4_109 : (Cond.fieldLink "TracePacksModel" (157 : Nat) "TracePacksModel" "allRows" "I") ∈ g_W := w_c4 109 rfl rfl
set_option maxRecDepth 100000 in
theorem w_4_110 : (Cond.fieldLink "TracePacksModel" (148 : Nat) "TracePacksModel" "closed" "I") ∈ g_W := w_c4 110 rfl rfl
set_option maxRecDepth 100000 in
theorem w_4_111 : (Cond.fieldLink "TracePacksModel" (26 : Nat) "TracePacksModel" "kinds" "I") ∈ g_W := w_c4 111 rfl rfl
set_option maxRecDepth 100000 in
theorem w_4_112 : (Cond.fieldLink "TracePacksModel" (30 : Nat) "TracePacksModel" "threads" "I") ∈ g_W := w_c4 112 rfl rfl
set_option maxRecDepth 100000 in
theorem w_4_113 : (Cond.fieldLink "TracePacksModel" (85 : Nat) "TracePacksModel" "inSize" "I") ∈ g_W := w_c4 113 rfl rfl
set_option maxRecDepth 100000 in
theorem w_4_114 : (Cond.fieldLink "TracePacksModel" (33 : Nat) "TracePacksModel" "inside" "[I") ∈ g_W := w_c4 114 rfl rfl
set_option maxRecDepth 100000 in
theorem w_4_115 : (Cond.fieldLink "TracePacksModel" (120 : Nat) "TracePacksModel" "p" "I") ∈ g_W := w_c4 115 rfl rfl
set_option maxRecDepth 100000 in
theorem w_4_116 : (Cond.fieldLink "TracePacksModel" (123 : Nat) "TracePacksModel" "q" "I") ∈ g_W := w_c4 116 rfl rfl
set_option maxRecDepth 100000 in
theorem w_4_117 : (Cond.fieldLink "TracePacksModel" (102 : Nat) "TracePacksModel" "values" "I") ∈ g_W := w_c4 117 rfl rfl
set_option maxRecDepth 100000 in
theorem w_4_118 : (Cond.fieldLink "TracePacksModel" (36 : Nat) "TracePacksModel" "value" "[I") ∈ g_W := w_c4 118 rfl rfl
set_option maxRecDepth 100000 in
theorem w_4_119 : (Cond.fieldLink "TracePacksModel" (224 : Nat) "TracePacksModel" "passed" "I") ∈ g_W := w_c4 119 rfl rfl
set_option maxRecDepth 100000 in
theorem w_4_120 : (Cond.fieldLink "TracePacksModel" (215 : Nat) "TracePacksModel" "blocks" "I") ∈ g_W := w_c4 120 rfl rfl
set_option maxRecDepth 100000 in
theorem w_4_121 : (Cond.fieldLink "TracePacksModel" (208 : Nat) "TracePacksModel" "broken" "I") ∈ g_W := w_c4 121 rfl rfl
set_option maxRecDepth 100000 in
theorem w_4_122 : (Cond.fieldLink "TracePacksModel" (218 : Nat) "TracePacksModel" "kept" "I") ∈ g_W := w_c4 122 rfl rfl
set_option maxRecDepth 100000 in
theorem w_4_123 : (Cond.fieldLink "TracePacksModel" (221 : Nat) "TracePacksModel" "others" "I") ∈ g_W := w_c4 123 rfl rfl
set_option maxRecDepth 100000 in
theorem w_4_124 : (Cond.fieldLink "TracePacksModel" (39 : Nat) "TracePacksModel" "keptKind" "[I") ∈ g_W := w_c4 124 rfl rfl
set_option maxRecDepth 100000 in
theorem w_4_125 : (Cond.fieldLink "TracePacksModel" (42 : Nat) "TracePacksModel" "keptA" "[I") ∈ g_W := w_c4 125 rfl rfl
set_option maxRecDepth 100000 in
theorem w_4_126 : (Cond.fieldLink "TracePacksModel" (45 : Nat) "TracePacksModel" "keptB" "[I") ∈ g_W := w_c4 126 rfl rfl
set_option maxRecDepth 100000 in
theorem w_4_127 : (Cond.fieldLink "TracePacksModel" (48 : Nat) "TracePacksModel" "keptThread" "[I") ∈ g_W := w_c4 127 rfl rfl
set_option maxRecDepth 100000 in
theorem w_4_128 : (Cond.fieldLink "TracePacksModel" (51 : Nat) "TracePacksModel" "keptTime" "[I") ∈ g_W := w_c4 128 rfl rfl
set_option maxRecDepth 100000 in
theorem w_4_129 : (Cond.fieldLink "TracePacksModel" (54 : Nat) "TracePacksModel" "keptBlock" "[I") ∈ g_W := w_c4 129 rfl rfl
set_option maxRecDepth 100000 in
theorem w_4_130 : (Cond.fieldLink "TracePacksModel" (57 : Nat) "TracePacksModel" "gotKind" "[I") ∈ g_W := w_c4 130 rfl rfl
set_option maxRecDepth 100000 in
theorem w_4_131 : (Cond.fieldLink "TracePacksModel" (60 : Nat) "TracePacksModel" "gotA" "[I") ∈ g_W := w_c4 131 rfl rfl
set_option maxRecDepth 100000 in
theorem w_4_132 : (Cond.fieldLink "TracePacksModel" (63 : Nat) "TracePacksModel" "gotB" "[I") ∈ g_W := w_c4 132 rfl rfl
set_option maxRecDepth 100000 in
theorem w_4_133 : (Cond.fieldLink "TracePacksModel" (66 : Nat) "TracePacksModel" "gotTime" "[I") ∈ g_W := w_c4 133 rfl rfl
set_option maxRecDepth 100000 in
theorem w_4_134 : (Cond.fieldLink "TracePacksModel" (184 : Nat) "TracePacksModel" "got" "I") ∈ g_W := w_c4 134 rfl rfl
set_option maxRecDepth 100000 in
theorem w_4_135 : (Cond.fieldLink "TracePacksModel" (166 : Nat) "TracePacksModel" "at" "I") ∈ g_W := w_c4 135 rfl rfl
set_option maxRecDepth 100000 in
theorem w_4_136 : (Cond.fieldLink "TracePacksModel" (169 : Nat) "TracePacksModel" "last" "I") ∈ g_W := w_c4 136 rfl rfl
set_option maxRecDepth 100000 in
theorem w_4_137 : (Cond.fieldLink "TracePacksModel" (172 : Nat) "TracePacksModel" "good" "Z") ∈ g_W := w_c4 137 rfl rfl
set_option maxRecDepth 100000 in
theorem w_4_219 : (Cond.methodLink "TracePacksLaw" (62 : Nat) ({ cls := "TracePacksModel", name := "thrown", desc := "()I" } : MethodName)) ∈ g_W := w_c4 219 rfl rfl
set_option maxRecDepth 100000 in
theorem w_4_220 : (Cond.instanceMethod ({ cls := "TracePacksModel", name := "thrown", desc := "()I" } : MethodName)) ∈ g_W := w_c4 220 rfl rfl
set_option maxRecDepth 100000 in
theorem w_4_221 : (Cond.selects "TracePacksModel" ({ cls := "TracePacksModel", name := "thrown", desc := "()I" } : MethodName) ({ cls := "TracePacksModel", name := "thrown", desc := "()I" } : MethodName)) ∈ g_W := w_c4 221 rfl rfl
set_option maxRecDepth 100000 in
theorem w_4_222 : (Cond.code ({ cls := "TracePacksModel", name := "thrown", desc := "()I" } : MethodName) prog_12_method_2_code (1 : Nat) (Option.some FieldType.int)) ∈ g_W := w_c4 222 rfl rfl
set_option maxRecDepth 100000 in
theorem w_4_223 : (Cond.methodLink "TracePacksLaw" (61 : Nat) ({ cls := "TracePacksModel", name := "thread", desc := "(I)I" } : MethodName)) ∈ g_W := w_c4 223 rfl rfl
set_option maxRecDepth 100000 in
theorem w_4_224 : (Cond.instanceMethod ({ cls := "TracePacksModel", name := "thread", desc := "(I)I" } : MethodName)) ∈ g_W := w_c4 224 rfl rfl
set_option maxRecDepth 100000 in
theorem w_4_225 : (Cond.selects "TracePacksModel" ({ cls := "TracePacksModel", name := "thread", desc := "(I)I" } : MethodName) ({ cls := "TracePacksModel", name := "thread", desc := "(I)I" } : MethodName)) ∈ g_W := w_c4 225 rfl rfl
set_option maxRecDepth 100000 in
theorem w_4_226 : (Cond.code ({ cls := "TracePacksModel", name := "thread", desc := "(I)I" } : MethodName) prog_12_method_5_code (3 : Nat) (Option.some FieldType.int)) ∈ g_W := w_c4 226 rfl rfl
set_option maxRecDepth 100000 in
theorem w_4_227 : (Cond.constantLong "TracePacksModel" (72 : Nat) (3 : Int64)) ∈ g_W := w_c4 227 rfl rfl
set_option maxRecDepth 100000 in
theorem w_4_228 : (Cond.methodLink "TracePacksModel" (74 : Nat) ({ cls := "TracePacksModel", name := "within", desc := "(JJJ)Z" } : MethodName)) ∈ g_W := w_c4 228 rfl rfl
set_option maxRecDepth 100000 in
theorem w_4_229 : (Cond.static ({ cls := "TracePacksModel", name := "within", desc := "(JJJ)Z" } : MethodName)) ∈ g_W := w_c4 229 rfl rfl
set_option maxRecDepth 100000 in
theorem w_4_230 : (Cond.code ({ cls := "TracePacksModel", name := "within", desc := "(JJJ)Z" } : MethodName) prog_12_method_4_code (6 : Nat) (Option.some FieldType.boolean)) ∈ g_W := w_c4 230 rfl rfl
set_option maxRecDepth 100000 in
theorem w_4_231 : (Cond.methodLink "TracePacksModel" (78 : Nat) ({ cls := "TracePacksModel", name := "fail", desc := "(I)I" } : MethodName)) ∈ g_W := w_c4 231 rfl rfl
set_option maxRecDepth 100000 in
theorem w_4_233 : (Cond.instanceMethod ({ cls := "TracePacksModel", name := "fail", desc := "(I)I" } : MethodName)) ∈ g_W := w_c4 233 rfl rfl
set_option maxRecDepth 100000 in
theorem w_4_234 : (Cond.code ({ cls := "TracePacksModel", name := "fail", desc := "(I)I" } : MethodName) prog_12_method_3_code (2 : Nat) (Option.some FieldType.int)) ∈ g_W := w_c4 234 rfl rfl
set_option maxRecDepth 100000 in
theorem w_4_235 : (Cond.methodLink "TracePacksLaw" (68 : Nat) ({ cls := "TracePacksModel", name := "row", desc := "(III)I" } : MethodName)) ∈ g_W := w_c4 235 rfl rfl
set_option maxRecDepth 100000 in
theorem w_4_236 : (Cond.instanceMethod ({ cls := "TracePacksModel", name := "row", desc := "(III)I" } : MethodName)) ∈ g_W := w_c4 236 rfl rfl
set_option maxRecDepth 100000 in
theorem w_4_237 : (Cond.selects "TracePacksModel" ({ cls := "TracePacksModel", name := "row", desc := "(III)I" } : MethodName) ({ cls := "TracePacksModel", name := "row", desc := "(III)I" } : MethodName)) ∈ g_W := w_c4 237 rfl rfl
set_option maxRecDepth 100000 in
theorem w_4_238 : (Cond.code ({ cls := "TracePacksModel", name := "row", desc := "(III)I" } : MethodName) prog_12_method_17_code (6 : Nat) (Option.some FieldType.int)) ∈ g_W := w_c4 238 rfl rfl
set_option maxRecDepth 100000 in
theorem w_4_239 : (Cond.constantLong "TracePacksModel" (151 : Nat) (4 : Int64)) ∈ g_W := w_c4 239 rfl rfl
set_option maxRecDepth 100000 in
theorem w_5_0 : (Cond.methodLink "TracePacksModel" (153 : Nat) ({ cls := "TracePacksModel", name := "close", desc := "()Z" } : MethodName)) ∈ g_W := w_c5 0 rfl rfl
set_option maxRecDepth 100000 in
theorem w_5_2 : (Cond.instanceMethod ({ cls := "TracePacksModel", name := "close", desc := "()Z" } : MethodName)) ∈ g_W := w_c5 2 rfl rfl
set_option maxRecDepth 100000 in
theorem w_5_3 : (Cond.code ({ cls := "TracePacksModel", name := "close", desc := "()Z" } : MethodName) prog_12_method_15_code (3 : Nat) (Option.some FieldType.boolean)) ∈ g_W := w_c5 3 rfl rfl
set_option maxRecDepth 100000 in
theorem w_5_4 : (Cond.methodLink "TracePacksModel" (135 : Nat) ({ cls := "TracePacksModel", name := "makeInside", desc := "()V" } : MethodName)) ∈ g_W := w_c5 4 rfl rfl
set_option maxRecDepth 100000 in
theorem w_5_6 : (Cond.instanceMethod ({ cls := "TracePacksModel", name := "makeInside", desc := "()V" } : MethodName)) ∈ g_W := w_c5 6 rfl rfl
set_option maxRecDepth 100000 in
theorem w_5_7 : (Cond.code ({ cls := "TracePacksModel", name := "makeInside", desc := "()V" } : MethodName) prog_12_method_13_code (3 : Nat) (Option.none : Option FieldType)) ∈ g_W := w_c5 7 rfl rfl
set_option maxRecDepth 100000 in
theorem w_5_8 : (Cond.methodLink "TracePacksModel" (90 : Nat) ({ cls := "TracePacksModel", name := "say", desc := "(I)V" } : MethodName)) ∈ g_W := w_c5 8 rfl rfl
set_option maxRecDepth 100000 in
theorem w_5_10 : (Cond.instanceMethod ({ cls := "TracePacksModel", name := "say", desc := "(I)V" } : MethodName)) ∈ g_W := w_c5 10 rfl rfl
set_option maxRecDepth 100000 in
theorem w_5_11 : (Cond.code ({ cls := "TracePacksModel", name := "say", desc := "(I)V" } : MethodName) prog_12_method_6_code (2 : Nat) (Option.none : Option FieldType)) ∈ g_W := w_c5 11 rfl rfl
set_option maxRecDepth 100000 in
theorem w_5_12 : (Cond.methodLink "TracePacksModel" (117 : Nat) ({ cls := "TracePacksModel", name := "sayFour", desc := "(I)V" } : MethodName)) ∈ g_W := w_c5 12 rfl rfl
set_option maxRecDepth 100000 in
theorem w_5_14 : (Cond.instanceMethod ({ cls := "TracePacksModel", name := "sayFour", desc := "(I)V" } : MethodName)) ∈ g_W := w_c5 14 rfl rfl
set_option maxRecDepth 100000 in
theorem w_5_15 : (Cond.code ({ cls := "TracePacksModel", name := "sayFour", desc := "(I)V" } : MethodName) prog_12_method_9_code (3 : Nat) (Option.none : Option FieldType)) ∈ g_W := w_c5 15 rfl rfl
set_option maxRecDepth 100000 in
theorem w_5_16 : (Cond.methodLink "TracePacksModel" (129 : Nat) ({ cls := "TracePacksModel", name := "sayRows", desc := "()V" } : MethodName)) ∈ g_W := w_c5 16 rfl rfl
set_option maxRecDepth 100000 in
theorem w_5_18 : (Cond.instanceMethod ({ cls := "TracePacksModel", name := "sayRows", desc := "()V" } : MethodName)) ∈ g_W := w_c5 18 rfl rfl
set_option maxRecDepth 100000 in
theorem w_5_19 : (Cond.code ({ cls := "TracePacksModel", name := "sayRows", desc := "()V" } : MethodName) prog_12_method_11_code (11 : Nat) (Option.none : Option FieldType)) ∈ g_W := w_c5 19 rfl rfl
set_option maxRecDepth 100000 in
theorem w_5_20 : (Cond.methodLink "TracePacksModel" (111 : Nat) ({ cls := "TracePacksModel", name := "sayDifference", desc := "(I)V" } : MethodName)) ∈ g_W := w_c5 20 rfl rfl
set_option maxRecDepth 100000 in
theorem w_5_22 : (Cond.instanceMethod ({ cls := "TracePacksModel", name := "sayDifference", desc := "(I)V" } : MethodName)) ∈ g_W := w_c5 22 rfl rfl
set_option maxRecDepth 100000 in
theorem w_5_23 : (Cond.code ({ cls := "TracePacksModel", name := "sayDifference", desc := "(I)V" } : MethodName) prog_12_method_8_code (2 : Nat) (Option.none : Option FieldType)) ∈ g_W := w_c5 23 rfl rfl
set_option maxRecDepth 100000 in
theorem w_5_24 : (Cond.constantLong "TracePacksModel" (94 : Nat) (2 : Int64)) ∈ g_W := w_c5 24 rfl rfl
set_option maxRecDepth 100000 in
theorem w_5_25 : (Cond.constantLong "TracePacksModel" (96 : Nat) (-2 : Int64)) ∈ g_W := w_c5 25 rfl rfl
set_option maxRecDepth 100000 in
theorem w_5_26 : (Cond.methodLink "TracePacksModel" (98 : Nat) ({ cls := "TracePacksModel", name := "sayNumber", desc := "(J)V" } : MethodName)) ∈ g_W := w_c5 26 rfl rfl
set_option maxRecDepth 100000 in
theorem w_5_28 : (Cond.instanceMethod ({ cls := "TracePacksModel", name := "sayNumber", desc := "(J)V" } : MethodName)) ∈ g_W := w_c5 28 rfl rfl
set_option maxRecDepth 100000 in
theorem w_5_29 : (Cond.code ({ cls := "TracePacksModel", name := "sayNumber", desc := "(J)V" } : MethodName) prog_12_method_7_code (5 : Nat) (Option.none : Option FieldType)) ∈ g_W := w_c5 29 rfl rfl
set_option maxRecDepth 100000 in
theorem w_5_30 : (Cond.constantLong "TracePacksModel" (88 : Nat) (127 : Int64)) ∈ g_W := w_c5 30 rfl rfl
set_option maxRecDepth 100000 in
theorem w_5_31 : (Cond.methodLink "TracePacksModel" (114 : Nat) ({ cls := "TracePacksModel", name := "putValue", desc := "(I)I" } : MethodName)) ∈ g_W := w_c5 31 rfl rfl
set_option maxRecDepth 100000 in
theorem w_5_33 : (Cond.instanceMethod ({ cls := "TracePacksModel", name := "putValue", desc := "(I)I" } : MethodName)) ∈ g_W := w_c5 33 rfl rfl
set_option maxRecDepth 100000 in
theorem w_5_34 : (Cond.code ({ cls := "TracePacksModel", name := "putValue", desc := "(I)I" } : MethodName) prog_12_method_10_code (5 : Nat) (Option.some FieldType.int)) ∈ g_W := w_c5 34 rfl rfl
set_option maxRecDepth 100000 in
theorem w_5_35 : (Cond.methodLink "TracePacksModel" (132 : Nat) ({ cls := "TracePacksModel", name := "sumUp", desc := "(I)V" } : MethodName)) ∈ g_W := w_c5 35 rfl rfl
set_option maxRecDepth 100000 in
theorem w_5_37 : (Cond.instanceMethod ({ cls := "TracePacksModel", name := "sumUp", desc := "(I)V" } : MethodName)) ∈ g_W := w_c5 37 rfl rfl
set_option maxRecDepth 100000 in
theorem w_5_38 : (Cond.code ({ cls := "TracePacksModel", name := "sumUp", desc := "(I)V" } : MethodName) prog_12_method_12_code (3 : Nat) (Option.none : Option FieldType)) ∈ g_W := w_c5 38 rfl rfl
set_option maxRecDepth 100000 in
theorem w_5_39 : (Cond.methodLink "TracePacksModel" (138 : Nat) ({ cls := "TracePacksModel", name := "isShielded", desc := "(I)Z" } : MethodName)) ∈ g_W := w_c5 39 rfl rfl
set_option maxRecDepth 100000 in
theorem w_5_40 : (Cond.static ({ cls := "TracePacksModel", name := "isShielded", desc := "(I)Z" } : MethodName)) ∈ g_W := w_c5 40 rfl rfl
set_option maxRecDepth 100000 in
theorem w_5_41 : (Cond.code ({ cls := "TracePacksModel", name := "isShielded", desc := "(I)Z" } : MethodName) prog_12_method_14_code (1 : Nat) (Option.some FieldType.boolean)) ∈ g_W := w_c5 41 rfl rfl
set_option maxRecDepth 100000 in
theorem w_5_42 : (Cond.methodLink "TracePacksModel" (145 : Nat) ({ cls := "TracePacksModel", name := "putByte", desc := "(I)V" } : MethodName)) ∈ g_W := w_c5 42 rfl rfl
set_option maxRecDepth 100000 in
theorem w_5_44 : (Cond.instanceMethod ({ cls := "TracePacksModel", name := "putByte", desc := "(I)V" } : MethodName)) ∈ g_W := w_c5 44 rfl rfl
set_option maxRecDepth 100000 in
theorem w_5_45 : (Cond.code ({ cls := "TracePacksModel", name := "putByte", desc := "(I)V" } : MethodName) prog_12_method_16_code (2 : Nat) (Option.none : Option FieldType)) ∈ g_W := w_c5 45 rfl rfl
set_option maxRecDepth 100000 in
theorem w_5_46 : (Cond.methodLink "TracePacksLaw" (72 : Nat) ({ cls := "TracePacksModel", name := "mark", desc := "()I" } : MethodName)) ∈ g_W := w_c5 46 rfl rfl
set_option maxRecDepth 100000 in
theorem w_5_47 : (Cond.instanceMethod ({ cls := "TracePacksModel", name := "mark", desc := "()I" } : MethodName)) ∈ g_W := w_c5 47 rfl rfl
set_option maxRecDepth 100000 in
theorem w_5_48 : (Cond.selects "TracePacksModel" ({ cls := "TracePacksModel", name := "mark", desc := "()I" } : MethodName) ({ cls := "TracePacksModel", name := "mark", desc := "()I" } : MethodName)) ∈ g_W := w_c5 48 rfl rfl
set_option maxRecDepth 100000 in
theorem w_5_49 : (Cond.code ({ cls := "TracePacksModel", name := "mark", desc := "()I" } : MethodName) prog_12_method_18_code (1 : Nat) (Option.some FieldType.int)) ∈ g_W := w_c5 49 rfl rfl
set_option maxRecDepth 100000 in
theorem w_5_50 : (Cond.methodLink "TracePacksLaw" (75 : Nat) ({ cls := "TracePacksModel", name := "byteAt", desc := "(I)I" } : MethodName)) ∈ g_W := w_c5 50 rfl rfl
set_option maxRecDepth 100000 in
theorem w_5_51 : (Cond.instanceMethod ({ cls := "TracePacksModel", name := "byteAt", desc := "(I)I" } : MethodName)) ∈ g_W := w_c5 51 rfl rfl
set_option maxRecDepth 100000 in
theorem w_5_52 : (Cond.selects "TracePacksModel" ({ cls := "TracePacksModel", name := "byteAt", desc := "(I)I" } : MethodName) ({ cls := "TracePacksModel", name := "byteAt", desc := "(I)I" } : MethodName)) ∈ g_W := w_c5 52 rfl rfl
set_option maxRecDepth 100000 in
theorem w_5_53 : (Cond.code ({ cls := "TracePacksModel", name := "byteAt", desc := "(I)I" } : MethodName) prog_12_method_19_code (2 : Nat) (Option.some FieldType.int)) ∈ g_W := w_c5 53 rfl rfl
set_option maxRecDepth 100000 in
theorem w_5_54 : (Cond.methodLink "TracePacksLaw" (79 : Nat) ({ cls := "TracePacksModel", name := "flip", desc := "(II)I" } : MethodName)) ∈ g_W := w_c5 54 rfl rfl
set_option maxRecDepth 100000 in
theorem w_5_55 : (Cond.instanceMethod ({ cls := "TracePacksModel", name := "flip", desc := "(II)I" } : MethodName)) ∈ g_W := w_c5 55 rfl rfl
set_option maxRecDepth 100000 in
theorem w_5_56 : (Cond.selects "TracePacksModel" ({ cls := "TracePacksModel", name := "flip", desc := "(II)I" } : MethodName) ({ cls := "TracePacksModel", name := "flip", desc := "(II)I" } : MethodName)) ∈ g_W := w_c5 56 rfl rfl
set_option maxRecDepth 100000 in
theorem w_5_57 : (Cond.code ({ cls := "TracePacksModel", name := "flip", desc := "(II)I" } : MethodName) prog_12_method_20_code (3 : Nat) (Option.some FieldType.int)) ∈ g_W := w_c5 57 rfl rfl
set_option maxRecDepth 100000 in
theorem w_5_58 : (Cond.constantLong "TracePacksModel" (160 : Nat) (255 : Int64)) ∈ g_W := w_c5 58 rfl rfl
set_option maxRecDepth 100000 in
theorem w_5_59 : (Cond.methodLink "TracePacksLaw" (82 : Nat) ({ cls := "TracePacksModel", name := "put", desc := "(I)I" } : MethodName)) ∈ g_W := w_c5 59 rfl rfl
set_option maxRecDepth 100000 in
theorem w_5_60 : (Cond.instanceMethod ({ cls := "TracePacksModel", name := "put", desc := "(I)I" } : MethodName)) ∈ g_W := w_c5 60 rfl rfl
set_option maxRecDepth 100000 in
theorem w_5_61 : (Cond.selects "TracePacksModel" ({ cls := "TracePacksModel", name := "put", desc := "(I)I" } : MethodName) ({ cls := "TracePacksModel", name := "put", desc := "(I)I" } : MethodName)) ∈ g_W := w_c5 61 rfl rfl
set_option maxRecDepth 100000 in
theorem w_5_62 : (Cond.code ({ cls := "TracePacksModel", name := "put", desc := "(I)I" } : MethodName) prog_12_method_21_code (2 : Nat) (Option.some FieldType.int)) ∈ g_W := w_c5 62 rfl rfl
set_option maxRecDepth 100000 in
theorem w_5_63 : (Cond.methodLink "TracePacksLaw" (85 : Nat) ({ cls := "TracePacksModel", name := "cut", desc := "(I)I" } : MethodName)) ∈ g_W := w_c5 63 rfl rfl
set_option maxRecDepth 100000 in
theorem w_5_64 : (Cond.instanceMethod ({ cls := "TracePacksModel", name := "cut", desc := "(I)I" } : MethodName)) ∈ g_W := w_c5 64 rfl rfl
set_option maxRecDepth 100000 in
theorem w_5_65 : (Cond.selects "TracePacksModel" ({ cls := "TracePacksModel", name := "cut", desc := "(I)I" } : MethodName) ({ cls := "TracePacksModel", name := "cut", desc := "(I)I" } : MethodName)) ∈ g_W := w_c5 65 rfl rfl
set_option maxRecDepth 100000 in
theorem w_5_66 : (Cond.code ({ cls := "TracePacksModel", name := "cut", desc := "(I)I" } : MethodName) prog_12_method_22_code (3 : Nat) (Option.some FieldType.int)) ∈ g_W := w_c5 66 rfl rfl
set_option maxRecDepth 100000 in
theorem w_5_67 : (Cond.methodLink "TracePacksLaw" (88 : Nat) ({ cls := "TracePacksModel", name := "choose", desc := "(II)I" } : MethodName)) ∈ g_W := w_c5 67 rfl rfl
set_option maxRecDepth 100000 in
theorem w_5_68 : (Cond.instanceMethod ({ cls := "TracePacksModel", name := "choose", desc := "(II)I" } : MethodName)) ∈ g_W := w_c5 68 rfl rfl
set_option maxRecDepth 100000 in
theorem w_5_69 : (Cond.selects "TracePacksModel" ({ cls := "TracePacksModel", name := "choose", desc := "(II)I" } : MethodName) ({ cls := "TracePacksModel", name := "choose", desc := "(II)I" } : MethodName)) ∈ g_W := w_c5 69 rfl rfl
set_option maxRecDepth 100000 in
theorem w_5_70 : (Cond.code ({ cls := "TracePacksModel", name := "choose", desc := "(II)I" } : MethodName) prog_12_method_23_code (4 : Nat) (Option.some FieldType.int)) ∈ g_W := w_c5 70 rfl rfl
set_option maxRecDepth 100000 in
theorem w_5_71 : (Cond.constantLong "TracePacksModel" (162 : Nat) (31 : Int64)) ∈ g_W := w_c5 71 rfl rfl
set_option maxRecDepth 100000 in
theorem w_5_72 : (Cond.constantLong "TracePacksModel" (164 : Nat) (15 : Int64)) ∈ g_W := w_c5 72 rfl rfl
set_option maxRecDepth 100000 in
theorem w_5_73 : (Cond.methodLink "TracePacksLaw" (91 : Nat) ({ cls := "TracePacksModel", name := "read", desc := "(I)I" } : MethodName)) ∈ g_W := w_c5 73 rfl rfl
set_option maxRecDepth 100000 in
theorem w_5_74 : (Cond.instanceMethod ({ cls := "TracePacksModel", name := "read", desc := "(I)I" } : MethodName)) ∈ g_W := w_c5 74 rfl rfl
set_option maxRecDepth 100000 in
theorem w_5_75 : (Cond.selects "TracePacksModel" ({ cls := "TracePacksModel", name := "read", desc := "(I)I" } : MethodName) ({ cls := "TracePacksModel", name := "read", desc := "(I)I" } : MethodName)) ∈ g_W := w_c5 75 rfl rfl
set_option maxRecDepth 100000 in
theorem w_5_76 : (Cond.code ({ cls := "TracePacksModel", name := "read", desc := "(I)I" } : MethodName) prog_12_method_33_code (4 : Nat) (Option.some FieldType.int)) ∈ g_W := w_c5 76 rfl rfl
set_option maxRecDepth 100000 in
theorem w_5_77 : (Cond.methodLink "TracePacksModel" (227 : Nat) ({ cls := "TracePacksModel", name := "block", desc := "(II)V" } : MethodName)) ∈ g_W := w_c5 77 rfl rfl
set_option maxRecDepth 100000 in
theorem w_5_79 : (Cond.instanceMethod ({ cls := "TracePacksModel", name := "block", desc := "(II)V" } : MethodName)) ∈ g_W := w_c5 79 rfl rfl
set_option maxRecDepth 100000 in
theorem w_5_80 : (Cond.code ({ cls := "TracePacksModel", name := "block", desc := "(II)V" } : MethodName) prog_12_method_31_code (7 : Nat) (Option.none : Option FieldType)) ∈ g_W := w_c5 80 rfl rfl
set_option maxRecDepth 100000 in
theorem w_5_81 : (Cond.methodLink "TracePacksModel" (199 : Nat) ({ cls := "TracePacksModel", name := "unshield", desc := "(II)Z" } : MethodName)) ∈ g_W := w_c5 81 rfl rfl
set_option maxRecDepth 100000 in
theorem w_5_83 : (Cond.instanceMethod ({ cls := "TracePacksModel", name := "unshield", desc := "(II)Z" } : MethodName)) ∈ g_W := w_c5 83 rfl rfl
set_option maxRecDepth 100000 in
theorem w_5_84 : (Cond.code ({ cls := "TracePacksModel", name := "unshield", desc := "(II)Z" } : MethodName) prog_12_method_24_code (6 : Nat) (Option.some FieldType.boolean)) ∈ g_W := w_c5 84 rfl rfl
set_option maxRecDepth 100000 in
theorem w_5_85 : (Cond.methodLink "TracePacksModel" (176 : Nat) ({ cls := "TracePacksModel", name := "next", desc := "()I" } : MethodName)) ∈ g_W := w_c5 85 rfl rfl
set_option maxRecDepth 100000 in
theorem w_5_87 : (Cond.instanceMethod ({ cls := "TracePacksModel", name := "next", desc := "()I" } : MethodName)) ∈ g_W := w_c5 87 rfl rfl
set_option maxRecDepth 100000 in
theorem w_5_88 : (Cond.code ({ cls := "TracePacksModel", name := "next", desc := "()I" } : MethodName) prog_12_method_25_code (1 : Nat) (Option.some FieldType.int)) ∈ g_W := w_c5 88 rfl rfl
set_option maxRecDepth 100000 in
theorem w_5_89 : (Cond.methodLink "TracePacksModel" (194 : Nat) ({ cls := "TracePacksModel", name := "nextFour", desc := "()I" } : MethodName)) ∈ g_W := w_c5 89 rfl rfl
set_option maxRecDepth 100000 in
theorem w_5_91 : (Cond.instanceMethod ({ cls := "TracePacksModel", name := "nextFour", desc := "()I" } : MethodName)) ∈ g_W := w_c5 91 rfl rfl
set_option maxRecDepth 100000 in
theorem w_5_92 : (Cond.code ({ cls := "TracePacksModel", name := "nextFour", desc := "()I" } : MethodName) prog_12_method_28_code (3 : Nat) (Option.some FieldType.int)) ∈ g_W := w_c5 92 rfl rfl
set_option maxRecDepth 100000 in
theorem w_5_93 : (Cond.constantLong "TracePacksModel" (203 : Nat) (100 : Int64)) ∈ g_W := w_c5 93 rfl rfl
set_option maxRecDepth 100000 in
theorem w_5_94 : (Cond.methodLink "TracePacksModel" (205 : Nat) ({ cls := "TracePacksModel", name := "getRows", desc := "(I)V" } : MethodName)) ∈ g_W := w_c5 94 rfl rfl
set_option maxRecDepth 100000 in
theorem w_5_96 : (Cond.instanceMethod ({ cls := "TracePacksModel", name := "getRows", desc := "(I)V" } : MethodName)) ∈ g_W := w_c5 96 rfl rfl
set_option maxRecDepth 100000 in
theorem w_5_97 : (Cond.code ({ cls := "TracePacksModel", name := "getRows", desc := "(I)V" } : MethodName) prog_12_method_30_code (13 : Nat) (Option.none : Option FieldType)) ∈ g_W := w_c5 97 rfl rfl
set_option maxRecDepth 100000 in
theorem w_5_98 : (Cond.methodLink "TracePacksModel" (187 : Nat) ({ cls := "TracePacksModel", name := "get", desc := "(IIII)V" } : MethodName)) ∈ g_W := w_c5 98 rfl rfl
set_option maxRecDepth 100000 in
theorem w_5_100 : (Cond.instanceMethod ({ cls := "TracePacksModel", name := "get", desc := "(IIII)V" } : MethodName)) ∈ g_W := w_c5 100 rfl rfl
set_option maxRecDepth 100000 in
theorem w_5_101 : (Cond.code ({ cls := "TracePacksModel", name := "get", desc := "(IIII)V" } : MethodName) prog_12_method_29_code (5 : Nat) (Option.none : Option FieldType)) ∈ g_W := w_c5 101 rfl rfl
set_option maxRecDepth 100000 in
theorem w_5_102 : (Cond.methodLink "TracePacksModel" (191 : Nat) ({ cls := "TracePacksModel", name := "nextDifference", desc := "()I" } : MethodName)) ∈ g_W := w_c5 102 rfl rfl
set_option maxRecDepth 100000 in
theorem w_5_104 : (Cond.instanceMethod ({ cls := "TracePacksModel", name := "nextDifference", desc := "()I" } : MethodName)) ∈ g_W := w_c5 104 rfl rfl
set_option maxRecDepth 100000 in
theorem w_5_105 : (Cond.code ({ cls := "TracePacksModel", name := "nextDifference", desc := "()I" } : MethodName) prog_12_method_27_code (3 : Nat) (Option.some FieldType.int)) ∈ g_W := w_c5 105 rfl rfl
set_option maxRecDepth 100000 in
theorem w_5_106 : (Cond.methodLink "TracePacksModel" (180 : Nat) ({ cls := "TracePacksModel", name := "nextNumber", desc := "()J" } : MethodName)) ∈ g_W := w_c5 106 rfl rfl
set_option maxRecDepth 100000 in
theorem w_5_108 : (Cond.instanceMethod ({ cls := "TracePacksModel", name := "nextNumber", desc := "()J" } : MethodName)) ∈ g_W := w_c5 108 rfl rfl
set_option maxRecDepth 100000 in
theorem w_5_109 : (Cond.code ({ cls := "TracePacksModel", name := "nextNumber", desc := "()J" } : MethodName) prog_12_method_26_code (5 : Nat) (Option.some FieldType.long)) ∈ g_W := w_c5 109 rfl rfl
set_option maxRecDepth 100000 in
theorem w_5_110 : (Cond.constantLong "TracePacksModel" (197 : Nat) (2147483647 : Int64)) ∈ g_W := w_c5 110 rfl rfl
set_option maxRecDepth 100000 in
theorem w_5_111 : (Cond.methodLink "TracePacksModel" (211 : Nat) ({ cls := "TracePacksModel", name := "keep", desc := "(II)V" } : MethodName)) ∈ g_W := w_c5 111 rfl rfl
set_option maxRecDepth 100000 in
theorem w_5_113 : (Cond.instanceMethod ({ cls := "TracePacksModel", name := "keep", desc := "(II)V" } : MethodName)) ∈ g_W := w_c5 113 rfl rfl
set_option maxRecDepth 100000 in
theorem w_5_114 : (Cond.code ({ cls := "TracePacksModel", name := "keep", desc := "(II)V" } : MethodName) prog_12_method_32_code (4 : Nat) (Option.none : Option FieldType)) ∈ g_W := w_c5 114 rfl rfl
set_option maxRecDepth 100000 in
theorem w_5_115 : (Cond.methodLink "TracePacksLaw" (94 : Nat) ({ cls := "TracePacksModel", name := "kept", desc := "(II)I" } : MethodName)) ∈ g_W := w_c5 115 rfl rfl
set_option maxRecDepth 100000 in
theorem w_5_116 : (Cond.instanceMethod ({ cls := "TracePacksModel", name := "kept", desc := "(II)I" } : MethodName)) ∈ g_W := w_c5 116 rfl rfl
set_option maxRecDepth 100000 in
theorem w_5_117 : (Cond.selects "TracePacksModel" ({ cls := "TracePacksModel", name := "kept", desc := "(II)I" } : MethodName) ({ cls := "TracePacksModel", name := "kept", desc := "(II)I" } : MethodName)) ∈ g_W := w_c5 117 rfl rfl
set_option maxRecDepth 100000 in
theorem w_5_118 : (Cond.code ({ cls := "TracePacksModel", name := "kept", desc := "(II)I" } : MethodName) prog_12_method_34_code (3 : Nat) (Option.some FieldType.int)) ∈ g_W := w_c5 118 rfl rfl
set_option maxRecDepth 100000 in
theorem w_5_119 : (Cond.constantLong "TracePacksModel" (230 : Nat) (5 : Int64)) ∈ g_W := w_c5 119 rfl rfl
set_option maxRecDepth 100000 in
theorem w_5_120 : (Cond.methodLink "TracePacksLaw" (97 : Nat) ({ cls := "TracePacksModel", name := "merged", desc := "(I)I" } : MethodName)) ∈ g_W := w_c5 120 rfl rfl
set_option maxRecDepth 100000 in
theorem w_5_121 : (Cond.instanceMethod ({ cls := "TracePacksModel", name := "merged", desc := "(I)I" } : MethodName)) ∈ g_W := w_c5 121 rfl rfl
set_option maxRecDepth 100000 in
theorem w_5_122 : (Cond.selects "TracePacksModel" ({ cls := "TracePacksModel", name := "merged", desc := "(I)I" } : MethodName) ({ cls := "TracePacksModel", name := "merged", desc := "(I)I" } : MethodName)) ∈ g_W := w_c5 122 rfl rfl
set_option maxRecDepth 100000 in
theorem w_5_123 : (Cond.code ({ cls := "TracePacksModel", name := "merged", desc := "(I)I" } : MethodName) prog_12_method_36_code (6 : Nat) (Option.some FieldType.int)) ∈ g_W := w_c5 123 rfl rfl
set_option maxRecDepth 100000 in
theorem w_5_124 : (Cond.methodLink "TracePacksModel" (232 : Nat) ({ cls := "TracePacksModel", name := "isBefore", desc := "(II)Z" } : MethodName)) ∈ g_W := w_c5 124 rfl rfl
set_option maxRecDepth 100000 in
theorem w_5_126 : (Cond.instanceMethod ({ cls := "TracePacksModel", name := "isBefore", desc := "(II)Z" } : MethodName)) ∈ g_W := w_c5 126 rfl rfl
set_option maxRecDepth 100000 in
theorem w_5_127 : (Cond.code ({ cls := "TracePacksModel", name := "isBefore", desc := "(II)Z" } : MethodName) prog_12_method_35_code (3 : Nat) (Option.some FieldType.boolean)) ∈ g_W := w_c5 127 rfl rfl
set_option maxRecDepth 100000 in
theorem w_5_128 : (Cond.methodLink "TracePacksLaw" (101 : Nat) ({ cls := "TracePacksModel", name := "count", desc := "(I)I" } : MethodName)) ∈ g_W := w_c5 128 rfl rfl
set_option maxRecDepth 100000 in
theorem w_5_129 : (Cond.instanceMethod ({ cls := "TracePacksModel", name := "count", desc := "(I)I" } : MethodName)) ∈ g_W := w_c5 129 rfl rfl
set_option maxRecDepth 100000 in
theorem w_5_130 : (Cond.selects "TracePacksModel" ({ cls := "TracePacksModel", name := "count", desc := "(I)I" } : MethodName) ({ cls := "TracePacksModel", name := "count", desc := "(I)I" } : MethodName)) ∈ g_W := w_c5 130 rfl rfl
set_option maxRecDepth 100000 in
theorem w_5_131 : (Cond.code ({ cls := "TracePacksModel", name := "count", desc := "(I)I" } : MethodName) prog_12_method_37_code (2 : Nat) (Option.some FieldType.int)) ∈ g_W := w_c5 131 rfl rfl
set_option maxRecDepth 100000 in
theorem w_5_132 : (Cond.arrayClass FieldType.long) ∈ g_W := w_c5 132 rfl rfl
set_option maxRecDepth 100000 in
theorem w_p1 : Cond.selects "TracePacks" ⟨"TracePacks", "isRow", "(III)Z"⟩ ⟨"TracePacks", "isRow", "(III)Z"⟩ ∈ g_W := w_pr 1 rfl rfl
set_option maxRecDepth 100000 in
theorem w_p2 : Cond.selects "TracePacks" ⟨"TracePacks", "closeOpen", "()Z"⟩ ⟨"TracePacks", "closeOpen", "()Z"⟩ ∈ g_W := w_pr 2 rfl rfl
set_option maxRecDepth 100000 in
theorem w_p3 : Cond.selects "TracePacks$Packer" ⟨"TracePacks$Packer", "addWord", "(I)V"⟩ ⟨"TracePacks$Packer", "addWord", "(I)V"⟩ ∈ g_W := w_pr 3 rfl rfl
set_option maxRecDepth 100000 in
theorem w_p4 : Cond.selects "TracePacks$Packer" ⟨"TracePacks$Packer", "addBranches", "()V"⟩ ⟨"TracePacks$Packer", "addBranches", "()V"⟩ ∈ g_W := w_pr 4 rfl rfl
set_option maxRecDepth 100000 in
theorem w_p5 : Cond.selects "TracePacks$Packer" ⟨"TracePacks$Packer", "addKind", "(II)V"⟩ ⟨"TracePacks$Packer", "addKind", "(II)V"⟩ ∈ g_W := w_pr 5 rfl rfl
set_option maxRecDepth 100000 in
theorem w_p6 : Cond.selects "TracePacks$Packer" ⟨"TracePacks$Packer", "addRow", "(III)V"⟩ ⟨"TracePacks$Packer", "addRow", "(III)V"⟩ ∈ g_W := w_pr 6 rfl rfl
set_option maxRecDepth 100000 in
theorem w_p7 : Cond.selects "TracePacks$Packer" ⟨"TracePacks$Packer", "addNumber", "(J)V"⟩ ⟨"TracePacks$Packer", "addNumber", "(J)V"⟩ ∈ g_W := w_pr 7 rfl rfl
set_option maxRecDepth 100000 in
theorem w_p8 : Cond.selects "TracePacks$Packer" ⟨"TracePacks$Packer", "addLoad", "(I)V"⟩ ⟨"TracePacks$Packer", "addLoad", "(I)V"⟩ ∈ g_W := w_pr 8 rfl rfl
set_option maxRecDepth 100000 in
theorem w_p9 : Cond.selects "TracePacks$Packer" ⟨"TracePacks$Packer", "addStore", "(II)V"⟩ ⟨"TracePacks$Packer", "addStore", "(II)V"⟩ ∈ g_W := w_pr 9 rfl rfl
set_option maxRecDepth 100000 in
theorem w_p10 : Cond.selects "TracePacks$Packer" ⟨"TracePacks$Packer", "lengthShielded", "()I"⟩ ⟨"TracePacks$Packer", "lengthShielded", "()I"⟩ ∈ g_W := w_pr 10 rfl rfl
set_option maxRecDepth 100000 in
theorem w_p11 : Cond.selects "TracePacks$Reader" ⟨"TracePacks$Reader", "clear", "()V"⟩ ⟨"TracePacks$Reader", "clear", "()V"⟩ ∈ g_W := w_pr 11 rfl rfl
set_option maxRecDepth 100000 in
theorem w_p12 : Cond.selects "TracePacks$Unpacker" ⟨"TracePacks$Unpacker", "unshield", "(LTracePacks$Ints;II)Z"⟩ ⟨"TracePacks$Unpacker", "unshield", "(LTracePacks$Ints;II)Z"⟩ ∈ g_W := w_pr 12 rfl rfl
set_option maxRecDepth 100000 in
theorem w_p13 : Cond.selects "TracePacks$Unpacker" ⟨"TracePacks$Unpacker", "takeSum", "()Z"⟩ ⟨"TracePacks$Unpacker", "takeSum", "()Z"⟩ ∈ g_W := w_pr 13 rfl rfl
set_option maxRecDepth 100000 in
theorem w_p14 : Cond.selects "TracePacks$Unpacker" ⟨"TracePacks$Unpacker", "takeHead", "()Z"⟩ ⟨"TracePacks$Unpacker", "takeHead", "()Z"⟩ ∈ g_W := w_pr 14 rfl rfl
set_option maxRecDepth 100000 in
theorem w_p15 : Cond.selects "TracePacks$Unpacker" ⟨"TracePacks$Unpacker", "takeWord", "()J"⟩ ⟨"TracePacks$Unpacker", "takeWord", "()J"⟩ ∈ g_W := w_pr 15 rfl rfl
set_option maxRecDepth 100000 in
theorem w_p16 : Cond.selects "TracePacks$Unpacker" ⟨"TracePacks$Unpacker", "takeRow", "()Z"⟩ ⟨"TracePacks$Unpacker", "takeRow", "()Z"⟩ ∈ g_W := w_pr 16 rfl rfl
set_option maxRecDepth 100000 in
theorem w_p17 : Cond.selects "TracePacks$Unpacker" ⟨"TracePacks$Unpacker", "takeNumber", "()J"⟩ ⟨"TracePacks$Unpacker", "takeNumber", "()J"⟩ ∈ g_W := w_pr 17 rfl rfl
set_option maxRecDepth 100000 in
theorem w_p18 : Cond.selects "TracePacks$Unpacker" ⟨"TracePacks$Unpacker", "takeBranches", "(I)Z"⟩ ⟨"TracePacks$Unpacker", "takeBranches", "(I)Z"⟩ ∈ g_W := w_pr 18 rfl rfl
set_option maxRecDepth 100000 in
theorem w_p19 : Cond.selects "TracePacks$Unpacker" ⟨"TracePacks$Unpacker", "takeJump", "(J)Z"⟩ ⟨"TracePacks$Unpacker", "takeJump", "(J)Z"⟩ ∈ g_W := w_pr 19 rfl rfl
set_option maxRecDepth 100000 in
theorem w_p20 : Cond.selects "TracePacks$Unpacker" ⟨"TracePacks$Unpacker", "takeLoad", "(IJ)Z"⟩ ⟨"TracePacks$Unpacker", "takeLoad", "(IJ)Z"⟩ ∈ g_W := w_pr 20 rfl rfl
set_option maxRecDepth 100000 in
theorem w_p21 : Cond.selects "TracePacks$Unpacker" ⟨"TracePacks$Unpacker", "takeStore", "(IJ)Z"⟩ ⟨"TracePacks$Unpacker", "takeStore", "(IJ)Z"⟩ ∈ g_W := w_pr 21 rfl rfl
set_option maxRecDepth 100000 in
theorem w_p22 : Cond.selects "TracePacks$Unpacker" ⟨"TracePacks$Unpacker", "takeTime", "(J)Z"⟩ ⟨"TracePacks$Unpacker", "takeTime", "(J)Z"⟩ ∈ g_W := w_pr 22 rfl rfl
set_option maxRecDepth 100000 in
theorem w_p23 : Cond.selects "TracePacks$Reader" ⟨"TracePacks$Reader", "keepRows", "(LTracePacks$Block;I)V"⟩ ⟨"TracePacks$Reader", "keepRows", "(LTracePacks$Block;I)V"⟩ ∈ g_W := w_pr 23 rfl rfl
set_option maxRecDepth 100000 in
theorem w_p24 : Cond.selects "TracePacks$Kept" ⟨"TracePacks$Kept", "putInOrder", "()V"⟩ ⟨"TracePacks$Kept", "putInOrder", "()V"⟩ ∈ g_W := w_pr 24 rfl rfl
set_option maxRecDepth 100000 in
theorem w_p25 : Cond.selects "TracePacks$Kept" ⟨"TracePacks$Kept", "joinRuns", "(III)V"⟩ ⟨"TracePacks$Kept", "joinRuns", "(III)V"⟩ ∈ g_W := w_pr 25 rfl rfl
set_option maxRecDepth 100000 in
theorem w_p26 : Cond.selects "TracePacks$Kept" ⟨"TracePacks$Kept", "goesBefore", "(II)Z"⟩ ⟨"TracePacks$Kept", "goesBefore", "(II)Z"⟩ ∈ g_W := w_pr 26 rfl rfl
set_option maxRecDepth 100000 in
theorem w_p27 : Cond.selects "TracePacksModel" ⟨"TracePacksModel", "fail", "(I)I"⟩ ⟨"TracePacksModel", "fail", "(I)I"⟩ ∈ g_W := w_pr 27 rfl rfl
set_option maxRecDepth 100000 in
theorem w_p28 : Cond.selects "TracePacksModel" ⟨"TracePacksModel", "close", "()Z"⟩ ⟨"TracePacksModel", "close", "()Z"⟩ ∈ g_W := w_pr 28 rfl rfl
set_option maxRecDepth 100000 in
theorem w_p29 : Cond.selects "TracePacksModel" ⟨"TracePacksModel", "makeInside", "()V"⟩ ⟨"TracePacksModel", "makeInside", "()V"⟩ ∈ g_W := w_pr 29 rfl rfl
set_option maxRecDepth 100000 in
theorem w_p30 : Cond.selects "TracePacksModel" ⟨"TracePacksModel", "say", "(I)V"⟩ ⟨"TracePacksModel", "say", "(I)V"⟩ ∈ g_W := w_pr 30 rfl rfl
set_option maxRecDepth 100000 in
theorem w_p31 : Cond.selects "TracePacksModel" ⟨"TracePacksModel", "sayFour", "(I)V"⟩ ⟨"TracePacksModel", "sayFour", "(I)V"⟩ ∈ g_W := w_pr 31 rfl rfl
set_option maxRecDepth 100000 in
theorem w_p32 : Cond.selects "TracePacksModel" ⟨"TracePacksModel", "sayRows", "()V"⟩ ⟨"TracePacksModel", "sayRows", "()V"⟩ ∈ g_W := w_pr 32 rfl rfl
set_option maxRecDepth 100000 in
theorem w_p33 : Cond.selects "TracePacksModel" ⟨"TracePacksModel", "sayDifference", "(I)V"⟩ ⟨"TracePacksModel", "sayDifference", "(I)V"⟩ ∈ g_W := w_pr 33 rfl rfl
set_option maxRecDepth 100000 in
theorem w_p34 : Cond.selects "TracePacksModel" ⟨"TracePacksModel", "sayNumber", "(J)V"⟩ ⟨"TracePacksModel", "sayNumber", "(J)V"⟩ ∈ g_W := w_pr 34 rfl rfl
set_option maxRecDepth 100000 in
theorem w_p35 : Cond.selects "TracePacksModel" ⟨"TracePacksModel", "putValue", "(I)I"⟩ ⟨"TracePacksModel", "putValue", "(I)I"⟩ ∈ g_W := w_pr 35 rfl rfl
set_option maxRecDepth 100000 in
theorem w_p36 : Cond.selects "TracePacksModel" ⟨"TracePacksModel", "sumUp", "(I)V"⟩ ⟨"TracePacksModel", "sumUp", "(I)V"⟩ ∈ g_W := w_pr 36 rfl rfl
set_option maxRecDepth 100000 in
theorem w_p37 : Cond.selects "TracePacksModel" ⟨"TracePacksModel", "putByte", "(I)V"⟩ ⟨"TracePacksModel", "putByte", "(I)V"⟩ ∈ g_W := w_pr 37 rfl rfl
set_option maxRecDepth 100000 in
theorem w_p38 : Cond.selects "TracePacksModel" ⟨"TracePacksModel", "block", "(II)V"⟩ ⟨"TracePacksModel", "block", "(II)V"⟩ ∈ g_W := w_pr 38 rfl rfl
set_option maxRecDepth 100000 in
theorem w_p39 : Cond.selects "TracePacksModel" ⟨"TracePacksModel", "unshield", "(II)Z"⟩ ⟨"TracePacksModel", "unshield", "(II)Z"⟩ ∈ g_W := w_pr 39 rfl rfl
set_option maxRecDepth 100000 in
theorem w_p40 : Cond.selects "TracePacksModel" ⟨"TracePacksModel", "next", "()I"⟩ ⟨"TracePacksModel", "next", "()I"⟩ ∈ g_W := w_pr 40 rfl rfl
set_option maxRecDepth 100000 in
theorem w_p41 : Cond.selects "TracePacksModel" ⟨"TracePacksModel", "nextFour", "()I"⟩ ⟨"TracePacksModel", "nextFour", "()I"⟩ ∈ g_W := w_pr 41 rfl rfl
set_option maxRecDepth 100000 in
theorem w_p42 : Cond.selects "TracePacksModel" ⟨"TracePacksModel", "getRows", "(I)V"⟩ ⟨"TracePacksModel", "getRows", "(I)V"⟩ ∈ g_W := w_pr 42 rfl rfl
set_option maxRecDepth 100000 in
theorem w_p43 : Cond.selects "TracePacksModel" ⟨"TracePacksModel", "get", "(IIII)V"⟩ ⟨"TracePacksModel", "get", "(IIII)V"⟩ ∈ g_W := w_pr 43 rfl rfl
set_option maxRecDepth 100000 in
theorem w_p44 : Cond.selects "TracePacksModel" ⟨"TracePacksModel", "nextDifference", "()I"⟩ ⟨"TracePacksModel", "nextDifference", "()I"⟩ ∈ g_W := w_pr 44 rfl rfl
set_option maxRecDepth 100000 in
theorem w_p45 : Cond.selects "TracePacksModel" ⟨"TracePacksModel", "nextNumber", "()J"⟩ ⟨"TracePacksModel", "nextNumber", "()J"⟩ ∈ g_W := w_pr 45 rfl rfl
set_option maxRecDepth 100000 in
theorem w_p46 : Cond.selects "TracePacksModel" ⟨"TracePacksModel", "keep", "(II)V"⟩ ⟨"TracePacksModel", "keep", "(II)V"⟩ ∈ g_W := w_pr 46 rfl rfl
set_option maxRecDepth 100000 in
theorem w_p47 : Cond.selects "TracePacksModel" ⟨"TracePacksModel", "isBefore", "(II)Z"⟩ ⟨"TracePacksModel", "isBefore", "(II)Z"⟩ ∈ g_W := w_pr 47 rfl rfl
end
section
/-! THE G ROWS, first part: a heap of cells by address, a method's frame, what it comes to.
g_E: an int array, a long array, a byte array, or an object (its number in vwCl, its fields). g_H: the cells, how many cells there are, how many slots. -/
abbrev g_E : Type := (List Int32 ⊕ (List Int64 ⊕ List Int32)) ⊕ (Nat × List Value)
abbrev g_H : Type := (Nat → Option g_E) × Nat × Nat
abbrev g_D : Type := va_G × ClassId × ClassId × ClassId
abbrev g_R : Type := Option Value ⊕ String
abbrev g_L : Type := List (Option Value)
/-- a method: its name, code, how many locals, answer, (frames, words of the stack that it needs), handlers, the script that it may read -/
abbrev g_J : Type := MethodName × ByteArray × Nat × Option FieldType × (Nat × Nat) × List (Nat × Nat × Nat × Nat) × Option (Nat × List Int32)
def g_At (D : g_D) (a : Nat) (x : g_E) (H : Heap) : Prop := match x with
  | .inl (.inl xs) => H[a]? = some (arrV D.2.1 xs.length (fun j => .int (xs.getD j 0)))
  | .inl (.inr (.inl xs)) => H[a]? = some (arrV D.2.2.1 xs.length (fun j => .long (xs.getD j 0)))
  | .inl (.inr (.inr xs)) => H[a]? = some (arrV D.2.2.2 xs.length (fun j => .int (xs.getD j 0)))
  | .inr o => va_at D.1 vwCl (a, .inr o) H
theorem g_At_kept {D : g_D} {a : Nat} {x : g_E} {H H1 : Heap} (h : g_At D a x H) (hq : H1[a]? = H[a]?) : g_At D a x H1 := by
  rcases x with (xs | xs | xs) | o
  · exact hq.trans h
  · exact hq.trans h
  · exact hq.trans h
  · exact va_at.kept (q := (a, .inr o)) h hq
theorem g_At_lt {D : g_D} {a : Nat} {x : g_E} {H : Heap} (h : g_At D a x H) : a < H.size := by
  rcases x with (xs | xs | xs) | o
  · exact (Array.getElem?_eq_some_iff.mp h).1
  · exact (Array.getElem?_eq_some_iff.mp h).1
  · exact (Array.getElem?_eq_some_iff.mp h).1
  · exact va_at.lt (q := (a, .inr o)) h
def g_Rep (D : g_D) (h : g_H) (H : Heap) : Prop := H.size = h.2.1 ∧ ∀ (a : Nat) (x : g_E), h.1 a = some x → g_At D a x H
def g_K (D : g_D) (U : State) : Prop := va_K D.1 vwCl [(D.2.1, .int), (D.2.2.1, .long), (D.2.2.2, .byte)] U
/-- what a method that begins with h may write: its cells, and new ones -/
def g_A (h : g_H) : Nat → Prop := fun q => h.1 q ≠ none ∨ h.2.1 ≤ q
def g_up (h : g_H) (a : Nat) (x : g_E) : g_H := (fun q => if q = a then some x else h.1 q, h.2.1, h.2.2)
def g_nw (h : g_H) (x : g_E) (n : Nat) : g_H := (fun q => if q = h.2.1 then some x else h.1 q, h.2.1 + 1, h.2.2 + n)
theorem g_Rep_up {D : g_D} {h : g_H} {H H1 : Heap} {a : Nat} {x0 x : g_E} (hR : g_Rep D h H) (_ : h.1 a = some x0) (hx : g_At D a x H1) (hz : H1.size = H.size) (oq : ∀ q : Nat, q ≠ a → H1[q]? = H[q]?) : g_Rep D (g_up h a x) H1 := by
  refine ⟨hz.trans hR.1, fun b y hb => ?_⟩
  by_cases hba : b = a
  · subst hba
    simp only [g_up, if_true] at hb
    cases hb
    exact hx
  · simp only [g_up, if_neg hba] at hb
    exact g_At_kept (hR.2 b y hb) (oq b hba)
theorem g_Rep_nw {D : g_D} {h : g_H} {H H1 : Heap} {x : g_E} {n : Nat} (hR : g_Rep D h H) (hx : g_At D h.2.1 x H1) (hz : H1.size = h.2.1 + 1) (oq : ∀ q : Nat, q < h.2.1 → H1[q]? = H[q]?) : g_Rep D (g_nw h x n) H1 := by
  refine ⟨hz, fun b y hb => ?_⟩
  by_cases hba : b = h.2.1
  · subst hba
    simp only [g_nw, if_true] at hb
    cases hb
    exact hx
  · simp only [g_nw, if_neg hba] at hb
    have h1 := hR.2 b y hb
    have h2 := g_At_lt h1
    exact g_At_kept h1 (oq b (by rw [hR.1] at h2; exact h2))
/-! the locals: by their places -/
def g_prs : Nat → g_L → List (Nat × Value)
  | _, [] => []
  | i, some v :: t => (i, v) :: g_prs (i + 1) t
  | i, none :: t => g_prs (i + 1) t
def g_lk : g_L → Nat → Option Value
  | [], _ => none
  | x :: _, 0 => x
  | _ :: t, i + 1 => g_lk t i
def g_dr (x : Option Value) : Option Value := match x with
  | none => none
  | some (.long _) => none
  | some (.double _) => none
  | some v => some v
def g_st1 : g_L → Nat → Value → g_L
  | [], _, _ => []
  | _ :: t, 0, v => some v :: t
  | x :: t, 1, v => g_dr x :: g_st1 t 0 v
  | x :: t, i + 2, v => x :: g_st1 t (i + 1) v
def g_cl : g_L → Nat → g_L
  | [], _ => []
  | _ :: t, 0 => none :: t
  | x :: t, i + 1 => x :: g_cl t i
def g_Ls (ls : Array Slot) (n : Nat) (L : g_L) : Prop := lv_has ls n (g_prs 0 L)
theorem g_lk_mem : ∀ (L : g_L) (i k : Nat) (v : Value), g_lk L i = some v → (k + i, v) ∈ g_prs k L
  | [], i, k, v, h => by simp [g_lk] at h
  | x :: t, 0, k, v, h => by
    simp only [g_lk] at h
    subst h
    simp [g_prs]
  | x :: t, i + 1, k, v, h => by
    have h1 := g_lk_mem t i (k + 1) v h
    have e : k + 1 + i = k + (i + 1) := by omega
    rw [e] at h1
    cases x with
    | none => exact h1
    | some w => exact List.mem_cons_of_mem _ h1
theorem g_prs_lo : ∀ (L : g_L) (k : Nat) (q : Nat × Value), q ∈ g_prs k L → k ≤ q.1
  | [], k, q, h => by simp [g_prs] at h
  | none :: t, k, q, h => by
    have := g_prs_lo t (k + 1) q h
    omega
  | some v :: t, k, q, h => by
    simp only [g_prs] at h
    rcases List.mem_cons.mp h with rfl | h
    · exact Nat.le_refl _
    · have := g_prs_lo t (k + 1) q h
      omega
theorem g_dr_mem {x : Option Value} {t : g_L} {k : Nat} {q : Nat × Value} (h : q ∈ g_prs k (g_dr x :: t)) : (q ∈ g_prs k (x :: t) ∧ ¬ (q.1 = k ∧ q.2.category = 2)) ∨ q ∈ g_prs (k + 1) t := by
  rcases x with _ | w
  · exact Or.inr h
  · cases w with
    | long z => exact Or.inr h
    | double z => exact Or.inr h
    | _ =>
      simp only [g_dr, g_prs] at h
      rcases List.mem_cons.mp h with rfl | h
      · exact Or.inl ⟨by simp [g_prs], fun q => by simp [Value.category] at q⟩
      · exact Or.inr h
theorem g_st1_mem : ∀ (L : g_L) (i k : Nat) (v : Value) (q : Nat × Value), q ∈ g_prs k (g_st1 L i v) → q = (k + i, v) ∨ (q ∈ g_prs k L ∧ q.1 ≠ k + i ∧ ¬ (q.1 + 1 = k + i ∧ q.2.category = 2))
  | [], i, k, v, q, h => by simp [g_st1, g_prs] at h
  | x :: t, 0, k, v, q, h => by
    simp only [g_st1, g_prs] at h
    rcases List.mem_cons.mp h with rfl | h
    · exact Or.inl rfl
    · have h1 := g_prs_lo t (k + 1) q h
      refine Or.inr ⟨?_, by omega, by omega⟩
      cases x with
      | none => exact h
      | some w => exact List.mem_cons_of_mem _ h
  | x :: t, 1, k, v, q, h => by
    simp only [g_st1] at h
    rcases g_dr_mem h with ⟨h1, h2⟩ | h1
    · have h3 : q ∈ g_prs k (x :: g_st1 t 0 v) := h1
      cases x with
      | none =>
        rcases g_st1_mem t 0 (k + 1) v q h3 with rfl | ⟨a, b, c⟩
        · exact Or.inl (by simp)
        · exact Or.inr ⟨a, by omega, fun z => c ⟨by omega, z.2⟩⟩
      | some w =>
        rcases List.mem_cons.mp h3 with rfl | h3
        · exact Or.inr ⟨List.mem_cons_self, by simp, fun z => h2 ⟨rfl, z.2⟩⟩
        · rcases g_st1_mem t 0 (k + 1) v q h3 with rfl | ⟨a, b, c⟩
          · exact Or.inl (by simp)
          · exact Or.inr ⟨List.mem_cons_of_mem _ a, by omega, fun z => c ⟨by omega, z.2⟩⟩
    · rcases g_st1_mem t 0 (k + 1) v q h1 with rfl | ⟨a, b, c⟩
      · exact Or.inl (by simp)
      · refine Or.inr ⟨?_, by omega, fun z => c ⟨by omega, z.2⟩⟩
        cases x with
        | none => exact a
        | some w => exact List.mem_cons_of_mem _ a
  | x :: t, i + 2, k, v, q, h => by
    have e : k + 1 + (i + 1) = k + (i + 2) := by omega
    cases x with
    | none =>
      rcases g_st1_mem t (i + 1) (k + 1) v q h with h1 | ⟨a, b, c⟩
      · rw [e] at h1
        exact Or.inl h1
      · rw [e] at b c
        exact Or.inr ⟨a, b, c⟩
    | some w =>
      simp only [g_st1, g_prs] at h
      rcases List.mem_cons.mp h with rfl | h
      · exact Or.inr ⟨List.mem_cons_self, by simp, fun z => by have := z.1; simp at this⟩
      · rcases g_st1_mem t (i + 1) (k + 1) v q h with h1 | ⟨a, b, c⟩
        · rw [e] at h1
          exact Or.inl h1
        · rw [e] at b c
          exact Or.inr ⟨List.mem_cons_of_mem _ a, b, c⟩
theorem g_cl_mem : ∀ (L : g_L) (i k : Nat) (q : Nat × Value), q ∈ g_prs k (g_cl L i) → q ∈ g_prs k L ∧ q.1 ≠ k + i
  | [], i, k, q, h => by simp [g_cl, g_prs] at h
  | x :: t, 0, k, q, h => by
    simp only [g_cl, g_prs] at h
    have h1 := g_prs_lo t (k + 1) q h
    refine ⟨?_, by omega⟩
    cases x with
    | none => exact h
    | some w => exact List.mem_cons_of_mem _ h
  | x :: t, i + 1, k, q, h => by
    cases x with
    | none =>
      obtain ⟨a, b⟩ := g_cl_mem t i (k + 1) q h
      exact ⟨a, by omega⟩
    | some w =>
      simp only [g_cl, g_prs] at h
      rcases List.mem_cons.mp h with rfl | h
      · exact ⟨List.mem_cons_self, by simp⟩
      · obtain ⟨a, b⟩ := g_cl_mem t i (k + 1) q h
        exact ⟨List.mem_cons_of_mem _ a, by omega⟩
theorem g_Ls_at {ls : Array Slot} {n : Nat} {L : g_L} {i : Nat} {v : Value} (h : g_Ls ls n L) (hv : g_lk L i = some v) : ls[i]? = some (.val v) := by
  have h1 := g_lk_mem L i 0 v hv
  rw [Nat.zero_add] at h1
  exact h.2.2 _ h1
theorem g_Ls_st1 {ls : Array Slot} {n : Nat} {L : g_L} {i : Nat} {v : Value} (h : lv_has ls n ((i, v) :: (g_prs 0 L).filter (fun q => !(q.1 == i) && !(q.1 + 1 == i && q.2.category == 2)))) : g_Ls ls n (g_st1 L i v) := by
  refine ⟨h.1, h.2.1, fun q hq => h.2.2 q ?_⟩
  rcases g_st1_mem L i 0 v q hq with h1 | ⟨a, b, c⟩
  · rw [Nat.zero_add] at h1
    rw [h1]
    exact List.mem_cons_self
  · rw [Nat.zero_add] at b c
    refine List.mem_cons_of_mem _ (List.mem_filter.mpr ⟨a, ?_⟩)
    simp only [Bool.and_eq_true, Bool.not_eq_true', beq_eq_false_iff_ne, ne_eq, Bool.and_eq_false_iff]
    refine ⟨b, ?_⟩
    by_cases z : q.1 + 1 = i
    · exact Or.inr (fun z2 => c ⟨z, z2⟩)
    · exact Or.inl z
theorem g_Ls_st2 {ls : Array Slot} {n : Nat} {L : g_L} {i : Nat} {v : Value} (h : lv_has ls n ((i, v) :: (g_prs 0 L).filter (fun q => !(q.1 == i) && (!(q.1 == i + 1) && !(q.1 + 1 == i && q.2.category == 2))))) : g_Ls ls n (g_st1 (g_cl L (i + 1)) i v) := by
  refine ⟨h.1, h.2.1, fun q hq => h.2.2 q ?_⟩
  rcases g_st1_mem _ i 0 v q hq with h1 | ⟨a, b, c⟩
  · rw [Nat.zero_add] at h1
    rw [h1]
    exact List.mem_cons_self
  · rw [Nat.zero_add] at b c
    obtain ⟨a1, a2⟩ := g_cl_mem L (i + 1) 0 q a
    rw [Nat.zero_add] at a2
    refine List.mem_cons_of_mem _ (List.mem_filter.mpr ⟨a1, ?_⟩)
    simp only [Bool.and_eq_true, Bool.not_eq_true', beq_eq_false_iff_ne, ne_eq, Bool.and_eq_false_iff]
    refine ⟨b, a2, ?_⟩
    by_cases z : q.1 + 1 = i
    · exact Or.inr (fun z2 => c ⟨z, z2⟩)
    · exact Or.inl z
end
section
/-! THE G ROWS, second part: what a frame comes to (g_X), a method's contract (g_Met, g_Run), one instruction (g_S) -/
def g_Gr (h0 h : g_H) : Prop := h0.2.1 ≤ h.2.1 ∧ h0.2.2 ≤ h.2.2 ∧ ∀ a : Nat, h.1 a ≠ none → g_A h0 a
theorem g_Gr_rf (h : g_H) : g_Gr h h := ⟨Nat.le_refl _, Nat.le_refl _, fun _ q => Or.inl q⟩
theorem g_A_mono {h0 h : g_H} (hg : g_Gr h0 h) {q : Nat} (hq : g_A h q) : g_A h0 q := by
  rcases hq with hq | hq
  · exact hg.2.2 q hq
  · exact Or.inr (Nat.le_trans hg.1 hq)
theorem g_Gr_tr {h0 h h1 : g_H} (hg : g_Gr h0 h) (hk : g_Gr h h1) : g_Gr h0 h1 := ⟨Nat.le_trans hg.1 hk.1, Nat.le_trans hg.2.1 hk.2.1, fun a q => g_A_mono hg (hk.2.2 a q)⟩
theorem g_Gr_up {h : g_H} {a : Nat} {x0 x : g_E} (ha : h.1 a = some x0) : g_Gr h (g_up h a x) := by
  refine ⟨Nat.le_refl _, Nat.le_refl _, fun b hb => Or.inl ?_⟩
  by_cases hba : b = a
  · subst hba
    rw [ha]
    exact fun z => by cases z
  · simp only [g_up, if_neg hba] at hb
    exact hb
theorem g_Gr_nw {h : g_H} {x : g_E} {n : Nat} : g_Gr h (g_nw h x n) := by
  refine ⟨Nat.le_succ _, Nat.le_add_right _ _, fun b hb => ?_⟩
  by_cases hba : b = h.2.1
  · exact Or.inr (Nat.le_of_eq hba.symm)
  · simp only [g_nw, if_neg hba] at hb
    exact Or.inl hb
def g_Rm (J : g_J) (mc ms : Nat) : Room := { frames := J.2.2.2.2.1.1, cells := mc, slots := ms, locals := J.2.2.2.2.1.2 }
def g_CX (J : g_J) (D : g_D) (p : Program) (s : State) (m : MethodId) (args : Array Value) (meth : Method) (c : Code) : Prop :=
  p.tables.exec = Jvm.exec ∧ c.code = J.2.1 ∧ c.maxLocals = J.2.2.1 ∧ s.vm.findClass J.1.cls = some m.cls ∧ (∀ w ∈ g_W, w.before args s = true) ∧ g_K D s ∧ meth.sig.returnType = J.2.2.2.1 ∧ meth.locks = false ∧ meth.name = J.1.name ∧ c.exceptionTable.toList.map (fun h => (h.startPc, h.endPc, h.handlerPc, h.catchType)) = J.2.2.2.2.2.1
/-- the script, if the method has one: an int array that isn't among the method's cells -/
def g_Ex (J : g_J) (h0 : g_H) (s : State) : Prop := match J.2.2.2.2.2.2 with
  | none => True
  | some q => va_X q.1 q.2.length (fun j => q.2.getD j 0) s s.heap ∧ q.1 < s.heap.size ∧ ¬ g_A h0 q.1
/-- what a throw needs of the statics (said in full where throws are walked) -/
def g_Z (_ : g_H) (_ : State) : Prop := True
theorem g_Z_mv {h0 h : g_H} {s U : State} {H : Heap} {locs : List Loc} (_ : g_Z h0 s) (_ : g_Gr h0 h) (_ : va_S (g_A h0) s.heap H locs) (_ : U.heap = H) (_ : s.WarmedH U.vm) : g_Z h U := trivial
theorem g_Z_blind {h : g_H} {U : State} {g : JFrame} {mk : MethodId} {a : Array Value} (_ : g_Z h U) : g_Z h (U.calling g mk a) := trivial
def g_Out (s : State) (hE : g_H) (o : g_R) (oc : Outcome) (t : State) : Prop := match o with
  | .inl v => oc = .returned v
  | .inr X => ∃ cell : Cell, oc = .threw (hE.2.1 - 1) ∧ s.heap.size ≤ hE.2.1 - 1 ∧ t.heap[hE.2.1 - 1]? = some cell ∧ cell.vm = .none ∧ s.vm.findClass X = some cell.cls
def g_Q (below : List Frame) (D : g_D) (h0 hE : g_H) (o : g_R) (s : State) : State → Prop := fun t =>
  ∃ oc : Outcome, t.status = .running ∧ Ended t below oc ∧ g_Out s hE o oc t ∧ g_Rep D hE t.heap ∧ va_F (g_A h0) s t ∧ ∃ L : List Loc, (s.WarmedH t.vm ∧ s.sameButNew ({ t with vm := s.vm } : State) L (hE.2.1 - h0.2.1) (hE.2.2 - h0.2.2)) ∧ ∀ q ∈ L, g_A h0 q.base
abbrev g_P : Type := g_R → g_H → Prop
abbrev g_C : Type := Nat → g_L → List Value → g_H → Prop
/-- method J at pc, with the locals L, the stack st, the heap h, comes to an end that Post allows -/
def g_X (l : Launch) (J : g_J) (pc : Nat) (L : g_L) (st : List Value) (h : g_H) (Post : g_P) : Prop :=
  ∃ (o : g_R) (hE : g_H), Post o hE ∧ g_Gr h hE ∧
    ∀ (D : g_D) (p : Program) (e : Env) (s : State) (m : MethodId) (args : Array Value) (below : List Frame) (meth : Method) (c : Code) (H : Heap) (locs : List Loc) (h0 : g_H) (ls : Array Slot),
      g_CX J D p s m args meth c → (g_Rep D h0 s.heap ∧ g_Ex J h0 s ∧ g_Z h0 s) → g_Gr h0 h → g_Rep D h H → va_S (g_A h0) s.heap H locs → g_Ls ls J.2.2.1 L →
      W p l e (g_Rm J (hE.2.1 - h0.2.1) (hE.2.2 - h0.2.2)) s m args below meth c H locs (h.2.1 - h0.2.1) (h.2.2 - h0.2.2) (g_Q below D h0 hE o s) (F0 m pc ls st)
theorem g_X_mono {l : Launch} {J : g_J} {pc : Nat} {L : g_L} {st : List Value} {h : g_H} {P Q : g_P} (hPQ : ∀ o hE, P o hE → Q o hE) (k : g_X l J pc L st h P) : g_X l J pc L st h Q := by
  obtain ⟨o, hE, h1, h2⟩ := k
  exact ⟨o, hE, hPQ o hE h1, h2⟩
/-- an instruction that leaves the heap alone -/
theorem g_step {l : Launch} {J : g_J} {pc pc' : Nat} {L L' : g_L} {st st' : List Value} {h : g_H} {Post : g_P}
    (hw : ∀ (D : g_D) (p : Program) (e : Env) (s : State) (m : MethodId) (args : Array Value) (below : List Frame) (meth : Method) (c : Code) (H : Heap) (locs : List Loc) (R : Room) (cells slots : Nat) (Q : State → Prop) (ls : Array Slot), g_CX J D p s m args meth c → g_Rep D h H → g_Ls ls J.2.2.1 L → (∃ h0 : g_H, g_Ex J h0 s ∧ va_S (g_A h0) s.heap H locs) → (R.frames = J.2.2.2.2.1.1 ∧ R.locals = J.2.2.2.2.1.2 ∧ cells ≤ R.cells ∧ slots ≤ R.slots) →
      (∀ ls' : Array Slot, g_Ls ls' J.2.2.1 L' → W p l e R s m args below meth c H locs cells slots Q (F0 m pc' ls' st')) → W p l e R s m args below meth c H locs cells slots Q (F0 m pc ls st))
    (k : g_X l J pc' L' st' h Post) : g_X l J pc L st h Post := by
  obtain ⟨o, hE, h1, h2, k⟩ := k
  exact ⟨o, hE, h1, h2, fun D p e s m args below meth c H locs h0 ls C hR0 hG hR hS hl => hw D p e s m args below meth c H locs _ _ _ _ ls C hR hl ⟨h0, hR0.2.1, hS⟩ ⟨rfl, rfl, Nat.sub_le_sub_right h2.1 _, Nat.sub_le_sub_right h2.2.1 _⟩ (fun ls' hl' => k D p e s m args below meth c H locs h0 ls' C hR0 hG hR hS hl')⟩
/-- an instruction that makes of the heap h the heap h1 -/
theorem g_stepH {l : Launch} {J : g_J} {pc pc' : Nat} {L : g_L} {st st' : List Value} {h h1 : g_H} {Post : g_P} (hg : g_Gr h h1)
    (hw : ∀ (D : g_D) (p : Program) (e : Env) (s : State) (m : MethodId) (args : Array Value) (below : List Frame) (meth : Method) (c : Code) (H : Heap) (locs : List Loc) (R : Room) (cells slots : Nat) (Q : State → Prop) (ls : Array Slot) (h0 : g_H), g_CX J D p s m args meth c → g_Gr h0 h → g_Rep D h H → va_S (g_A h0) s.heap H locs → g_Z h0 s →
      (R.frames = J.2.2.2.2.1.1 ∧ R.locals = J.2.2.2.2.1.2 ∧ ls.size = J.2.2.1) → cells + (h1.2.1 - h.2.1) ≤ R.cells → slots + (h1.2.2 - h.2.2) ≤ R.slots →
      (∀ (H1 : Heap) (locs1 : List Loc), g_Rep D h1 H1 → va_S (g_A h0) s.heap H1 locs1 → W p l e R s m args below meth c H1 locs1 (cells + (h1.2.1 - h.2.1)) (slots + (h1.2.2 - h.2.2)) Q (F0 m pc' ls st')) → W p l e R s m args below meth c H locs cells slots Q (F0 m pc ls st))
    (k : g_X l J pc' L st' h1 Post) : g_X l J pc L st h Post := by
  obtain ⟨o, hE, p1, p2, k⟩ := k
  refine ⟨o, hE, p1, g_Gr_tr hg p2, fun D p e s m args below meth c H locs h0 ls C hR0 hG hR hS hl => hw D p e s m args below meth c H locs _ _ _ _ ls h0 C hG hR hS hR0.2.2 ⟨rfl, rfl, hl.1⟩ ?_ ?_ (fun H1 locs1 hR1 hS1 => ?_)⟩
  · have a1 := hG.1
    have a2 := hg.1
    have a3 := p2.1
    show h.2.1 - h0.2.1 + (h1.2.1 - h.2.1) ≤ hE.2.1 - h0.2.1
    omega
  · have a1 := hG.2.1
    have a2 := hg.2.1
    have a3 := p2.2.1
    show h.2.2 - h0.2.2 + (h1.2.2 - h.2.2) ≤ hE.2.2 - h0.2.2
    omega
  · have a1 := hG.1
    have a2 := hg.1
    have b1 := hG.2.1
    have b2 := hg.2.1
    have e1 : h.2.1 - h0.2.1 + (h1.2.1 - h.2.1) = h1.2.1 - h0.2.1 := by omega
    have e2 : h.2.2 - h0.2.2 + (h1.2.2 - h.2.2) = h1.2.2 - h0.2.2 := by omega
    rw [e1, e2]
    exact k D p e s m args below meth c H1 locs1 h0 ls C hR0 (g_Gr_tr hG hg) hR1 hS1 hl
/-- an instruction that writes cells that are there -/
theorem g_stepU {l : Launch} {J : g_J} {pc pc' : Nat} {L : g_L} {st st' : List Value} {h h1 : g_H} {Post : g_P} (hg : g_Gr h h1) (hz : h1.2 = h.2)
    (hw : ∀ (D : g_D) (p : Program) (e : Env) (s : State) (m : MethodId) (args : Array Value) (below : List Frame) (meth : Method) (c : Code) (H : Heap) (locs : List Loc) (R : Room) (cells slots : Nat) (Q : State → Prop) (ls : Array Slot) (h0 : g_H), g_CX J D p s m args meth c → g_Gr h0 h → g_Rep D h H → va_S (g_A h0) s.heap H locs →
      (∀ (H1 : Heap) (locs1 : List Loc), g_Rep D h1 H1 → va_S (g_A h0) s.heap H1 locs1 → W p l e R s m args below meth c H1 locs1 cells slots Q (F0 m pc' ls st')) → W p l e R s m args below meth c H locs cells slots Q (F0 m pc ls st))
    (k : g_X l J pc' L st' h1 Post) : g_X l J pc L st h Post := by
  obtain ⟨o, hE, p1, p2, k⟩ := k
  refine ⟨o, hE, p1, g_Gr_tr hg p2, fun D p e s m args below meth c H locs h0 ls C hR0 hG hR hS hl => hw D p e s m args below meth c H locs _ _ _ _ ls h0 C hG hR hS (fun H1 locs1 hR1 hS1 => ?_)⟩
  have kk := k D p e s m args below meth c H1 locs1 h0 ls C hR0 (g_Gr_tr hG hg) hR1 hS1 hl
  rw [hz] at kk
  exact kk
theorem g_W_mono {p : Program} {l : Launch} {e : Env} {R : Room} {s : State} {m : MethodId} {args : Array Value} {below : List Frame} {meth : Method} {c : Code} {H : Heap} {locs : List Loc} {cells slots : Nat} {Q Q' : State → Prop} {g : JFrame} (hq : ∀ t, Q t → Q' t) (k : W p l e R s m args below meth c H locs cells slots Q g) : W p l e R s m args below meth c H locs cells slots Q' g := by
  intro T hT X
  obtain ⟨t, a, b⟩ := k T hT X
  exact ⟨t, a, hq t b⟩
/-- a method's contract, and its use -/
def g_Met (l : Launch) (J : g_J) (av : List Value) (h : g_H) (o : g_R) (hE : g_H) : Prop :=
  g_Gr h hE ∧ ∀ D : g_D, MetFree l J.1 (headSpec g_W (g_Rm J (hE.2.1 - h.2.1) (hE.2.2 - h.2.2))) (fun a U => a = av.toArray ∧ g_Rep D h U.heap ∧ g_K D U ∧ g_Z h U) (fun _ _ _ _ _ => True)
    (fun _ s oc t => g_Out s hE o oc t ∧ g_Rep D hE t.heap ∧ va_F (g_A h) s t ∧ ∃ L : List Loc, (s.WarmedH t.vm ∧ s.sameButNew ({ t with vm := s.vm } : State) L (hE.2.1 - h.2.1) (hE.2.2 - h.2.2)) ∧ ∀ q ∈ L, g_A h q.base)
def g_Run (l : Launch) (J : g_J) (av : List Value) (h : g_H) (Post : g_P) : Prop := ∃ (o : g_R) (hE : g_H), g_Met l J av h o hE ∧ Post o hE
theorem g_Run_mono {l : Launch} {J : g_J} {av : List Value} {h : g_H} {P Q : g_P} (k : g_Run l J av h P) (hPQ : ∀ o hE, P o hE → Q o hE) : g_Run l J av h Q := by
  obtain ⟨o, hE, h1, h2⟩ := k
  exact ⟨o, hE, h1, hPQ o hE h2⟩
def g_code (J : g_J) : Cond := match J.2.2.2.2.2.1 with
  | [] => .code J.1 J.2.1 J.2.2.1 J.2.2.2.1
  | hs => .codeWith J.1 J.2.1 J.2.2.1 J.2.2.2.1 hs
theorem g_code_spec {J : g_J} {args : Array Value} {s : State} {m : MethodId} (hn : s.methodNamed? J.1 = some m) (h : (g_code J).before args s = true) :
    ∃ (meth : Method) (c : Code), s.vm.method? m = some meth ∧ meth.code = some c ∧ c.code = J.2.1 ∧ c.maxLocals = J.2.2.1 ∧ meth.sig.returnType = J.2.2.2.1 ∧ meth.locks = false ∧ c.exceptionTable.toList.map (fun h => (h.startPc, h.endPc, h.handlerPc, h.catchType)) = J.2.2.2.2.2.1 := by
  obtain ⟨y, cc, n, r, d, hs, ex⟩ := J
  cases hs with
  | nil =>
    obtain ⟨meth, c, h1, h2, h3, h4, h5, h6, h7, -⟩ := Cond.code_spec hn h
    refine ⟨meth, c, h1, h2, h3, h4, h5, h6, ?_⟩
    have h8 : c.exceptionTable = #[] := by simpa using h7
    rw [h8]
    rfl
  | cons a t =>
    obtain ⟨m', meth, c, h0, h1, h2, h3, h4, h5, h6, h7, -⟩ := Cond.codeWith_spec h
    cases hn.symm.trans h0
    exact ⟨meth, c, h1, h2, h3, h4, h6, h7, h5⟩
set_option maxHeartbeats 1000000 in
theorem g_run_of {l : Launch} {J : g_J} {av : List Value} {h : g_H} {Post : g_P} (L0 : g_L) (hy : plainName J.1.cls = true) (hc : g_code J ∈ g_W) (hl : g_prs 0 L0 = lv_args 0 av) (hle : (lg_sl av).length ≤ J.2.2.1) (hex : J.2.2.2.2.2.2 = none) (k : g_X l J 0 L0 [] h Post) : g_Run l J av h Post := by
  obtain ⟨o, hE, hp, hg, k⟩ := k
  refine ⟨o, hE, ⟨hg, fun D => ?_⟩, hp⟩
  refine MetFree.of_bodyS (code := J.2.1) (maxLocals := J.2.2.1) (ret := J.2.2.2.1) hy ?_ ?_
  · intro args s m hpre hn
    obtain ⟨meth, c, h1, h2, h3, h4, h5, h6, -⟩ := g_code_spec hn (atoms_spec (ws := g_W) hpre _ hc)
    exact ⟨meth, c, h1, h2, h3, h4, h5, h6⟩
  · intro p e s m args below meth c s₁ B hml hP _
    obtain ⟨rfl, hR, hK, hZ⟩ := hP
    have hts := atoms_spec (ws := g_W) B.pre
    have hh0 : s₁.heap = s.heap := by rw [B.state]; rfl
    have X₀ : Stand p l e (g_Rm J (hE.2.1 - h.2.1) (hE.2.2 - h.2.2)) s m av.toArray below meth c s₁ [] 0 0 := Stand.of_body B
    obtain ⟨meth', c', h1, h2, h3, h4, h5, h6, h7⟩ := g_code_spec B.named (hts _ hc)
    cases B.method.symm.trans h1
    cases X₀.code.symm.trans h2
    have C : g_CX J D p s m av.toArray meth c := ⟨B.exec, B.bytes, hml, findClass_of_methodNamed B.named, hts, hK, B.returns, B.notSynchronized, (name_of_methodNamed B.named B.method).1, h7⟩
    have hl0 := lv_entry av hle
    rw [← hl] at hl0
    have kk := k D p e s m av.toArray below meth c s.heap [] h _ C ⟨hR, by unfold g_Ex; rw [hex]; trivial, hZ⟩ (g_Gr_rf h) hR va_S.rf hl0
    rw [Nat.sub_self, Nat.sub_self] at kk
    obtain ⟨t, a1, oc, b1, b2, b3⟩ := kk s₁ hh0 X₀
    rw [lg_entry_eq]
    exact ⟨t, oc, a1, b1, b2, b3⟩
theorem g_toMet {l : Launch} {J : g_J} {av : List Value} {h hE : g_H} {v : Option Value} (hM : g_Met l J av h (.inl v) hE) (D : g_D) : Met l J.1 g_W (g_Rm J (hE.2.1 - h.2.1) (hE.2.2 - h.2.2)) (fun a U => a = av.toArray ∧ g_Rep D h U.heap ∧ g_K D U ∧ g_Z h U) (fun _ s oc t => oc = .returned v ∧ g_Rep D hE t.heap ∧ va_F (g_A h) s t) (hE.2.1 - h.2.1) (hE.2.2 - h.2.2) (g_A h) := by
  intro p e ha hc hk s m args below hf happ hP hK
  obtain ⟨n, oc, h1, h2, h3, h4, h5, h6, L, ⟨h7, h8⟩, h9⟩ := hM.2 D p e ha hc hk s m args below hf happ hP hK
  exact ⟨n, oc, h1, h2, h3, ⟨h4, h5, h6⟩, L, ⟨⟨v, h4⟩, h7, h8⟩, h9⟩
theorem g_blind {av : List Value} {D : g_D} {h : g_H} : FrameBlind (fun a U => a = av.toArray ∧ g_Rep D h U.heap ∧ g_K D U ∧ g_Z h U) := fun a U g mk q => ⟨q.1, q.2.1, va_K.moved (u := U) (U := U.calling g mk a) (Vm.Alike.refl U.vm) q.2.2.1, g_Z_blind q.2.2.2⟩
/-- one instruction at pc, said as a transformer of goals -/
abbrev g_T : Type := Launch → g_L → List Value → g_H → g_C → g_P → Prop
def g_S (J : g_J) (pc : Nat) (T : g_T) : Prop := ∀ (l : Launch) (L : g_L) (st : List Value) (h : g_H) (K : g_C) (Post : g_P), (∀ pc L st h, K pc L st h → g_X l J pc L st h Post) → T l L st h K Post → g_X l J pc L st h Post
def tr_no : g_T := fun _ _ _ _ _ _ => False
theorem so_no {J : g_J} {pc : Nat} : g_S J pc tr_no := fun _ _ _ _ _ _ _ h => h.elim
theorem so_leaf {J : g_J} {q : Nat} {T : g_T} (h : g_S J q T) (pc : Nat) : g_S J pc (bif Nat.beq pc q then T else tr_no) := by
  cases hq : Nat.beq pc q with
  | true =>
    have := Nat.eq_of_beq_eq_true hq
    subst this
    exact h
  | false => exact so_no
theorem so_node {J : g_J} {A B : Nat → g_T} {q : Nat} (hA : ∀ pc, g_S J pc (A pc)) (hB : ∀ pc, g_S J pc (B pc)) (pc : Nat) : g_S J pc (bif Nat.ble pc q then A pc else B pc) := by
  cases Nat.ble pc q with
  | true => exact hA pc
  | false => exact hB pc
def g_mem : List Nat → Nat → Bool
  | [], _ => false
  | a :: l, pc => bif Nat.beq a pc then true else g_mem l pc
/-- n instructions, up to the stops S -/
def g_N (l : Launch) (J : g_J) (cd : Nat → g_T) (S : List Nat) (Post : g_P) : Nat → g_C
  | 0, pc, L, st, h => g_X l J pc L st h Post
  | n + 1, pc, L, st, h => bif g_mem S pc then g_X l J pc L st h Post else cd pc l L st h (g_N l J cd S Post n) Post
theorem g_N_sound {l : Launch} {J : g_J} {cd : Nat → g_T} {S : List Nat} {Post : g_P} (hc : ∀ pc, g_S J pc (cd pc)) : ∀ (n pc : Nat) (L : g_L) (st : List Value) (h : g_H), g_N l J cd S Post n pc L st h → g_X l J pc L st h Post
  | 0, pc, L, st, h, k => k
  | n + 1, pc, L, st, h, k => by
    unfold g_N at k
    cases hm : g_mem S pc with
    | true =>
      rw [hm] at k
      exact k
    | false =>
      rw [hm] at k
      exact hc pc l L st h _ Post (fun pc L st h k => g_N_sound hc n pc L st h k) k
theorem g_go {l : Launch} {J : g_J} {cd : Nat → g_T} {Post : g_P} (hc : ∀ pc, g_S J pc (cd pc)) (S : List Nat) (n : Nat) {pc : Nat} {L : g_L} {st : List Value} {h : g_H} (k : cd pc l L st h (g_N l J cd S Post n) Post) : g_X l J pc L st h Post :=
  hc pc l L st h _ Post (fun pc L st h k => g_N_sound hc n pc L st h k) k
end
section
/-! THE G ROWS, third part: one instruction a row (written by wip/whole/gen/mk12.py) -/
def tr_cst (v : Value) (nx : Nat) : g_T := fun _ L st h K _ => K nx L (v :: st) h
theorem so_iconst {J : g_J} {pc nx : Nat} {n : Int} {v : Int32} (hv : Int32.ofInt n = v) (hd : decode J.2.1 pc = .ok (.iconst n, 1)) (hn : pc + 1 = nx) : g_S J pc (tr_cst (.int v) nx) := by
  subst hn
  exact fun l L st h K Post hK hT => g_step (fun D p e s m args below meth c H locs R cells slots Q ls C hR hl hE0 hM kk => lv_iconst C.1 C.2.1 hd hv (kk ls hl)) (hK _ _ _ _ hT)
theorem so_bipush {J : g_J} {pc nx : Nat} {n : Int} {v : Int32} (hv : (Int8.ofInt n).toInt32 = v) (hd : decode J.2.1 pc = .ok (.bipush n, 2)) (hn : pc + 2 = nx) : g_S J pc (tr_cst (.int v) nx) := by
  subst hn
  exact fun l L st h K Post hK hT => g_step (fun D p e s m args below meth c H locs R cells slots Q ls C hR hl hE0 hM kk => lv_bipush C.1 C.2.1 hd hv (kk ls hl)) (hK _ _ _ _ hT)
theorem so_sipush {J : g_J} {pc nx : Nat} {n : Int} {v : Int32} (hv : (Int16.ofInt n).toInt32 = v) (hd : decode J.2.1 pc = .ok (.sipush n, 3)) (hn : pc + 3 = nx) : g_S J pc (tr_cst (.int v) nx) := by
  subst hn
  exact fun l L st h K Post hK hT => g_step (fun D p e s m args below meth c H locs R cells slots Q ls C hR hl hE0 hM kk => lv_sipush C.1 C.2.1 hd hv (kk ls hl)) (hK _ _ _ _ hT)
theorem so_lconst {J : g_J} {pc nx : Nat} {n : Fin 2} {v : Int64} (hv : Int64.ofNat (n : Nat) = v) (hd : decode J.2.1 pc = .ok (.lconst n, 1)) (hn : pc + 1 = nx) : g_S J pc (tr_cst (.long v) nx) := by
  subst hn
  exact fun l L st h K Post hK hT => g_step (fun D p e s m args below meth c H locs R cells slots Q ls C hR hl hE0 hM kk => lv_lconst C.1 C.2.1 hd hv (kk ls hl)) (hK _ _ _ _ hT)
theorem so_ldc {J : g_J} {pc nx : Nat} {i : Nat} {v : Int32} (hw : Jvm.Cond.constant J.1.cls i v ∈ g_W) (hd : decode J.2.1 pc = .ok (.ldc i, 2)) (hn : pc + 2 = nx) : g_S J pc (tr_cst (.int v) nx) := by
  subst hn
  exact fun l L st h K Post hK hT => g_step (fun D p e s m args below meth c H locs R cells slots Q ls C hR hl hE0 hM kk => lv_ldc C.1 C.2.1 C.2.2.2.1 (C.2.2.2.2.1 _ hw) hd (kk ls hl)) (hK _ _ _ _ hT)
theorem so_ldcw {J : g_J} {pc nx : Nat} {i : Nat} {v : Int32} (hw : Jvm.Cond.constant J.1.cls i v ∈ g_W) (hd : decode J.2.1 pc = .ok (.ldc_w i, 3)) (hn : pc + 3 = nx) : g_S J pc (tr_cst (.int v) nx) := by
  subst hn
  exact fun l L st h K Post hK hT => g_step (fun D p e s m args below meth c H locs R cells slots Q ls C hR hl hE0 hM kk => lv_ldcw C.1 C.2.1 C.2.2.2.1 (C.2.2.2.2.1 _ hw) hd (kk ls hl)) (hK _ _ _ _ hT)
theorem so_ldc2 {J : g_J} {pc nx : Nat} {i : Nat} {v : Int64} (hw : Jvm.Cond.constantLong J.1.cls i v ∈ g_W) (hd : decode J.2.1 pc = .ok (.ldc2_w i, 3)) (hn : pc + 3 = nx) : g_S J pc (tr_cst (.long v) nx) := by
  subst hn
  exact fun l L st h K Post hK hT => g_step (fun D p e s m args below meth c H locs R cells slots Q ls C hR hl hE0 hM kk => lv_ldc2 C.1 C.2.1 C.2.2.2.1 (C.2.2.2.2.1 _ hw) hd (kk ls hl)) (hK _ _ _ _ hT)
def tr_ild (i nx : Nat) : g_T := fun _ L st h K _ => match g_lk L i with
  | some (.int x) => K nx L (.int x :: st) h
  | _ => False
theorem so_iload_n {J : g_J} {pc nx i : Nat} {k : Fin 4} (hd : decode J.2.1 pc = .ok (.iload_n k, 1)) (hi : (k : Nat) = i) (hn : pc + 1 = nx) : g_S J pc (tr_ild i nx) := by
  subst hn
  intro l L st h K Post hK hT
  unfold tr_ild at hT
  split at hT
  next x hx => exact g_step (fun D p e s m args below meth c H locs R cells slots Q ls C hR hl hE0 hM kk => lv_iload_n C.1 C.2.1 hd hi (g_Ls_at hl hx) (kk ls hl)) (hK _ _ _ _ hT)
  next => exact hT.elim
theorem so_iload {J : g_J} {pc nx i : Nat} (hd : decode J.2.1 pc = .ok (.iload i, 2)) (hn : pc + 2 = nx) : g_S J pc (tr_ild i nx) := by
  subst hn
  intro l L st h K Post hK hT
  unfold tr_ild at hT
  split at hT
  next x hx => exact g_step (fun D p e s m args below meth c H locs R cells slots Q ls C hR hl hE0 hM kk => lv_iload C.1 C.2.1 hd (g_Ls_at hl hx) (kk ls hl)) (hK _ _ _ _ hT)
  next => exact hT.elim
def tr_lld (i nx : Nat) : g_T := fun _ L st h K _ => match g_lk L i with
  | some (.long x) => K nx L (.long x :: st) h
  | _ => False
theorem so_lload_n {J : g_J} {pc nx i : Nat} {k : Fin 4} (hd : decode J.2.1 pc = .ok (.lload_n k, 1)) (hi : (k : Nat) = i) (hn : pc + 1 = nx) : g_S J pc (tr_lld i nx) := by
  subst hn
  intro l L st h K Post hK hT
  unfold tr_lld at hT
  split at hT
  next x hx => exact g_step (fun D p e s m args below meth c H locs R cells slots Q ls C hR hl hE0 hM kk => lv_lload_n C.1 C.2.1 hd hi (g_Ls_at hl hx) (kk ls hl)) (hK _ _ _ _ hT)
  next => exact hT.elim
theorem so_lload {J : g_J} {pc nx i : Nat} (hd : decode J.2.1 pc = .ok (.lload i, 2)) (hn : pc + 2 = nx) : g_S J pc (tr_lld i nx) := by
  subst hn
  intro l L st h K Post hK hT
  unfold tr_lld at hT
  split at hT
  next x hx => exact g_step (fun D p e s m args below meth c H locs R cells slots Q ls C hR hl hE0 hM kk => lv_lload C.1 C.2.1 hd (g_Ls_at hl hx) (kk ls hl)) (hK _ _ _ _ hT)
  next => exact hT.elim
def tr_ald (i nx : Nat) : g_T := fun _ L st h K _ => match g_lk L i with
  | some (.ref x) => K nx L (.ref x :: st) h
  | _ => False
theorem so_aload_n {J : g_J} {pc nx i : Nat} {k : Fin 4} (hd : decode J.2.1 pc = .ok (.aload_n k, 1)) (hi : (k : Nat) = i) (hn : pc + 1 = nx) : g_S J pc (tr_ald i nx) := by
  subst hn
  intro l L st h K Post hK hT
  unfold tr_ald at hT
  split at hT
  next x hx => exact g_step (fun D p e s m args below meth c H locs R cells slots Q ls C hR hl hE0 hM kk => lv_aload_n C.1 C.2.1 hd hi (g_Ls_at hl hx) (kk ls hl)) (hK _ _ _ _ hT)
  next => exact hT.elim
theorem so_aload {J : g_J} {pc nx i : Nat} (hd : decode J.2.1 pc = .ok (.aload i, 2)) (hn : pc + 2 = nx) : g_S J pc (tr_ald i nx) := by
  subst hn
  intro l L st h K Post hK hT
  unfold tr_ald at hT
  split at hT
  next x hx => exact g_step (fun D p e s m args below meth c H locs R cells slots Q ls C hR hl hE0 hM kk => lv_aload C.1 C.2.1 hd (g_Ls_at hl hx) (kk ls hl)) (hK _ _ _ _ hT)
  next => exact hT.elim
def tr_ist (i nx : Nat) : g_T := fun _ L st h K _ => match st with
  | .int x :: st' => K nx (g_st1 L i (.int x)) st' h
  | _ => False
theorem so_istore_n {J : g_J} {pc nx i : Nat} {k : Fin 4} (hd : decode J.2.1 pc = .ok (.istore_n k, 1)) (hi : (k : Nat) = i) (hm : i < J.2.2.1) (hn : pc + 1 = nx) : g_S J pc (tr_ist i nx) := by
  subst hn
  intro l L st h K Post hK hT
  unfold tr_ist at hT
  split at hT
  next x st' => exact g_step (fun D p e s m args below meth c H locs R cells slots Q ls C hR hl hE0 hM kk => lv_istore_n C.1 C.2.1 hd hi hl hm rfl (fun ls' hl' => kk ls' (g_Ls_st1 hl'))) (hK _ _ _ _ hT)
  next => exact hT.elim
theorem so_istore {J : g_J} {pc nx i : Nat} (hd : decode J.2.1 pc = .ok (.istore i, 2)) (hm : i < J.2.2.1) (hn : pc + 2 = nx) : g_S J pc (tr_ist i nx) := by
  subst hn
  intro l L st h K Post hK hT
  unfold tr_ist at hT
  split at hT
  next x st' => exact g_step (fun D p e s m args below meth c H locs R cells slots Q ls C hR hl hE0 hM kk => lv_istore C.1 C.2.1 hd hl hm rfl (fun ls' hl' => kk ls' (g_Ls_st1 hl'))) (hK _ _ _ _ hT)
  next => exact hT.elim
def tr_ast (i nx : Nat) : g_T := fun _ L st h K _ => match st with
  | .ref x :: st' => K nx (g_st1 L i (.ref x)) st' h
  | _ => False
theorem so_astore_n {J : g_J} {pc nx i : Nat} {k : Fin 4} (hd : decode J.2.1 pc = .ok (.astore_n k, 1)) (hi : (k : Nat) = i) (hm : i < J.2.2.1) (hn : pc + 1 = nx) : g_S J pc (tr_ast i nx) := by
  subst hn
  intro l L st h K Post hK hT
  unfold tr_ast at hT
  split at hT
  next x st' => exact g_step (fun D p e s m args below meth c H locs R cells slots Q ls C hR hl hE0 hM kk => lv_astore_n C.1 C.2.1 hd hi hl hm rfl (fun ls' hl' => kk ls' (g_Ls_st1 hl'))) (hK _ _ _ _ hT)
  next => exact hT.elim
theorem so_astore {J : g_J} {pc nx i : Nat} (hd : decode J.2.1 pc = .ok (.astore i, 2)) (hm : i < J.2.2.1) (hn : pc + 2 = nx) : g_S J pc (tr_ast i nx) := by
  subst hn
  intro l L st h K Post hK hT
  unfold tr_ast at hT
  split at hT
  next x st' => exact g_step (fun D p e s m args below meth c H locs R cells slots Q ls C hR hl hE0 hM kk => lv_astore C.1 C.2.1 hd hl hm rfl (fun ls' hl' => kk ls' (g_Ls_st1 hl'))) (hK _ _ _ _ hT)
  next => exact hT.elim
def tr_lst (i nx : Nat) : g_T := fun _ L st h K _ => match st with
  | .long x :: st' => K nx (g_st1 (g_cl L (i + 1)) i (.long x)) st' h
  | _ => False
theorem so_lstore_n {J : g_J} {pc nx i : Nat} {k : Fin 4} (hd : decode J.2.1 pc = .ok (.lstore_n k, 1)) (hi : (k : Nat) = i) (hm : i + 1 < J.2.2.1) (hn : pc + 1 = nx) : g_S J pc (tr_lst i nx) := by
  subst hn
  intro l L st h K Post hK hT
  unfold tr_lst at hT
  split at hT
  next x st' => exact g_step (fun D p e s m args below meth c H locs R cells slots Q ls C hR hl hE0 hM kk => lv_lstore_n C.1 C.2.1 hd hi hl hm rfl (fun ls' hl' => kk ls' (g_Ls_st2 hl'))) (hK _ _ _ _ hT)
  next => exact hT.elim
theorem so_lstore {J : g_J} {pc nx i : Nat} (hd : decode J.2.1 pc = .ok (.lstore i, 2)) (hm : i + 1 < J.2.2.1) (hn : pc + 2 = nx) : g_S J pc (tr_lst i nx) := by
  subst hn
  intro l L st h K Post hK hT
  unfold tr_lst at hT
  split at hT
  next x st' => exact g_step (fun D p e s m args below meth c H locs R cells slots Q ls C hR hl hE0 hM kk => lv_lstore C.1 C.2.1 hd hl hm rfl (fun ls' hl' => kk ls' (g_Ls_st2 hl'))) (hK _ _ _ _ hT)
  next => exact hT.elim
def tr_inc (i : Nat) (n : Int32) (nx : Nat) : g_T := fun _ L st h K _ => match g_lk L i with
  | some (.int x) => K nx (g_st1 L i (.int (x + n))) st h
  | _ => False
theorem so_iinc {J : g_J} {pc nx i : Nat} {n : Int} {v : Int32} (hd : decode J.2.1 pc = .ok (.iinc i n, 3)) (hv : Int32.ofInt n = v) (hm : i < J.2.2.1) (hn : pc + 3 = nx) : g_S J pc (tr_inc i v nx) := by
  subst hn
  subst hv
  intro l L st h K Post hK hT
  unfold tr_inc at hT
  split at hT
  next x hx =>
    obtain ⟨k, hk⟩ := List.getElem?_of_mem (g_lk_mem L i 0 _ hx)
    rw [Nat.zero_add] at hk
    exact g_step (fun D p e s m args below meth c H locs R cells slots Q ls C hR hl hE0 hM kk => lv_iinc C.1 C.2.1 hd hl hk rfl hm rfl (fun ls' hl' => kk ls' (g_Ls_st1 hl'))) (hK _ _ _ _ hT)
  next => exact hT.elim
def tr_ii (f : Int32 → Int32 → Int32) (nx : Nat) : g_T := fun _ L st h K _ => match st with
  | .int y :: .int x :: st' => K nx L (.int (f x y) :: st') h
  | _ => False
def tr_ll (f : Int64 → Int64 → Int64) (nx : Nat) : g_T := fun _ L st h K _ => match st with
  | .long y :: .long x :: st' => K nx L (.long (f x y) :: st') h
  | _ => False
def tr_li (f : Int64 → Int32 → Int64) (nx : Nat) : g_T := fun _ L st h K _ => match st with
  | .int y :: .long x :: st' => K nx L (.long (f x y) :: st') h
  | _ => False
def tr_iz (f : Int32 → Int32 → Int32) (nx : Nat) : g_T := fun _ L st h K _ => match st with
  | .int y :: .int x :: st' => ¬ y = 0 ∧ K nx L (.int (f x y) :: st') h
  | _ => False
def tr_lz (f : Int64 → Int64 → Int64) (nx : Nat) : g_T := fun _ L st h K _ => match st with
  | .long y :: .long x :: st' => ¬ y = 0 ∧ K nx L (.long (f x y) :: st') h
  | _ => False
theorem so_iadd {J : g_J} {pc nx : Nat} (hd : decode J.2.1 pc = .ok (.iadd, 1)) (hn : pc + 1 = nx) : g_S J pc (tr_ii (fun x y => x + y) nx) := by
  subst hn
  intro l L st h K Post hK hT
  unfold tr_ii at hT
  split at hT
  next y x st' => exact g_step (fun D p e s m args below meth c H locs R cells slots Q ls C hR hl hE0 hM kk => lv_iadd C.1 C.2.1 hd (kk ls hl)) (hK _ _ _ _ hT)
  next => exact hT.elim
theorem so_isub {J : g_J} {pc nx : Nat} (hd : decode J.2.1 pc = .ok (.isub, 1)) (hn : pc + 1 = nx) : g_S J pc (tr_ii (fun x y => x - y) nx) := by
  subst hn
  intro l L st h K Post hK hT
  unfold tr_ii at hT
  split at hT
  next y x st' => exact g_step (fun D p e s m args below meth c H locs R cells slots Q ls C hR hl hE0 hM kk => lv_isub C.1 C.2.1 hd (kk ls hl)) (hK _ _ _ _ hT)
  next => exact hT.elim
theorem so_imul {J : g_J} {pc nx : Nat} (hd : decode J.2.1 pc = .ok (.imul, 1)) (hn : pc + 1 = nx) : g_S J pc (tr_ii (fun x y => x * y) nx) := by
  subst hn
  intro l L st h K Post hK hT
  unfold tr_ii at hT
  split at hT
  next y x st' => exact g_step (fun D p e s m args below meth c H locs R cells slots Q ls C hR hl hE0 hM kk => lv_imul C.1 C.2.1 hd (kk ls hl)) (hK _ _ _ _ hT)
  next => exact hT.elim
theorem so_iand {J : g_J} {pc nx : Nat} (hd : decode J.2.1 pc = .ok (.iand, 1)) (hn : pc + 1 = nx) : g_S J pc (tr_ii (fun x y => x &&& y) nx) := by
  subst hn
  intro l L st h K Post hK hT
  unfold tr_ii at hT
  split at hT
  next y x st' => exact g_step (fun D p e s m args below meth c H locs R cells slots Q ls C hR hl hE0 hM kk => lv_iand C.1 C.2.1 hd (kk ls hl)) (hK _ _ _ _ hT)
  next => exact hT.elim
theorem so_ior {J : g_J} {pc nx : Nat} (hd : decode J.2.1 pc = .ok (.ior, 1)) (hn : pc + 1 = nx) : g_S J pc (tr_ii (fun x y => x ||| y) nx) := by
  subst hn
  intro l L st h K Post hK hT
  unfold tr_ii at hT
  split at hT
  next y x st' => exact g_step (fun D p e s m args below meth c H locs R cells slots Q ls C hR hl hE0 hM kk => lv_ior C.1 C.2.1 hd (kk ls hl)) (hK _ _ _ _ hT)
  next => exact hT.elim
theorem so_ixor {J : g_J} {pc nx : Nat} (hd : decode J.2.1 pc = .ok (.ixor, 1)) (hn : pc + 1 = nx) : g_S J pc (tr_ii (fun x y => x ^^^ y) nx) := by
  subst hn
  intro l L st h K Post hK hT
  unfold tr_ii at hT
  split at hT
  next y x st' => exact g_step (fun D p e s m args below meth c H locs R cells slots Q ls C hR hl hE0 hM kk => lv_ixor C.1 C.2.1 hd (kk ls hl)) (hK _ _ _ _ hT)
  next => exact hT.elim
theorem so_ishl {J : g_J} {pc nx : Nat} (hd : decode J.2.1 pc = .ok (.ishl, 1)) (hn : pc + 1 = nx) : g_S J pc (tr_ii (fun x y => x <<< (y &&& 31)) nx) := by
  subst hn
  intro l L st h K Post hK hT
  unfold tr_ii at hT
  split at hT
  next y x st' => exact g_step (fun D p e s m args below meth c H locs R cells slots Q ls C hR hl hE0 hM kk => lv_ishl C.1 C.2.1 hd (kk ls hl)) (hK _ _ _ _ hT)
  next => exact hT.elim
theorem so_ishr {J : g_J} {pc nx : Nat} (hd : decode J.2.1 pc = .ok (.ishr, 1)) (hn : pc + 1 = nx) : g_S J pc (tr_ii (fun x y => x >>> (y &&& 31)) nx) := by
  subst hn
  intro l L st h K Post hK hT
  unfold tr_ii at hT
  split at hT
  next y x st' => exact g_step (fun D p e s m args below meth c H locs R cells slots Q ls C hR hl hE0 hM kk => lv_ishr C.1 C.2.1 hd (kk ls hl)) (hK _ _ _ _ hT)
  next => exact hT.elim
theorem so_iushr {J : g_J} {pc nx : Nat} (hd : decode J.2.1 pc = .ok (.iushr, 1)) (hn : pc + 1 = nx) : g_S J pc (tr_ii (fun x y => (x.toUInt32 >>> (y.toUInt32 &&& Int32.toUInt32 31)).toInt32) nx) := by
  subst hn
  intro l L st h K Post hK hT
  unfold tr_ii at hT
  split at hT
  next y x st' => exact g_step (fun D p e s m args below meth c H locs R cells slots Q ls C hR hl hE0 hM kk => lv_iushr C.1 C.2.1 hd rfl (kk ls hl)) (hK _ _ _ _ hT)
  next => exact hT.elim
theorem so_idiv {J : g_J} {pc nx : Nat} (hd : decode J.2.1 pc = .ok (.idiv, 1)) (hn : pc + 1 = nx) : g_S J pc (tr_iz (fun x y => x / y) nx) := by
  subst hn
  intro l L st h K Post hK hT
  unfold tr_iz at hT
  split at hT
  next y x st' => exact g_step (fun D p e s m args below meth c H locs R cells slots Q ls C hR hl hE0 hM kk => lv_idiv C.1 C.2.1 hd hT.1 (kk ls hl)) (hK _ _ _ _ hT.2)
  next => exact hT.elim
theorem so_irem {J : g_J} {pc nx : Nat} (hd : decode J.2.1 pc = .ok (.irem, 1)) (hn : pc + 1 = nx) : g_S J pc (tr_iz (fun x y => x - x / y * y) nx) := by
  subst hn
  intro l L st h K Post hK hT
  unfold tr_iz at hT
  split at hT
  next y x st' => exact g_step (fun D p e s m args below meth c H locs R cells slots Q ls C hR hl hE0 hM kk => lv_irem C.1 C.2.1 hd hT.1 (kk ls hl)) (hK _ _ _ _ hT.2)
  next => exact hT.elim
theorem so_ladd {J : g_J} {pc nx : Nat} (hd : decode J.2.1 pc = .ok (.ladd, 1)) (hn : pc + 1 = nx) : g_S J pc (tr_ll (fun x y => x + y) nx) := by
  subst hn
  intro l L st h K Post hK hT
  unfold tr_ll at hT
  split at hT
  next y x st' => exact g_step (fun D p e s m args below meth c H locs R cells slots Q ls C hR hl hE0 hM kk => lv_ladd C.1 C.2.1 hd (kk ls hl)) (hK _ _ _ _ hT)
  next => exact hT.elim
theorem so_lsub {J : g_J} {pc nx : Nat} (hd : decode J.2.1 pc = .ok (.lsub, 1)) (hn : pc + 1 = nx) : g_S J pc (tr_ll (fun x y => x - y) nx) := by
  subst hn
  intro l L st h K Post hK hT
  unfold tr_ll at hT
  split at hT
  next y x st' => exact g_step (fun D p e s m args below meth c H locs R cells slots Q ls C hR hl hE0 hM kk => lv_lsub C.1 C.2.1 hd (kk ls hl)) (hK _ _ _ _ hT)
  next => exact hT.elim
theorem so_lmul {J : g_J} {pc nx : Nat} (hd : decode J.2.1 pc = .ok (.lmul, 1)) (hn : pc + 1 = nx) : g_S J pc (tr_ll (fun x y => x * y) nx) := by
  subst hn
  intro l L st h K Post hK hT
  unfold tr_ll at hT
  split at hT
  next y x st' => exact g_step (fun D p e s m args below meth c H locs R cells slots Q ls C hR hl hE0 hM kk => lv_lmul C.1 C.2.1 hd (kk ls hl)) (hK _ _ _ _ hT)
  next => exact hT.elim
theorem so_land {J : g_J} {pc nx : Nat} (hd : decode J.2.1 pc = .ok (.land, 1)) (hn : pc + 1 = nx) : g_S J pc (tr_ll (fun x y => x &&& y) nx) := by
  subst hn
  intro l L st h K Post hK hT
  unfold tr_ll at hT
  split at hT
  next y x st' => exact g_step (fun D p e s m args below meth c H locs R cells slots Q ls C hR hl hE0 hM kk => lv_land C.1 C.2.1 hd (kk ls hl)) (hK _ _ _ _ hT)
  next => exact hT.elim
theorem so_lor {J : g_J} {pc nx : Nat} (hd : decode J.2.1 pc = .ok (.lor, 1)) (hn : pc + 1 = nx) : g_S J pc (tr_ll (fun x y => x ||| y) nx) := by
  subst hn
  intro l L st h K Post hK hT
  unfold tr_ll at hT
  split at hT
  next y x st' => exact g_step (fun D p e s m args below meth c H locs R cells slots Q ls C hR hl hE0 hM kk => lv_lor C.1 C.2.1 hd (kk ls hl)) (hK _ _ _ _ hT)
  next => exact hT.elim
theorem so_lxor {J : g_J} {pc nx : Nat} (hd : decode J.2.1 pc = .ok (.lxor, 1)) (hn : pc + 1 = nx) : g_S J pc (tr_ll (fun x y => x ^^^ y) nx) := by
  subst hn
  intro l L st h K Post hK hT
  unfold tr_ll at hT
  split at hT
  next y x st' => exact g_step (fun D p e s m args below meth c H locs R cells slots Q ls C hR hl hE0 hM kk => lv_lxor C.1 C.2.1 hd (kk ls hl)) (hK _ _ _ _ hT)
  next => exact hT.elim
theorem so_ldiv {J : g_J} {pc nx : Nat} (hd : decode J.2.1 pc = .ok (.ldiv, 1)) (hn : pc + 1 = nx) : g_S J pc (tr_lz (fun x y => x / y) nx) := by
  subst hn
  intro l L st h K Post hK hT
  unfold tr_lz at hT
  split at hT
  next y x st' => exact g_step (fun D p e s m args below meth c H locs R cells slots Q ls C hR hl hE0 hM kk => lv_ldiv C.1 C.2.1 hd hT.1 (kk ls hl)) (hK _ _ _ _ hT.2)
  next => exact hT.elim
theorem so_lrem {J : g_J} {pc nx : Nat} (hd : decode J.2.1 pc = .ok (.lrem, 1)) (hn : pc + 1 = nx) : g_S J pc (tr_lz (fun x y => x - x / y * y) nx) := by
  subst hn
  intro l L st h K Post hK hT
  unfold tr_lz at hT
  split at hT
  next y x st' => exact g_step (fun D p e s m args below meth c H locs R cells slots Q ls C hR hl hE0 hM kk => lv_lrem C.1 C.2.1 hd hT.1 (kk ls hl)) (hK _ _ _ _ hT.2)
  next => exact hT.elim
theorem so_lshl {J : g_J} {pc nx : Nat} (hd : decode J.2.1 pc = .ok (.lshl, 1)) (hn : pc + 1 = nx) : g_S J pc (tr_li (fun x y => x <<< (y.toInt64 &&& 63)) nx) := by
  subst hn
  intro l L st h K Post hK hT
  unfold tr_li at hT
  split at hT
  next y x st' => exact g_step (fun D p e s m args below meth c H locs R cells slots Q ls C hR hl hE0 hM kk => lv_lshl C.1 C.2.1 hd rfl (kk ls hl)) (hK _ _ _ _ hT)
  next => exact hT.elim
theorem so_lshr {J : g_J} {pc nx : Nat} (hd : decode J.2.1 pc = .ok (.lshr, 1)) (hn : pc + 1 = nx) : g_S J pc (tr_li (fun x y => x >>> (y.toInt64 &&& 63)) nx) := by
  subst hn
  intro l L st h K Post hK hT
  unfold tr_li at hT
  split at hT
  next y x st' => exact g_step (fun D p e s m args below meth c H locs R cells slots Q ls C hR hl hE0 hM kk => lv_lshr C.1 C.2.1 hd rfl (kk ls hl)) (hK _ _ _ _ hT)
  next => exact hT.elim
theorem so_lushr {J : g_J} {pc nx : Nat} (hd : decode J.2.1 pc = .ok (.lushr, 1)) (hn : pc + 1 = nx) : g_S J pc (tr_li (fun x y => (x.toUInt64 >>> (y.toInt64.toUInt64 &&& Int64.toUInt64 63)).toInt64) nx) := by
  subst hn
  intro l L st h K Post hK hT
  unfold tr_li at hT
  split at hT
  next y x st' => exact g_step (fun D p e s m args below meth c H locs R cells slots Q ls C hR hl hE0 hM kk => lv_lushr C.1 C.2.1 hd rfl (kk ls hl)) (hK _ _ _ _ hT)
  next => exact hT.elim
def tr_ineg (nx : Nat) : g_T := fun _ L st h K _ => match st with
  | .int x :: st' => K nx L (.int (-x) :: st') h
  | _ => False
theorem so_ineg {J : g_J} {pc nx : Nat} (hd : decode J.2.1 pc = .ok (.ineg, 1)) (hn : pc + 1 = nx) : g_S J pc (tr_ineg nx) := by
  subst hn
  intro l L st h K Post hK hT
  unfold tr_ineg at hT
  split at hT
  next x st' => exact g_step (fun D p e s m args below meth c H locs R cells slots Q ls C hR hl hE0 hM kk => lv_ineg C.1 C.2.1 hd (kk ls hl)) (hK _ _ _ _ hT)
  next => exact hT.elim
def tr_lneg (nx : Nat) : g_T := fun _ L st h K _ => match st with
  | .long x :: st' => K nx L (.long (-x) :: st') h
  | _ => False
theorem so_lneg {J : g_J} {pc nx : Nat} (hd : decode J.2.1 pc = .ok (.lneg, 1)) (hn : pc + 1 = nx) : g_S J pc (tr_lneg nx) := by
  subst hn
  intro l L st h K Post hK hT
  unfold tr_lneg at hT
  split at hT
  next x st' => exact g_step (fun D p e s m args below meth c H locs R cells slots Q ls C hR hl hE0 hM kk => lv_lneg C.1 C.2.1 hd (kk ls hl)) (hK _ _ _ _ hT)
  next => exact hT.elim
def tr_i2l (nx : Nat) : g_T := fun _ L st h K _ => match st with
  | .int x :: st' => K nx L (.long (x.toInt64) :: st') h
  | _ => False
theorem so_i2l {J : g_J} {pc nx : Nat} (hd : decode J.2.1 pc = .ok (.i2l, 1)) (hn : pc + 1 = nx) : g_S J pc (tr_i2l nx) := by
  subst hn
  intro l L st h K Post hK hT
  unfold tr_i2l at hT
  split at hT
  next x st' => exact g_step (fun D p e s m args below meth c H locs R cells slots Q ls C hR hl hE0 hM kk => lv_i2l C.1 C.2.1 hd rfl (kk ls hl)) (hK _ _ _ _ hT)
  next => exact hT.elim
def tr_l2i (nx : Nat) : g_T := fun _ L st h K _ => match st with
  | .long x :: st' => K nx L (.int (x.toInt32) :: st') h
  | _ => False
theorem so_l2i {J : g_J} {pc nx : Nat} (hd : decode J.2.1 pc = .ok (.l2i, 1)) (hn : pc + 1 = nx) : g_S J pc (tr_l2i nx) := by
  subst hn
  intro l L st h K Post hK hT
  unfold tr_l2i at hT
  split at hT
  next x st' => exact g_step (fun D p e s m args below meth c H locs R cells slots Q ls C hR hl hE0 hM kk => lv_l2i C.1 C.2.1 hd rfl (kk ls hl)) (hK _ _ _ _ hT)
  next => exact hT.elim
def tr_i2b (nx : Nat) : g_T := fun _ L st h K _ => match st with
  | .int x :: st' => K nx L (.int (x.toInt8.toInt32) :: st') h
  | _ => False
theorem so_i2b {J : g_J} {pc nx : Nat} (hd : decode J.2.1 pc = .ok (.i2b, 1)) (hn : pc + 1 = nx) : g_S J pc (tr_i2b nx) := by
  subst hn
  intro l L st h K Post hK hT
  unfold tr_i2b at hT
  split at hT
  next x st' => exact g_step (fun D p e s m args below meth c H locs R cells slots Q ls C hR hl hE0 hM kk => lv_i2b C.1 C.2.1 hd rfl (kk ls hl)) (hK _ _ _ _ hT)
  next => exact hT.elim
def tr_lcmp (nx : Nat) : g_T := fun _ L st h K _ => match st with
  | .long y :: .long x :: st' => K nx L (.int (lg_cmp x y) :: st') h
  | _ => False
theorem so_lcmp {J : g_J} {pc nx : Nat} (hd : decode J.2.1 pc = .ok (.lcmp, 1)) (hn : pc + 1 = nx) : g_S J pc (tr_lcmp nx) := by
  subst hn
  intro l L st h K Post hK hT
  unfold tr_lcmp at hT
  split at hT
  next y x st' => exact g_step (fun D p e s m args below meth c H locs R cells slots Q ls C hR hl hE0 hM kk => W.lcmp C.1 C.2.1 hd (kk ls hl)) (hK _ _ _ _ hT)
  next => exact hT.elim
def tr_dup (nx : Nat) : g_T := fun _ L st h K _ => match st with
  | .int x :: st' => K nx L (.int x :: .int x :: st') h
  | .ref x :: st' => K nx L (.ref x :: .ref x :: st') h
  | _ => False
theorem so_dup {J : g_J} {pc nx : Nat} (hd : decode J.2.1 pc = .ok (.dup, 1)) (hn : pc + 1 = nx) : g_S J pc (tr_dup nx) := by
  subst hn
  intro l L st h K Post hK hT
  unfold tr_dup at hT
  split at hT
  next x st' => exact g_step (fun D p e s m args below meth c H locs R cells slots Q ls C hR hl hE0 hM kk => lv_dup C.1 C.2.1 hd rfl (kk ls hl)) (hK _ _ _ _ hT)
  next x st' => exact g_step (fun D p e s m args below meth c H locs R cells slots Q ls C hR hl hE0 hM kk => lv_dup C.1 C.2.1 hd rfl (kk ls hl)) (hK _ _ _ _ hT)
  next => exact hT.elim
def tr_pop (nx : Nat) : g_T := fun _ L st h K _ => match st with
  | .int _ :: st' => K nx L st' h
  | .ref _ :: st' => K nx L st' h
  | _ => False
theorem so_pop {J : g_J} {pc nx : Nat} (hd : decode J.2.1 pc = .ok (.pop, 1)) (hn : pc + 1 = nx) : g_S J pc (tr_pop nx) := by
  subst hn
  intro l L st h K Post hK hT
  unfold tr_pop at hT
  split at hT
  next x st' => exact g_step (fun D p e s m args below meth c H locs R cells slots Q ls C hR hl hE0 hM kk => lv_pop C.1 C.2.1 hd rfl (kk ls hl)) (hK _ _ _ _ hT)
  next x st' => exact g_step (fun D p e s m args below meth c H locs R cells slots Q ls C hR hl hE0 hM kk => lv_pop C.1 C.2.1 hd rfl (kk ls hl)) (hK _ _ _ _ hT)
  next => exact hT.elim
def tr_dupx1 (nx : Nat) : g_T := fun _ L st h K _ => match st with
  | .int x :: .ref y :: st' => K nx L (.int x :: .ref y :: .int x :: st') h
  | _ => False
theorem so_dup_x1 {J : g_J} {pc nx : Nat} (hd : decode J.2.1 pc = .ok (.dup_x1, 1)) (hn : pc + 1 = nx) : g_S J pc (tr_dupx1 nx) := by
  subst hn
  intro l L st h K Post hK hT
  unfold tr_dupx1 at hT
  split at hT
  next x y st' => exact g_step (fun D p e s m args below meth c H locs R cells slots Q ls C hR hl hE0 hM kk => lv_dup_x1 C.1 C.2.1 hd rfl rfl (kk ls hl)) (hK _ _ _ _ hT)
  next => exact hT.elim
def tr_dup2 (nx : Nat) : g_T := fun _ L st h K _ => match st with
  | .int x :: .ref y :: st' => K nx L (.int x :: .ref y :: .int x :: .ref y :: st') h
  | _ => False
theorem so_dup2 {J : g_J} {pc nx : Nat} (hd : decode J.2.1 pc = .ok (.dup2, 1)) (hn : pc + 1 = nx) : g_S J pc (tr_dup2 nx) := by
  subst hn
  intro l L st h K Post hK hT
  unfold tr_dup2 at hT
  split at hT
  next x y st' => exact g_step (fun D p e s m args below meth c H locs R cells slots Q ls C hR hl hE0 hM kk => lv_dup2_11 C.1 C.2.1 hd rfl rfl (kk ls hl)) (hK _ _ _ _ hT)
  next => exact hT.elim
def g_br (c A B : Prop) : Prop := (c → A) ∧ (¬ c → B)
theorem g_br_t {c A B : Prop} (hc : c) (h : A) : g_br c A B := ⟨fun _ => h, fun q => absurd hc q⟩
theorem g_br_f {c A B : Prop} (hc : ¬ c) (h : B) : g_br c A B := ⟨fun q => absurd q hc, fun _ => h⟩
theorem g_br_i {c A B : Prop} (h : c → A) (h2 : ¬ c → B) : g_br c A B := ⟨h, h2⟩
theorem g_br2 {l : Launch} {J : g_J} {pc t1 t2 : Nat} {L : g_L} {st st' : List Value} {h : g_H} {Post : g_P} {q : Prop}
    (hw : ∀ (D : g_D) (p : Program) (e : Env) (s : State) (m : MethodId) (args : Array Value) (below : List Frame) (meth : Method) (c : Code) (H : Heap) (locs : List Loc) (R : Room) (cells slots : Nat) (Q : State → Prop) (ls : Array Slot), g_CX J D p s m args meth c →
      (q → W p l e R s m args below meth c H locs cells slots Q (F0 m t1 ls st')) → (¬ q → W p l e R s m args below meth c H locs cells slots Q (F0 m t2 ls st')) → W p l e R s m args below meth c H locs cells slots Q (F0 m pc ls st))
    (k : g_br q (g_X l J t1 L st' h Post) (g_X l J t2 L st' h Post)) : g_X l J pc L st h Post := by
  by_cases hq : q
  · exact g_step (fun D p e s m args below meth c H locs R cells slots Q ls C hR hl hE0 hM kk => hw D p e s m args below meth c H locs R cells slots Q ls C (fun _ => kk ls hl) (fun z => absurd hq z)) (k.1 hq)
  · exact g_step (fun D p e s m args below meth c H locs R cells slots Q ls C hR hl hE0 hM kk => hw D p e s m args below meth c H locs R cells slots Q ls C (fun z => absurd z hq) (fun _ => kk ls hl)) (k.2 hq)
def tr_if1 (P : Int32 → Prop) (tg nx : Nat) : g_T := fun _ L st h K _ => match st with
  | .int x :: st' => g_br (P x) (K tg L st' h) (K nx L st' h)
  | _ => False
def tr_if2 (P : Int32 → Int32 → Prop) (tg nx : Nat) : g_T := fun _ L st h K _ => match st with
  | .int y :: .int x :: st' => g_br (P x y) (K tg L st' h) (K nx L st' h)
  | _ => False
theorem so_if_eq {J : g_J} {pc tg nx : Nat} {off : Int} (hd : decode J.2.1 pc = .ok (.ifCond .eq off, 3)) (ht : (pc : Int) + off = (tg : Int)) (hn : pc + 3 = nx) : g_S J pc (tr_if1 (fun x => x = 0) tg nx) := by
  subst hn
  intro l L st h K Post hK hT
  unfold tr_if1 at hT
  split at hT
  next x st' => exact g_br2 (fun D p e s m args below meth c H locs R cells slots Q ls C k1 k2 => lv_if_eq C.1 C.2.1 hd ht k1 k2) ⟨fun q => hK _ _ _ _ (hT.1 q), fun q => hK _ _ _ _ (hT.2 q)⟩
  next => exact hT.elim
theorem so_icmp_eq {J : g_J} {pc tg nx : Nat} {off : Int} (hd : decode J.2.1 pc = .ok (.if_icmp .eq off, 3)) (ht : (pc : Int) + off = (tg : Int)) (hn : pc + 3 = nx) : g_S J pc (tr_if2 (fun x y => x = y) tg nx) := by
  subst hn
  intro l L st h K Post hK hT
  unfold tr_if2 at hT
  split at hT
  next y x st' => exact g_br2 (fun D p e s m args below meth c H locs R cells slots Q ls C k1 k2 => lv_icmp_eq C.1 C.2.1 hd ht k1 k2) ⟨fun q => hK _ _ _ _ (hT.1 q), fun q => hK _ _ _ _ (hT.2 q)⟩
  next => exact hT.elim
theorem so_if_ne {J : g_J} {pc tg nx : Nat} {off : Int} (hd : decode J.2.1 pc = .ok (.ifCond .ne off, 3)) (ht : (pc : Int) + off = (tg : Int)) (hn : pc + 3 = nx) : g_S J pc (tr_if1 (fun x => ¬ x = 0) tg nx) := by
  subst hn
  intro l L st h K Post hK hT
  unfold tr_if1 at hT
  split at hT
  next x st' => exact g_br2 (fun D p e s m args below meth c H locs R cells slots Q ls C k1 k2 => lv_if_ne C.1 C.2.1 hd ht k1 (fun z => k2 (fun w => w z))) ⟨fun q => hK _ _ _ _ (hT.1 q), fun q => hK _ _ _ _ (hT.2 q)⟩
  next => exact hT.elim
theorem so_icmp_ne {J : g_J} {pc tg nx : Nat} {off : Int} (hd : decode J.2.1 pc = .ok (.if_icmp .ne off, 3)) (ht : (pc : Int) + off = (tg : Int)) (hn : pc + 3 = nx) : g_S J pc (tr_if2 (fun x y => ¬ x = y) tg nx) := by
  subst hn
  intro l L st h K Post hK hT
  unfold tr_if2 at hT
  split at hT
  next y x st' => exact g_br2 (fun D p e s m args below meth c H locs R cells slots Q ls C k1 k2 => lv_icmp_ne C.1 C.2.1 hd ht k1 (fun z => k2 (fun w => w z))) ⟨fun q => hK _ _ _ _ (hT.1 q), fun q => hK _ _ _ _ (hT.2 q)⟩
  next => exact hT.elim
theorem so_if_lt {J : g_J} {pc tg nx : Nat} {off : Int} (hd : decode J.2.1 pc = .ok (.ifCond .lt off, 3)) (ht : (pc : Int) + off = (tg : Int)) (hn : pc + 3 = nx) : g_S J pc (tr_if1 (fun x => x < 0) tg nx) := by
  subst hn
  intro l L st h K Post hK hT
  unfold tr_if1 at hT
  split at hT
  next x st' => exact g_br2 (fun D p e s m args below meth c H locs R cells slots Q ls C k1 k2 => lv_if_lt C.1 C.2.1 hd ht k1 k2) ⟨fun q => hK _ _ _ _ (hT.1 q), fun q => hK _ _ _ _ (hT.2 q)⟩
  next => exact hT.elim
theorem so_icmp_lt {J : g_J} {pc tg nx : Nat} {off : Int} (hd : decode J.2.1 pc = .ok (.if_icmp .lt off, 3)) (ht : (pc : Int) + off = (tg : Int)) (hn : pc + 3 = nx) : g_S J pc (tr_if2 (fun x y => x < y) tg nx) := by
  subst hn
  intro l L st h K Post hK hT
  unfold tr_if2 at hT
  split at hT
  next y x st' => exact g_br2 (fun D p e s m args below meth c H locs R cells slots Q ls C k1 k2 => lv_icmp_lt C.1 C.2.1 hd ht k1 k2) ⟨fun q => hK _ _ _ _ (hT.1 q), fun q => hK _ _ _ _ (hT.2 q)⟩
  next => exact hT.elim
theorem so_if_ge {J : g_J} {pc tg nx : Nat} {off : Int} (hd : decode J.2.1 pc = .ok (.ifCond .ge off, 3)) (ht : (pc : Int) + off = (tg : Int)) (hn : pc + 3 = nx) : g_S J pc (tr_if1 (fun x => 0 ≤ x) tg nx) := by
  subst hn
  intro l L st h K Post hK hT
  unfold tr_if1 at hT
  split at hT
  next x st' => exact g_br2 (fun D p e s m args below meth c H locs R cells slots Q ls C k1 k2 => lv_if_ge C.1 C.2.1 hd ht k1 k2) ⟨fun q => hK _ _ _ _ (hT.1 q), fun q => hK _ _ _ _ (hT.2 q)⟩
  next => exact hT.elim
theorem so_icmp_ge {J : g_J} {pc tg nx : Nat} {off : Int} (hd : decode J.2.1 pc = .ok (.if_icmp .ge off, 3)) (ht : (pc : Int) + off = (tg : Int)) (hn : pc + 3 = nx) : g_S J pc (tr_if2 (fun x y => y ≤ x) tg nx) := by
  subst hn
  intro l L st h K Post hK hT
  unfold tr_if2 at hT
  split at hT
  next y x st' => exact g_br2 (fun D p e s m args below meth c H locs R cells slots Q ls C k1 k2 => lv_icmp_ge C.1 C.2.1 hd ht k1 k2) ⟨fun q => hK _ _ _ _ (hT.1 q), fun q => hK _ _ _ _ (hT.2 q)⟩
  next => exact hT.elim
theorem so_if_gt {J : g_J} {pc tg nx : Nat} {off : Int} (hd : decode J.2.1 pc = .ok (.ifCond .gt off, 3)) (ht : (pc : Int) + off = (tg : Int)) (hn : pc + 3 = nx) : g_S J pc (tr_if1 (fun x => 0 < x) tg nx) := by
  subst hn
  intro l L st h K Post hK hT
  unfold tr_if1 at hT
  split at hT
  next x st' => exact g_br2 (fun D p e s m args below meth c H locs R cells slots Q ls C k1 k2 => lv_if_gt C.1 C.2.1 hd ht k1 k2) ⟨fun q => hK _ _ _ _ (hT.1 q), fun q => hK _ _ _ _ (hT.2 q)⟩
  next => exact hT.elim
theorem so_icmp_gt {J : g_J} {pc tg nx : Nat} {off : Int} (hd : decode J.2.1 pc = .ok (.if_icmp .gt off, 3)) (ht : (pc : Int) + off = (tg : Int)) (hn : pc + 3 = nx) : g_S J pc (tr_if2 (fun x y => y < x) tg nx) := by
  subst hn
  intro l L st h K Post hK hT
  unfold tr_if2 at hT
  split at hT
  next y x st' => exact g_br2 (fun D p e s m args below meth c H locs R cells slots Q ls C k1 k2 => lv_icmp_gt C.1 C.2.1 hd ht k1 k2) ⟨fun q => hK _ _ _ _ (hT.1 q), fun q => hK _ _ _ _ (hT.2 q)⟩
  next => exact hT.elim
theorem so_if_le {J : g_J} {pc tg nx : Nat} {off : Int} (hd : decode J.2.1 pc = .ok (.ifCond .le off, 3)) (ht : (pc : Int) + off = (tg : Int)) (hn : pc + 3 = nx) : g_S J pc (tr_if1 (fun x => x ≤ 0) tg nx) := by
  subst hn
  intro l L st h K Post hK hT
  unfold tr_if1 at hT
  split at hT
  next x st' => exact g_br2 (fun D p e s m args below meth c H locs R cells slots Q ls C k1 k2 => lv_if_le C.1 C.2.1 hd ht k1 k2) ⟨fun q => hK _ _ _ _ (hT.1 q), fun q => hK _ _ _ _ (hT.2 q)⟩
  next => exact hT.elim
theorem so_icmp_le {J : g_J} {pc tg nx : Nat} {off : Int} (hd : decode J.2.1 pc = .ok (.if_icmp .le off, 3)) (ht : (pc : Int) + off = (tg : Int)) (hn : pc + 3 = nx) : g_S J pc (tr_if2 (fun x y => x ≤ y) tg nx) := by
  subst hn
  intro l L st h K Post hK hT
  unfold tr_if2 at hT
  split at hT
  next y x st' => exact g_br2 (fun D p e s m args below meth c H locs R cells slots Q ls C k1 k2 => lv_icmp_le C.1 C.2.1 hd ht k1 k2) ⟨fun q => hK _ _ _ _ (hT.1 q), fun q => hK _ _ _ _ (hT.2 q)⟩
  next => exact hT.elim
def tr_goto (tg : Nat) : g_T := fun _ L st h K _ => K tg L st h
theorem so_goto {J : g_J} {pc tg : Nat} {off : Int} (hd : decode J.2.1 pc = .ok (.goto off, 3)) (ht : (pc : Int) + off = (tg : Int)) : g_S J pc (tr_goto tg) :=
  fun l L st h K Post hK hT => g_step (fun D p e s m args below meth c H locs R cells slots Q ls C hR hl hE0 hM kk => lv_goto C.1 C.2.1 hd ht (kk ls hl)) (hK _ _ _ _ hT)
def g_ls (x : Int32) (K : Nat → Prop) (d : Nat) : List (Int32 × Nat) → Prop
  | [] => K d
  | (k, t) :: r => g_br (x = k) (K t) (g_ls x K d r)
theorem g_ls_cases {x : Int32} {K : Nat → Prop} {d : Nat} : ∀ (T : List (Int32 × Nat)), g_ls x K d T → (∃ (i : Nat) (t : Nat), T[i]? = some (x, t) ∧ K t) ∨ ((∀ (i : Nat) (q : Int32 × Nat), T[i]? = some q → x ≠ q.1) ∧ K d)
  | [], h => Or.inr ⟨fun i q hq => by simp at hq, h⟩
  | (k, t) :: r, h => by
    by_cases hx : x = k
    · subst hx
      exact Or.inl ⟨0, t, rfl, h.1 rfl⟩
    · rcases g_ls_cases r (h.2 hx) with ⟨i, t', h1, h2⟩ | ⟨h1, h2⟩
      · exact Or.inl ⟨i + 1, t', h1, h2⟩
      · refine Or.inr ⟨fun i q hq => ?_, h2⟩
        cases i with
        | zero =>
          rw [List.getElem?_cons_zero] at hq
          cases hq
          exact hx
        | succ i =>
          rw [List.getElem?_cons_succ] at hq
          exact h1 i q hq
def tr_sw (T : List (Int32 × Nat)) (d : Nat) : g_T := fun _ L st h K _ => match st with
  | .int x :: st' => g_ls x (fun t => K t L st' h) d T
  | _ => False
theorem so_tsw {J : g_J} {pc d : Nat} {dflt lo hi : Int} {offs : Array Int} {len : Nat} {T : List (Int32 × Nat)} (hd : decode J.2.1 pc = .ok (.tableswitch dflt lo hi offs, len)) (hdf : (pc : Int) + dflt = (d : Int)) (ho : offs.toList = T.map (fun q => (q.2 : Int) - (pc : Int))) (hk : T.map (fun q => q.1.toInt) = (List.range T.length).map (fun i : Nat => lo + (i : Int))) (hh : hi = lo + (T.length : Int) - 1) : g_S J pc (tr_sw T d) := by
  intro l L st h K Post hK hT
  unfold tr_sw at hT
  split at hT
  next x st' =>
    have key : ∀ (i : Nat) (q : Int32 × Nat), T[i]? = some q → q.1.toInt = lo + (i : Int) := by
      intro i q hq
      have h1 : (T.map (fun q => q.1.toInt))[i]? = some q.1.toInt := by rw [List.getElem?_map, hq]; rfl
      have hi' : i < T.length := (List.getElem?_eq_some_iff.mp hq).1
      rw [hk, List.getElem?_map, List.getElem?_range hi'] at h1
      exact (Option.some.inj h1).symm
    rcases g_ls_cases T hT with ⟨i, t, h1, h2⟩ | ⟨h1, h2⟩
    · have e1 : x.toInt = lo + (i : Int) := key i _ h1
      have hi' : i < T.length := (List.getElem?_eq_some_iff.mp h1).1
      have e2 : offs[(x.toInt - lo).toNat]? = some ((t : Int) - (pc : Int)) := by
        rw [show (x.toInt - lo).toNat = i by omega, ← Array.getElem?_toList, ho, List.getElem?_map, h1]
        rfl
      exact g_step (fun D p e s m args below meth c H locs R cells slots Q ls C hR hl hE0 hM kk => lv_tableIn C.1 C.2.1 hd (by omega) (by omega) e2 (by omega) (kk ls hl)) (hK _ _ _ _ h2)
    · refine g_step (fun D p e s m args below meth c H locs R cells slots Q ls C hR hl hE0 hM kk => lv_tableOut C.1 C.2.1 hd ?_ hdf (kk ls hl)) (hK _ _ _ _ h2)
      by_cases a : x.toInt < lo
      · exact Or.inl a
      · by_cases b : hi < x.toInt
        · exact Or.inr b
        · exfalso
          have hi' : (x.toInt - lo).toNat < T.length := by omega
          have h3 := List.getElem?_eq_getElem hi'
          have e1 := key _ _ h3
          refine h1 _ _ h3 (Int32.toInt_inj.mp ?_)
          rw [e1]
          omega
  next => exact hT.elim
end
section
/-! THE G ROWS, fourth part: fields, arrays, new cells, ends -/
theorem g_one {D : g_D} {h : g_H} {H : Heap} {a : Nat} {o : Nat × List Value} (hR : g_Rep D h H) (h1 : h.1 a = some (.inr o)) : va_P D.1 vwCl [(a, .inr o)] H := by
  intro k q hk
  cases k with
  | zero =>
    rw [List.getElem?_cons_zero] at hk
    cases hk
    exact hR.2 a _ h1
  | succ n => simp at hk
def g_gt (h : g_H) (a ci k : Nat) (P : Value → Prop) : Prop := ∃ (fs : List Value) (v : Value), h.1 a = some (.inr (ci, fs)) ∧ fs[k]? = some v ∧ P v
theorem g_gt_i {h : g_H} {a ci k : Nat} {P : Value → Prop} {fs : List Value} {v : Value} (h1 : h.1 a = some (.inr (ci, fs))) (h2 : fs[k]? = some v) (h3 : P v) : g_gt h a ci k P := ⟨fs, v, h1, h2, h3⟩
def tr_get (ci k nx : Nat) : g_T := fun _ L st h K _ => match st with
  | .ref a :: st' => g_gt h a ci k (fun v => K nx L (v :: st') h)
  | _ => False
theorem so_get {J : g_J} {pc nx ci k idx N : Nat} {Cn : String} {T : u_T} (hd : decode J.2.1 pc = .ok (.getfield idx, 3)) (hc : vwCl[ci]? = some (Cn, T, N)) (hk : k < N) (hin : ∀ w ∈ u_ws Cn T N, w ∈ g_W) (hl : Cond.fieldLink J.1.cls idx (T k).1 (T k).2.1 (T k).2.2.1 ∈ g_W) (hn : pc + 3 = nx) : g_S J pc (tr_get ci k nx) := by
  subst hn
  intro l L st h K Post hK hT
  unfold tr_get at hT
  split at hT
  next a st' =>
    obtain ⟨fs, v, h1, h2, h3⟩ := hT
    exact g_step (fun D p e s m args below meth c H locs R cells slots Q ls C hR hl' hE0 hM kk => va_get (D := D.1) (cl := vwCl) C.1 C.2.1 C.2.2.2.2.1 hin C.2.2.2.1 C.2.2.2.2.2.1 (g_one hR h1) 0 rfl hc k hk (C.2.2.2.2.1 _ hl) (fun _ z => z) h2 hd (kk ls hl')) (hK _ _ _ _ h3)
  next => exact hT.elim
theorem so_getN {J : g_J} {pc nx ci k idx N : Nat} {Cn host : String} {T : u_T} (hd : decode J.2.1 pc = .ok (.getfield idx, 3)) (hc : vwCl[ci]? = some (Cn, T, N)) (hk : k < N) (hin : ∀ w ∈ u_ws Cn T N, w ∈ g_W) (hl : Cond.fieldLinkNest J.1.cls idx (T k).1 (T k).2.1 (T k).2.2.1 host ∈ g_W) (hn : pc + 3 = nx) : g_S J pc (tr_get ci k nx) := by
  subst hn
  intro l L st h K Post hK hT
  unfold tr_get at hT
  split at hT
  next a st' =>
    obtain ⟨fs, v, h1, h2, h3⟩ := hT
    exact g_step (fun D p e s m args below meth c H locs R cells slots Q ls C hR hl' hE0 hM kk => va_getN (D := D.1) (cl := vwCl) C.1 C.2.1 C.2.2.2.2.1 hin C.2.2.2.1 C.2.2.2.2.2.1 (g_one hR h1) 0 rfl hc k hk (C.2.2.2.2.1 _ hl) (fun _ z => z) h2 hd (kk ls hl')) (hK _ _ _ _ h3)
  next => exact hT.elim
def g_pt (h : g_H) (a ci k : Nat) (ty : FieldType) (v : Value) (P : g_H → Prop) : Prop := ∃ fs : List Value, h.1 a = some (.inr (ci, fs)) ∧ k < fs.length ∧ (narrow ty v = v ∧ fits ty v = true) ∧ P (g_up h a (.inr (ci, fs.set k v)))
theorem g_pt_i {h : g_H} {a ci k : Nat} {ty : FieldType} {v : Value} {P : g_H → Prop} {fs : List Value} (h1 : h.1 a = some (.inr (ci, fs))) (h2 : k < fs.length) (h3 : narrow ty v = v) (h4 : fits ty v = true) (h5 : P (g_up h a (.inr (ci, fs.set k v)))) : g_pt h a ci k ty v P := ⟨fs, h1, h2, ⟨h3, h4⟩, h5⟩
def tr_put (ci k : Nat) (ty : FieldType) (nx : Nat) : g_T := fun _ L st h K _ => match st with
  | v :: .ref a :: st' => g_pt h a ci k ty v (fun h1 => K nx L st' h1)
  | _ => False
theorem g_put_cell {D : g_D} {H' : Heap} {a ci k N : Nat} {Cn : String} {T : u_T} {fs : List Value} {v : Value} {cell : Cell} (hc : vwCl[ci]? = some (Cn, T, N)) (hk : k < N) (hl : k < fs.length) (hap : ∀ x y, x < N → y < N → x ≠ y → (D.1.2 ci) x ≠ (D.1.2 ci) y) (q2 : cell.cls = D.1.1 ci) (q3 : cell.vm = .none) (q4 : ∀ j, j < N → cell.slots[D.1.2 ci j]? = some (vp_V fs j)) (e1 : H'[a]? = some (cell.setSlot (D.1.2 ci k) v)) : g_At D a (.inr (ci, fs.set k v)) H' :=
  ⟨_, hc, t_OB.to (V := updV (vp_V fs) k v) ⟨_, e1, q2, q3, t_set q4 hap hk v⟩ (fun j _ => vp_updV_set hl v j)⟩
theorem so_put {J : g_J} {pc nx ci k idx N : Nat} {Cn : String} {T : u_T} {ty : FieldType} (ty0 : Nat → FieldType) (hd : decode J.2.1 pc = .ok (.putfield idx, 3)) (hc : vwCl[ci]? = some (Cn, T, N)) (hk : k < N) (hin : ∀ w ∈ u_ws Cn T N, w ∈ g_W) (hl : Cond.fieldLink J.1.cls idx (T k).1 (T k).2.1 (T k).2.2.1 ∈ g_W) (hty : ∀ k, k < N → parseFieldDescriptor (T k).2.2.1 = some (ty0 k)) (hnm : ∀ a, a < N → ∀ b, b < N → a ≠ b → (T a).2.1 ≠ (T b).2.1) (hf : (T k).2.2.2 = false) (ht : ty0 k = ty) (hn : pc + 3 = nx) : g_S J pc (tr_put ci k ty nx) := by
  subst hn
  subst ht
  intro l L st h K Post hK hT
  unfold tr_put at hT
  split at hT
  next v a st' =>
    obtain ⟨fs, h1, h2, ⟨h3, h4⟩, h5⟩ := hT
    refine g_stepU (g_Gr_up h1) rfl (fun D p e s m args below meth c H locs R cells slots Q ls h0 C hG hR hS kk => ?_) (hK _ _ _ _ h5)
    have hts := C.2.2.2.2.1
    have hKs := C.2.2.2.2.2.1
    have hap := va_apart (own := J.1.cls) hts hin ty0 hty hnm hKs hc
    obtain ⟨r, hr, cell, q1, q2, q3, q4⟩ := hR.2 a _ h1
    have hr' : r = (Cn, T, N) := Option.some.inj (hr.symm.trans hc)
    subst hr'
    obtain ⟨hSl, hfc, kC, hkC, hkind⟩ := hKs.1 ci _ hc
    obtain ⟨cf, kf, fi, f, hi, hsl⟩ := hSl k hk
    have hlay := hts _ (hin _ (u_in_lay hk))
    unfold u_lay at hlay
    rw [if_neg (by rw [hf]; decide)] at hlay
    have hst := (u_facts hfc hkC (u_lays hts hin hk) hi).1
    have h6 := u_store hfc hkC hkind hlay hi (hty k hk) h3 h4
    refine W.putK C.1 C.2.1 (f := f) ⟨C.2.2.2.1, hts _ hl, ⟨_, _, _, hi⟩, hst⟩ (by rw [q2]; exact h6) q1 q3 (by rw [hsl]; exact k2_hasslot (q4 k hk)) rfl rfl hd fun H' e1 e2 e3 => ?_
    rw [hsl] at e1 ⊢
    exact kk H' _ (g_Rep_up hR h1 (g_put_cell hc hk h2 hap q2 q3 q4 e1) e2 e3) (hS.put e2 e3 (hG.2.2 a (by rw [h1]; exact fun z => by cases z)))
  next => exact hT.elim
theorem so_putN {J : g_J} {pc nx ci k idx N : Nat} {Cn host : String} {T : u_T} {ty : FieldType} (ty0 : Nat → FieldType) (hd : decode J.2.1 pc = .ok (.putfield idx, 3)) (hc : vwCl[ci]? = some (Cn, T, N)) (hk : k < N) (hin : ∀ w ∈ u_ws Cn T N, w ∈ g_W) (hl : Cond.fieldLinkNest J.1.cls idx (T k).1 (T k).2.1 (T k).2.2.1 host ∈ g_W) (hty : ∀ k, k < N → parseFieldDescriptor (T k).2.2.1 = some (ty0 k)) (hnm : ∀ a, a < N → ∀ b, b < N → a ≠ b → (T a).2.1 ≠ (T b).2.1) (hf : (T k).2.2.2 = false) (ht : ty0 k = ty) (hn : pc + 3 = nx) : g_S J pc (tr_put ci k ty nx) := by
  subst hn
  subst ht
  intro l L st h K Post hK hT
  unfold tr_put at hT
  split at hT
  next v a st' =>
    obtain ⟨fs, h1, h2, ⟨h3, h4⟩, h5⟩ := hT
    refine g_stepU (g_Gr_up h1) rfl (fun D p e s m args below meth c H locs R cells slots Q ls h0 C hG hR hS kk => ?_) (hK _ _ _ _ h5)
    have hts := C.2.2.2.2.1
    have hKs := C.2.2.2.2.2.1
    have hap := va_apart (own := J.1.cls) hts hin ty0 hty hnm hKs hc
    obtain ⟨r, hr, cell, q1, q2, q3, q4⟩ := hR.2 a _ h1
    have hr' : r = (Cn, T, N) := Option.some.inj (hr.symm.trans hc)
    subst hr'
    obtain ⟨hSl, hfc, kC, hkC, hkind⟩ := hKs.1 ci _ hc
    obtain ⟨cf, kf, fi, f, hi, hsl⟩ := hSl k hk
    have hlay := hts _ (hin _ (u_in_lay hk))
    unfold u_lay at hlay
    rw [if_neg (by rw [hf]; decide)] at hlay
    have hst := (u_facts hfc hkC (u_lays hts hin hk) hi).1
    have h6 := u_store hfc hkC hkind hlay hi (hty k hk) h3 h4
    refine va_WputK C.1 C.2.1 (f := f) C.2.2.2.1 (hts _ hl) hi hst (by rw [q2]; exact h6) q1 q3 (by rw [hsl]; exact k2_hasslot (q4 k hk)) rfl rfl hd fun H' e1 e2 e3 => ?_
    rw [hsl] at e1 ⊢
    exact kk H' _ (g_Rep_up hR h1 (g_put_cell hc hk h2 hap q2 q3 q4 e1) e2 e3) (hS.put e2 e3 (hG.2.2 a (by rw [h1]; exact fun z => by cases z)))
  next => exact hT.elim
theorem so_putF {J : g_J} {pc nx ci k idx N : Nat} {Cn : String} {T : u_T} {ty : FieldType} (ty0 : Nat → FieldType) (hd : decode J.2.1 pc = .ok (.putfield idx, 3)) (hc : vwCl[ci]? = some (Cn, T, N)) (hk : k < N) (hin : ∀ w ∈ u_ws Cn T N, w ∈ g_W) (hl : Cond.fieldLink J.1.cls idx (T k).1 (T k).2.1 (T k).2.2.1 ∈ g_W) (hty : ∀ k, k < N → parseFieldDescriptor (T k).2.2.1 = some (ty0 k)) (hnm : ∀ a, a < N → ∀ b, b < N → a ≠ b → (T a).2.1 ≠ (T b).2.1) (hf : (T k).2.2.2 = true) (hin2 : J.1.name = "<init>") (hdecl : (T k).1 = J.1.cls) (ht : ty0 k = ty) (hn : pc + 3 = nx) : g_S J pc (tr_put ci k ty nx) := by
  subst hn
  subst ht
  intro l L st h K Post hK hT
  unfold tr_put at hT
  split at hT
  next v a st' =>
    obtain ⟨fs, h1, h2, ⟨h3, h4⟩, h5⟩ := hT
    refine g_stepU (g_Gr_up h1) rfl (fun D p e s m args below meth c H locs R cells slots Q ls h0 C hG hR hS kk => ?_) (hK _ _ _ _ h5)
    have hts := C.2.2.2.2.1
    have hKs := C.2.2.2.2.2.1
    have hown := C.2.2.2.1
    have hap := va_apart (own := J.1.cls) hts hin ty0 hty hnm hKs hc
    obtain ⟨r, hr, cell, q1, q2, q3, q4⟩ := hR.2 a _ h1
    have hr' : r = (Cn, T, N) := Option.some.inj (hr.symm.trans hc)
    subst hr'
    obtain ⟨hSl, hfc, kC, hkC, hkind⟩ := hKs.1 ci _ hc
    obtain ⟨cf, kf, fi, f, hi, hsl⟩ := hSl k hk
    have hlay := hts _ (hin _ (u_in_lay hk))
    unfold u_lay at hlay
    rw [if_pos hf] at hlay
    have hst := (u_facts hfc hkC (u_lays hts hin hk) hi).1
    have hcf : m.cls = cf := by
      obtain ⟨_, _, c', _, _, _, -, -, hf', -, -, -, hown2, -⟩ := Cond.laysFinal_spec hlay
      have e1 : c' = cf := by have := hi.symm.trans hf'; simp at this; exact this.1.symm
      rw [hdecl] at hown2
      rw [← e1]; exact Option.some.inj (hown.symm.trans hown2)
    have h6 := u_fits hfc hkC hkind (Or.inr hlay) hi (hty k hk) h3 h4
    refine W.putFinK C.1 C.2.1 hown (hts _ hl) hi hst hcf (C.2.2.2.2.2.2.2.2.1.trans hin2) (by rw [q2]; exact h6) q1 q3 (by rw [hsl]; exact k2_hasslot (q4 k hk)) rfl rfl hd fun H' e1 e2 e3 => ?_
    rw [hsl] at e1 ⊢
    exact kk H' _ (g_Rep_up hR h1 (g_put_cell hc hk h2 hap q2 q3 q4 e1) e2 e3) (hS.put e2 e3 (hG.2.2 a (by rw [h1]; exact fun z => by cases z)))
  next => exact hT.elim
/-! arrays -/
def g_al (h : g_H) (a : Nat) (i : Int32) (P : Int32 → Prop) : Prop := ∃ xs : List Int32, h.1 a = some (.inl (.inl xs)) ∧ vp_in i xs.length ∧ P (xs.getD i.toNatClampNeg 0)
theorem g_al_i {h : g_H} {a : Nat} {i : Int32} {P : Int32 → Prop} {xs : List Int32} (h1 : h.1 a = some (.inl (.inl xs))) (h2 : vp_in i xs.length) (h3 : P (xs.getD i.toNatClampNeg 0)) : g_al h a i P := ⟨xs, h1, h2, h3⟩
def tr_ial (nx : Nat) : g_T := fun _ L st h K _ => match st with
  | .int i :: .ref a :: st' => g_al h a i (fun x => K nx L (.int x :: st') h)
  | _ => False
theorem so_iaload {J : g_J} {pc nx : Nat} (hd : decode J.2.1 pc = .ok (.iaload, 1)) (hn : pc + 1 = nx) : g_S J pc (tr_ial nx) := by
  subst hn
  intro l L st h K Post hK hT
  unfold tr_ial at hT
  split at hT
  next i a st' =>
    obtain ⟨xs, h1, h2, h3⟩ := hT
    have hlt : i.toNatClampNeg < xs.length := Nat.not_le.mp fun q => h2 (Or.inr q)
    refine g_step (fun D p e s m args below meth c H locs R cells slots Q ls C hR hl hE0 hM kk => ?_) (hK _ _ _ _ h3)
    exact W.iald (v := .int (xs.getD i.toNatClampNeg 0)) C.1 C.2.1 (hR.2 a _ h1) ((C.2.2.2.2.2.1.2 0 _ rfl).1 xs.length (fun j => .int (xs.getD j 0))) (fun q => by cases q) (by show ¬ (i < 0 ∨ (arrV _ _ _).slots.size ≤ _); rw [arrV_size]; exact h2) (by show (arrV _ _ _).slots[_]? = _; rw [arrV_read _ _ hlt]) rfl rfl hd (kk ls hl)
  next => exact hT.elim
theorem g_arr_set (cA : ClassId) (xs : List Int32) (k : Nat) (x : Int32) (hk : k < xs.length) : (arrV cA xs.length (fun j => .int (xs.getD j 0))).setSlot k (.int x) = arrV cA (xs.set k x).length (fun j => .int ((xs.set k x).getD j 0)) := by
  rw [arrV_store, List.length_set]
  congr 1
  funext j
  by_cases hj : j = k
  · subst hj
    simp [updV, hk]
  · simp [updV, hj, List.getElem?_set, Ne.symm hj]
def g_as (h : g_H) (a : Nat) (i x : Int32) (P : g_H → Prop) : Prop := ∃ xs : List Int32, h.1 a = some (.inl (.inl xs)) ∧ vp_in i xs.length ∧ P (g_up h a (.inl (.inl (xs.set i.toNatClampNeg x))))
theorem g_as_i {h : g_H} {a : Nat} {i x : Int32} {P : g_H → Prop} {xs : List Int32} (h1 : h.1 a = some (.inl (.inl xs))) (h2 : vp_in i xs.length) (h3 : P (g_up h a (.inl (.inl (xs.set i.toNatClampNeg x))))) : g_as h a i x P := ⟨xs, h1, h2, h3⟩
def tr_ias (nx : Nat) : g_T := fun _ L st h K _ => match st with
  | .int x :: .int i :: .ref a :: st' => g_as h a i x (fun h1 => K nx L st' h1)
  | _ => False
theorem so_iastore {J : g_J} {pc nx : Nat} (hd : decode J.2.1 pc = .ok (.iastore, 1)) (hn : pc + 1 = nx) : g_S J pc (tr_ias nx) := by
  subst hn
  intro l L st h K Post hK hT
  unfold tr_ias at hT
  split at hT
  next x i a st' =>
    obtain ⟨xs, h1, h2, h3⟩ := hT
    have hlt : i.toNatClampNeg < xs.length := Nat.not_le.mp fun q => h2 (Or.inr q)
    refine g_stepU (g_Gr_up h1) rfl (fun D p e s m args below meth c H locs R cells slots Q ls h0 C hG hR hS kk => ?_) (hK _ _ _ _ h3)
    refine W.iast C.1 C.2.1 (hR.2 a _ h1) ((C.2.2.2.2.2.1.2 0 _ rfl).1 xs.length (fun j => .int (xs.getD j 0))) (fun q => by cases q) (by show ¬ (i < 0 ∨ (arrV _ _ _).slots.size ≤ _); rw [arrV_size]; exact h2) rfl rfl hd fun H' e1 e2 e3 => ?_
    refine kk H' _ (g_Rep_up hR h1 ?_ e2 e3) (hS.put e2 e3 (hG.2.2 a (by rw [h1]; exact fun z => by cases z)))
    show H'[a]? = some (arrV _ _ _)
    rw [e1, g_arr_set _ _ _ _ hlt]
  next => exact hT.elim
theorem g_arr_setL (cA : ClassId) (xs : List Int64) (k : Nat) (x : Int64) (hk : k < xs.length) : (arrV cA xs.length (fun j => .long (xs.getD j 0))).setSlot k (.long x) = arrV cA (xs.set k x).length (fun j => .long ((xs.set k x).getD j 0)) := by
  rw [arrV_store, List.length_set]
  congr 1
  funext j
  by_cases hj : j = k
  · subst hj
    simp [updV, hk]
  · simp [updV, hj, List.getElem?_set, Ne.symm hj]
def g_asL (h : g_H) (a : Nat) (i : Int32) (x : Int64) (P : g_H → Prop) : Prop := ∃ xs : List Int64, h.1 a = some (.inl (.inr (.inl xs))) ∧ vp_in i xs.length ∧ P (g_up h a (.inl (.inr (.inl (xs.set i.toNatClampNeg x)))))
theorem g_asL_i {h : g_H} {a : Nat} {i : Int32} {x : Int64} {P : g_H → Prop} {xs : List Int64} (h1 : h.1 a = some (.inl (.inr (.inl xs)))) (h2 : vp_in i xs.length) (h3 : P (g_up h a (.inl (.inr (.inl (xs.set i.toNatClampNeg x)))))) : g_asL h a i x P := ⟨xs, h1, h2, h3⟩
def tr_las (nx : Nat) : g_T := fun _ L st h K _ => match st with
  | .long x :: .int i :: .ref a :: st' => g_asL h a i x (fun h1 => K nx L st' h1)
  | _ => False
theorem so_lastore {J : g_J} {pc nx : Nat} (hd : decode J.2.1 pc = .ok (.lastore, 1)) (hn : pc + 1 = nx) : g_S J pc (tr_las nx) := by
  subst hn
  intro l L st h K Post hK hT
  unfold tr_las at hT
  split at hT
  next x i a st' =>
    obtain ⟨xs, h1, h2, h3⟩ := hT
    have hlt : i.toNatClampNeg < xs.length := Nat.not_le.mp fun q => h2 (Or.inr q)
    refine g_stepU (g_Gr_up h1) rfl (fun D p e s m args below meth c H locs R cells slots Q ls h0 C hG hR hS kk => ?_) (hK _ _ _ _ h3)
    refine W.last C.1 C.2.1 (hR.2 a _ h1) ((C.2.2.2.2.2.1.2 1 _ rfl).1 xs.length (fun j => .long (xs.getD j 0))) (fun q => by cases q) (by show ¬ (i < 0 ∨ (arrV _ _ _).slots.size ≤ _); rw [arrV_size]; exact h2) rfl rfl hd fun H' e1 e2 e3 => ?_
    refine kk H' _ (g_Rep_up hR h1 ?_ e2 e3) (hS.put e2 e3 (hG.2.2 a (by rw [h1]; exact fun z => by cases z)))
    show H'[a]? = some (arrV _ _ _)
    rw [e1, g_arr_setL _ _ _ _ hlt]
  next => exact hT.elim
def g_alL (h : g_H) (a : Nat) (i : Int32) (P : Int64 → Prop) : Prop := ∃ xs : List Int64, h.1 a = some (.inl (.inr (.inl xs))) ∧ vp_in i xs.length ∧ P (xs.getD i.toNatClampNeg 0)
theorem g_alL_i {h : g_H} {a : Nat} {i : Int32} {P : Int64 → Prop} {xs : List Int64} (h1 : h.1 a = some (.inl (.inr (.inl xs)))) (h2 : vp_in i xs.length) (h3 : P (xs.getD i.toNatClampNeg 0)) : g_alL h a i P := ⟨xs, h1, h2, h3⟩
def tr_lal (nx : Nat) : g_T := fun _ L st h K _ => match st with
  | .int i :: .ref a :: st' => g_alL h a i (fun x => K nx L (.long x :: st') h)
  | _ => False
theorem so_laload {J : g_J} {pc nx : Nat} (hd : decode J.2.1 pc = .ok (.laload, 1)) (hn : pc + 1 = nx) : g_S J pc (tr_lal nx) := by
  subst hn
  intro l L st h K Post hK hT
  unfold tr_lal at hT
  split at hT
  next i a st' =>
    obtain ⟨xs, h1, h2, h3⟩ := hT
    have hlt : i.toNatClampNeg < xs.length := Nat.not_le.mp fun q => h2 (Or.inr q)
    refine g_step (fun D p e s m args below meth c H locs R cells slots Q ls C hR hl hE0 hM kk => ?_) (hK _ _ _ _ h3)
    exact W.lald (v := .long (xs.getD i.toNatClampNeg 0)) C.1 C.2.1 (hR.2 a _ h1) ((C.2.2.2.2.2.1.2 1 _ rfl).1 xs.length (fun j => .long (xs.getD j 0))) (fun q => by cases q) (by show ¬ (i < 0 ∨ (arrV _ _ _).slots.size ≤ _); rw [arrV_size]; exact h2) (by show (arrV _ _ _).slots[_]? = _; rw [arrV_read _ _ hlt]) rfl rfl hd (kk ls hl)
  next => exact hT.elim
def tr_len (nx : Nat) : g_T := fun _ L st h K _ => match st with
  | .ref a :: st' => ∃ xs : List Int32, h.1 a = some (.inl (.inl xs)) ∧ K nx L (.int (Int32.ofNat xs.length) :: st') h
  | _ => False
theorem so_len {J : g_J} {pc nx : Nat} (hd : decode J.2.1 pc = .ok (.arraylength, 1)) (hn : pc + 1 = nx) : g_S J pc (tr_len nx) := by
  subst hn
  intro l L st h K Post hK hT
  unfold tr_len at hT
  split at hT
  next a st' =>
    obtain ⟨xs, h1, h3⟩ := hT
    refine g_step (fun D p e s m args below meth c H locs R cells slots Q ls C hR hl hE0 hM kk => ?_) (hK _ _ _ _ h3)
    exact W.alen (n := Int32.ofNat xs.length) C.1 C.2.1 (hR.2 a _ h1) ((C.2.2.2.2.2.1.2 0 _ rfl).1 xs.length (fun j => .int (xs.getD j 0))) (by rw [arrV_size] <;> rfl) rfl rfl hd (kk ls hl)
  next => exact hT.elim
/-! byte arrays -/
def g_alB (h : g_H) (a : Nat) (i : Int32) (P : Int32 → Prop) : Prop := ∃ xs : List Int32, h.1 a = some (.inl (.inr (.inr xs))) ∧ vp_in i xs.length ∧ P (xs.getD i.toNatClampNeg 0)
theorem g_alB_i {h : g_H} {a : Nat} {i : Int32} {P : Int32 → Prop} {xs : List Int32} (h1 : h.1 a = some (.inl (.inr (.inr xs)))) (h2 : vp_in i xs.length) (h3 : P (xs.getD i.toNatClampNeg 0)) : g_alB h a i P := ⟨xs, h1, h2, h3⟩
def tr_bal (nx : Nat) : g_T := fun _ L st h K _ => match st with
  | .int i :: .ref a :: st' => g_alB h a i (fun x => K nx L (.int x :: st') h)
  | _ => False
theorem so_baload {J : g_J} {pc nx : Nat} (hd : decode J.2.1 pc = .ok (.baload, 1)) (hn : pc + 1 = nx) : g_S J pc (tr_bal nx) := by
  subst hn
  intro l L st h K Post hK hT
  unfold tr_bal at hT
  split at hT
  next i a st' =>
    obtain ⟨xs, h1, h2, h3⟩ := hT
    have hlt : i.toNatClampNeg < xs.length := Nat.not_le.mp fun q => h2 (Or.inr q)
    refine g_step (fun D p e s m args below meth c H locs R cells slots Q ls C hR hl hE0 hM kk => ?_) (hK _ _ _ _ h3)
    exact W.bald (v := .int (xs.getD i.toNatClampNeg 0)) C.1 C.2.1 (hR.2 a _ h1) ((C.2.2.2.2.2.1.2 2 _ rfl).1 xs.length (fun j => .int (xs.getD j 0))) (fun q => by cases q) (by show ¬ (i < 0 ∨ (arrV _ _ _).slots.size ≤ _); rw [arrV_size]; exact h2) (by show (arrV _ _ _).slots[_]? = _; rw [arrV_read _ _ hlt]) rfl rfl hd (kk ls hl)
  next => exact hT.elim
def g_asB (h : g_H) (a : Nat) (i x : Int32) (P : g_H → Prop) : Prop := ∃ xs : List Int32, h.1 a = some (.inl (.inr (.inr xs))) ∧ vp_in i xs.length ∧ narrow .byte (.int x) = .int x ∧ P (g_up h a (.inl (.inr (.inr (xs.set i.toNatClampNeg x)))))
theorem g_asB_i {h : g_H} {a : Nat} {i x : Int32} {P : g_H → Prop} {xs : List Int32} (h1 : h.1 a = some (.inl (.inr (.inr xs)))) (h2 : vp_in i xs.length) (h4 : narrow .byte (.int x) = .int x) (h3 : P (g_up h a (.inl (.inr (.inr (xs.set i.toNatClampNeg x)))))) : g_asB h a i x P := ⟨xs, h1, h2, h4, h3⟩
def tr_bas (nx : Nat) : g_T := fun _ L st h K _ => match st with
  | .int x :: .int i :: .ref a :: st' => g_asB h a i x (fun h1 => K nx L st' h1)
  | _ => False
theorem so_bastore {J : g_J} {pc nx : Nat} (hd : decode J.2.1 pc = .ok (.bastore, 1)) (hn : pc + 1 = nx) : g_S J pc (tr_bas nx) := by
  subst hn
  intro l L st h K Post hK hT
  unfold tr_bas at hT
  split at hT
  next x i a st' =>
    obtain ⟨xs, h1, h2, h4, h3⟩ := hT
    have hlt : i.toNatClampNeg < xs.length := Nat.not_le.mp fun q => h2 (Or.inr q)
    refine g_stepU (g_Gr_up h1) rfl (fun D p e s m args below meth c H locs R cells slots Q ls h0 C hG hR hS kk => ?_) (hK _ _ _ _ h3)
    refine W.bast C.1 C.2.1 (hR.2 a _ h1) ((C.2.2.2.2.2.1.2 2 _ rfl).1 xs.length (fun j => .int (xs.getD j 0))) (fun q => by cases q) (by show ¬ (i < 0 ∨ (arrV _ _ _).slots.size ≤ _); rw [arrV_size]; exact h2) rfl rfl hd fun H' e1 e2 e3 => ?_
    refine kk H' _ (g_Rep_up hR h1 ?_ e2 e3) (hS.put e2 e3 (hG.2.2 a (by rw [h1]; exact fun z => by cases z)))
    show H'[a]? = some (arrV _ _ _)
    rw [e1, h4, g_arr_set _ _ _ _ hlt]
  next => exact hT.elim
/-! new cells -/
def tr_new (ci N : Nat) (fs : List Value) (nx : Nat) : g_T := fun _ L st h K _ => K nx L (.ref h.2.1 :: st) (g_nw h (.inr (ci, fs)) N)
theorem so_new {J : g_J} {pc nx ci idx N : Nat} {Cn : String} {T : u_T} {fs : List Value} (ty0 : Nat → FieldType) (hd : decode J.2.1 pc = .ok (.new idx, 3)) (hc : vwCl[ci]? = some (Cn, T, N)) (hin : ∀ w ∈ u_ws Cn T N, w ∈ g_W) (hl : Cond.classLink J.1.cls idx Cn ∈ g_W) (hi : Cond.instantiable Cn N ∈ g_W) (hini : Cond.initialized Cn ∈ g_W) (hty : ∀ k, k < N → parseFieldDescriptor (T k).2.2.1 = some (ty0 k)) (hfs : ∀ j, j < N → defaultValue (ty0 j) = vp_V fs j) (hn : pc + 3 = nx) : g_S J pc (tr_new ci N fs nx) := by
  subst hn
  intro l L st h K Post hK hT
  unfold tr_new at hT
  have z1 : (g_nw h (.inr (ci, fs)) N).2.1 - h.2.1 = 1 := Nat.add_sub_cancel_left ..
  have z2 : (g_nw h (.inr (ci, fs)) N).2.2 - h.2.2 = N := Nat.add_sub_cancel_left ..
  refine g_stepH g_Gr_nw (fun D p e s m args below meth c H locs R cells slots Q ls h0 C hG hR hS hZ hM hc1 hc2 kk => ?_) (hK _ _ _ _ hT)
  rw [z1] at hc1 kk
  rw [z2] at hc2 kk
  have hts := C.2.2.2.2.1
  have hKn := C.2.2.2.2.2.1.1 ci _ hc
  refine W.newcK C.1 C.2.1 C.2.2.2.1 (hts _ hl) (hts _ hi) (hts _ hini) rfl hd hc1 hc2 hKn.2.1 hR.1 fun H1 kC hkC e1 e2 e3 => ?_
  have hlt : s.heap.size ≤ h.2.1 := by rw [← hR.1]; exact hS.1
  refine kk H1 locs (g_Rep_nw hR ⟨_, hc, (u_born ty0 hts hin hKn hkC e1 hty).to hfs⟩ e2 e3) ⟨Nat.le_trans hlt (by omega), fun q h1 h2 => (e3 q (Nat.lt_of_lt_of_le h1 hlt)).trans (hS.2.1 q h1 h2), hS.2.2⟩
def tr_nai (nx : Nat) : g_T := fun _ L st h K _ => match st with
  | .int n :: st' => ¬ n < 0 ∧ n.toNatClampNeg * 4 ≤ 536870912 ∧ K nx L (.ref h.2.1 :: st') (g_nw h (.inl (.inl (List.replicate n.toNatClampNeg 0))) n.toNatClampNeg)
  | _ => False
theorem so_newai {J : g_J} {pc nx : Nat} (hd : decode J.2.1 pc = .ok (.newarray .int, 2)) (hw : Cond.arrayClass .int ∈ g_W) (hn : pc + 2 = nx) : g_S J pc (tr_nai nx) := by
  subst hn
  intro l L st h K Post hK hT
  unfold tr_nai at hT
  split at hT
  next n st' =>
    obtain ⟨h1, h2, h3⟩ := hT
    have z1 : (g_nw h (.inl (.inl (List.replicate n.toNatClampNeg 0))) n.toNatClampNeg).2.1 - h.2.1 = 1 := Nat.add_sub_cancel_left ..
    have z2 : (g_nw h (.inl (.inl (List.replicate n.toNatClampNeg 0))) n.toNatClampNeg).2.2 - h.2.2 = n.toNatClampNeg := Nat.add_sub_cancel_left ..
    refine g_stepH g_Gr_nw (fun D p e s m args below meth c H locs R cells slots Q ls h0 C hG hR hS hZ hM hc1 hc2 kk => ?_) (hK _ _ _ _ h3)
    rw [z1] at hc1 kk
    rw [z2] at hc2 kk
    refine va_newaK (atype := .int) C.1 C.2.1 (C.2.2.2.2.1 _ hw) rfl hd rfl h1 rfl h2 hc1 hc2 hR.1 fun H1 cA e1 e2 e3 hAr hNm => ?_
    have hlt : s.heap.size ≤ h.2.1 := by rw [← hR.1]; exact hS.1
    have hcA : cA = D.2.1 := Option.some.inj (hNm.symm.trans (C.2.2.2.2.2.1.2 0 _ rfl).2)
    subst hcA
    refine kk H1 locs (g_Rep_nw hR ?_ e2 e3) ⟨Nat.le_trans hlt (by omega), fun q h1 h2 => (e3 q (Nat.lt_of_lt_of_le h1 hlt)).trans (hS.2.1 q h1 h2), hS.2.2⟩
    show H1[h.2.1]? = some (arrV _ _ _)
    rw [e1, List.length_replicate]
    congr 2
    funext j
    by_cases hj : j < n.toNatClampNeg
    · simp [List.getElem?_replicate, hj] <;> rfl
    · simp [List.getElem?_replicate, hj] <;> rfl
  next => exact hT.elim
def tr_nal (nx : Nat) : g_T := fun _ L st h K _ => match st with
  | .int n :: st' => ¬ n < 0 ∧ n.toNatClampNeg * 8 ≤ 536870912 ∧ K nx L (.ref h.2.1 :: st') (g_nw h (.inl (.inr (.inl (List.replicate n.toNatClampNeg 0)))) n.toNatClampNeg)
  | _ => False
theorem so_newal {J : g_J} {pc nx : Nat} (hd : decode J.2.1 pc = .ok (.newarray .long, 2)) (hw : Cond.arrayClass .long ∈ g_W) (hn : pc + 2 = nx) : g_S J pc (tr_nal nx) := by
  subst hn
  intro l L st h K Post hK hT
  unfold tr_nal at hT
  split at hT
  next n st' =>
    obtain ⟨h1, h2, h3⟩ := hT
    have z1 : (g_nw h (.inl (.inr (.inl (List.replicate n.toNatClampNeg 0)))) n.toNatClampNeg).2.1 - h.2.1 = 1 := Nat.add_sub_cancel_left ..
    have z2 : (g_nw h (.inl (.inr (.inl (List.replicate n.toNatClampNeg 0)))) n.toNatClampNeg).2.2 - h.2.2 = n.toNatClampNeg := Nat.add_sub_cancel_left ..
    refine g_stepH g_Gr_nw (fun D p e s m args below meth c H locs R cells slots Q ls h0 C hG hR hS hZ hM hc1 hc2 kk => ?_) (hK _ _ _ _ h3)
    rw [z1] at hc1 kk
    rw [z2] at hc2 kk
    refine va_newaK (atype := .long) C.1 C.2.1 (C.2.2.2.2.1 _ hw) rfl hd rfl h1 rfl h2 hc1 hc2 hR.1 fun H1 cA e1 e2 e3 hAr hNm => ?_
    have hlt : s.heap.size ≤ h.2.1 := by rw [← hR.1]; exact hS.1
    have hcA : cA = D.2.2.1 := Option.some.inj (hNm.symm.trans (C.2.2.2.2.2.1.2 1 _ rfl).2)
    subst hcA
    refine kk H1 locs (g_Rep_nw hR ?_ e2 e3) ⟨Nat.le_trans hlt (by omega), fun q h1 h2 => (e3 q (Nat.lt_of_lt_of_le h1 hlt)).trans (hS.2.1 q h1 h2), hS.2.2⟩
    show H1[h.2.1]? = some (arrV _ _ _)
    rw [e1, List.length_replicate]
    congr 2
    funext j
    by_cases hj : j < n.toNatClampNeg
    · simp [List.getElem?_replicate, hj] <;> rfl
    · simp [List.getElem?_replicate, hj] <;> rfl
  next => exact hT.elim
def tr_nab (nx : Nat) : g_T := fun _ L st h K _ => match st with
  | .int n :: st' => ¬ n < 0 ∧ n.toNatClampNeg * 1 ≤ 536870912 ∧ K nx L (.ref h.2.1 :: st') (g_nw h (.inl (.inr (.inr (List.replicate n.toNatClampNeg 0)))) n.toNatClampNeg)
  | _ => False
theorem so_newab {J : g_J} {pc nx : Nat} (hd : decode J.2.1 pc = .ok (.newarray .byte, 2)) (hw : Cond.arrayClass .byte ∈ g_W) (hn : pc + 2 = nx) : g_S J pc (tr_nab nx) := by
  subst hn
  intro l L st h K Post hK hT
  unfold tr_nab at hT
  split at hT
  next n st' =>
    obtain ⟨h1, h2, h3⟩ := hT
    have z1 : (g_nw h (.inl (.inr (.inr (List.replicate n.toNatClampNeg 0)))) n.toNatClampNeg).2.1 - h.2.1 = 1 := Nat.add_sub_cancel_left ..
    have z2 : (g_nw h (.inl (.inr (.inr (List.replicate n.toNatClampNeg 0)))) n.toNatClampNeg).2.2 - h.2.2 = n.toNatClampNeg := Nat.add_sub_cancel_left ..
    refine g_stepH g_Gr_nw (fun D p e s m args below meth c H locs R cells slots Q ls h0 C hG hR hS hZ hM hc1 hc2 kk => ?_) (hK _ _ _ _ h3)
    rw [z1] at hc1 kk
    rw [z2] at hc2 kk
    refine va_newaK (atype := .byte) C.1 C.2.1 (C.2.2.2.2.1 _ hw) rfl hd rfl h1 rfl h2 hc1 hc2 hR.1 fun H1 cA e1 e2 e3 hAr hNm => ?_
    have hlt : s.heap.size ≤ h.2.1 := by rw [← hR.1]; exact hS.1
    have hcA : cA = D.2.2.2 := Option.some.inj (hNm.symm.trans (C.2.2.2.2.2.1.2 2 _ rfl).2)
    subst hcA
    refine kk H1 locs (g_Rep_nw hR ?_ e2 e3) ⟨Nat.le_trans hlt (by omega), fun q h1 h2 => (e3 q (Nat.lt_of_lt_of_le h1 hlt)).trans (hS.2.1 q h1 h2), hS.2.2⟩
    show H1[h.2.1]? = some (arrV _ _ _)
    rw [e1, List.length_replicate]
    congr 2
    funext j
    by_cases hj : j < n.toNatClampNeg
    · simp [List.getElem?_replicate, hj] <;> rfl
    · simp [List.getElem?_replicate, hj] <;> rfl
  next => exact hT.elim
/-! ends -/
theorem g_end {l : Launch} {J : g_J} {pc : Nat} {L : g_L} {st : List Value} {h : g_H} {Post : g_P} {v : Option Value} (hp : Post (.inl v) h)
    (hw : ∀ (D : g_D) (p : Program) (e : Env) (s : State) (m : MethodId) (args : Array Value) (below : List Frame) (meth : Method) (c : Code) (H : Heap) (locs : List Loc) (R : Room) (cells slots : Nat) (ls : Array Slot) (Qc : Array Value → State → Outcome → State → Prop) (free : Addr → Prop), g_CX J D p s m args meth c →
      (∀ t : State, t.heap = H → s.WarmedH t.vm → Qc args s (.returned v) t) → (∀ q ∈ locs, free q.base) → W p l e R s m args below meth c H locs cells slots (MQ below Qc args s cells slots free) (F0 m pc ls st)) : g_X l J pc L st h Post := by
  refine ⟨.inl v, h, hp, g_Gr_rf h, fun D p e s m args below meth c H locs h0 ls C hR0 hG hR hS hl => ?_⟩
  refine g_W_mono (fun t ht => ?_) (hw D p e s m args below meth c H locs _ _ _ ls (fun _ s oc t => oc = .returned v ∧ g_Rep D h t.heap ∧ va_F (g_A h0) s t) (g_A h0) C (fun t ht hW => ⟨rfl, by rw [ht]; exact hR, hS.F ht⟩) hS.2.2)
  obtain ⟨oc, a1, a2, ⟨b1, b2, b3⟩, L', ⟨-, c1, c2⟩, d⟩ := ht
  exact ⟨oc, a1, a2, b1, b2, b3, L', ⟨c1, c2⟩, d⟩
def tr_ri : g_T := fun _ _ st h _ Post => match st with
  | [.int v] => Post (.inl (some (.int v))) h
  | _ => False
theorem so_iret {J : g_J} {pc : Nat} (hd : decode J.2.1 pc = .ok (.ireturn, 1)) (hr : J.2.2.2.1 = some .int) : g_S J pc tr_ri := by
  intro l L st h K Post hK hT
  unfold tr_ri at hT
  split at hT
  next v => exact g_end hT (fun D p e s m args below meth c H locs R cells slots ls Qc free C hq hf => W.iret C.1 C.2.1 (C.2.2.2.2.2.2.1.trans hr) hq hf hd C.2.2.2.2.2.2.2.1)
  next => exact hT.elim
def tr_rz : g_T := fun _ _ st h _ Post => match st with
  | [.int v] => narrow .boolean (.int v) = .int v ∧ Post (.inl (some (.int v))) h
  | _ => False
theorem so_zret {J : g_J} {pc : Nat} (hd : decode J.2.1 pc = .ok (.ireturn, 1)) (hr : J.2.2.2.1 = some .boolean) : g_S J pc tr_rz := by
  intro l L st h K Post hK hT
  unfold tr_rz at hT
  split at hT
  next v => exact g_end hT.2 (fun D p e s m args below meth c H locs R cells slots ls Qc free C hq hf => W.zret C.1 C.2.1 (C.2.2.2.2.2.2.1.trans hr) hT.1 hq hf hd C.2.2.2.2.2.2.2.1)
  next => exact hT.elim
def tr_rl : g_T := fun _ _ st h _ Post => match st with
  | [.long v] => Post (.inl (some (.long v))) h
  | _ => False
theorem so_lret {J : g_J} {pc : Nat} (hd : decode J.2.1 pc = .ok (.lreturn, 1)) (hr : J.2.2.2.1 = some .long) : g_S J pc tr_rl := by
  intro l L st h K Post hK hT
  unfold tr_rl at hT
  split at hT
  next v => exact g_end hT (fun D p e s m args below meth c H locs R cells slots ls Qc free C hq hf => W.lret C.1 C.2.1 (C.2.2.2.2.2.2.1.trans hr) hq hf hd C.2.2.2.2.2.2.2.1)
  next => exact hT.elim
def tr_ra : g_T := fun _ _ st h _ Post => match st with
  | [.ref v] => Post (.inl (some (.ref v))) h
  | _ => False
theorem so_aret {J : g_J} {pc : Nat} {Cn : String} (hd : decode J.2.1 pc = .ok (.areturn, 1)) (hr : J.2.2.2.1 = some (.object Cn)) : g_S J pc tr_ra := by
  intro l L st h K Post hK hT
  unfold tr_ra at hT
  split at hT
  next v => exact g_end hT (fun D p e s m args below meth c H locs R cells slots ls Qc free C hq hf => W.aret C.1 C.2.1 (C.2.2.2.2.2.2.1.trans hr) (Or.inl ⟨_, rfl⟩) (Or.inr ⟨_, rfl⟩) hq hf hd C.2.2.2.2.2.2.2.1)
  next => exact hT.elim
def tr_rv : g_T := fun _ _ st h _ Post => match st with
  | [] => Post (.inl none) h
  | _ => False
theorem so_vret {J : g_J} {pc : Nat} (hd : decode J.2.1 pc = .ok (.return_, 1)) (hr : J.2.2.2.1 = none) : g_S J pc tr_rv := by
  intro l L st h K Post hK hT
  unfold tr_rv at hT
  split at hT
  next => exact g_end hT (fun D p e s m args below meth c H locs R cells slots ls Qc free C hq hf => W.vret C.1 C.2.1 (C.2.2.2.2.2.2.1.trans hr) hq hf hd C.2.2.2.2.2.2.2.1)
  next => exact hT.elim
end
section
/-! THE G ROWS, fifth part: calls -/

def g_ok (J J' : g_J) (n : Nat) : Prop := Cond.code J'.1 J'.2.1 J'.2.2.1 J'.2.2.2.1 ∈ g_W ∧ J'.2.2.2.2.1.1 + 1 ≤ J.2.2.2.2.1.1 ∧ 8 + (J'.2.2.1 + 11) + J'.2.2.2.2.1.2 ≤ J.2.2.2.2.1.2 ∧ Cond.initialized J'.1.cls ∈ g_W ∧ (J'.1.cls ≠ "java/lang/invoke/MethodHandle" ∧ J'.1.cls ≠ "java/lang/invoke/VarHandle") ∧ (parseMethodDescriptor J'.1.desc).map (fun d => d.parameters.length) = some n
theorem g_okB {J J' : g_J} {n mc ms idx : Nat} {R : Room} {D : g_D} {p : Program} {s : State} {m : MethodId} {args : Array Value} {meth : Method} {c : Code} (hok : g_ok J J' n) (hgd : ∀ w ∈ g_W, g_Gd w) (C : g_CX J D p s m args meth c) (hM : R.frames = J.2.2.2.2.1.1 ∧ R.locals = J.2.2.2.2.1.2) (hl : Cond.methodLink J.1.cls idx J'.1 ∈ g_W) :
    CallB R s args J.1.cls idx J'.1 J'.2.1 J'.2.2.1 J'.2.2.2.1 g_W (g_Rm J' mc ms) mc ms n := by
  obtain ⟨h1, h2, h3, h4, h5, h6⟩ := hok
  have hts := C.2.2.2.2.1
  refine ⟨rfl, rfl, ?_, ?_, fun w hw a' U hW => hgd w hw args a' s U hW (hts w hw), h1, hts _ h1, hts _ h4, h5, fun sig hs => ?_, hts _ hl⟩
  · show J'.2.2.2.2.1.1 + 1 ≤ R.frames
    rw [hM.1]
    exact h2
  · show 8 + (J'.2.2.1 + 11) + J'.2.2.2.2.1.2 ≤ R.locals
    rw [hM.2]
    exact h3
  · rw [hs] at h6
    exact (Option.some.inj h6).symm
theorem g_okN {J J' : g_J} {n mc ms idx : Nat} {host : String} {R : Room} {D : g_D} {p : Program} {s : State} {m : MethodId} {args : Array Value} {meth : Method} {c : Code} (hok : g_ok J J' n) (hgd : ∀ w ∈ g_W, g_Gd w) (C : g_CX J D p s m args meth c) (hM : R.frames = J.2.2.2.2.1.1 ∧ R.locals = J.2.2.2.2.1.2) (hl : Cond.methodLinkNest J.1.cls idx J'.1 host ∈ g_W) :
    va_CN R s args J.1.cls idx J'.1 host J'.2.1 J'.2.2.1 J'.2.2.2.1 g_W (g_Rm J' mc ms) mc ms n := by
  obtain ⟨h1, h2, h3, h4, h5, h6⟩ := hok
  have hts := C.2.2.2.2.1
  refine ⟨⟨rfl, rfl, ?_, ?_, fun w hw a' U hW => hgd w hw args a' s U hW (hts w hw), h1⟩, hts _ h1, hts _ h4, h5, fun sig hs => ?_, hts _ hl⟩
  · show J'.2.2.2.2.1.1 + 1 ≤ R.frames
    rw [hM.1]
    exact h2
  · show 8 + (J'.2.2.1 + 11) + J'.2.2.2.2.1.2 ≤ R.locals
    rw [hM.2]
    exact h3
  · rw [hs] at h6
    exact (Option.some.inj h6).symm
theorem g_call {l : Launch} {J J' : g_J} {pc : Nat} {L : g_L} {st rest : List Value} {h : g_H} {Post : g_P} {av : List Value}
    (hw : ∀ (D : g_D) (p : Program) (e : Env) (s : State) (m : MethodId) (args : Array Value) (below : List Frame) (meth : Method) (c : Code) (H : Heap) (locs : List Loc) (R : Room) (cells slots : Nat) (ls : Array Slot) (v : Option Value) (hE : g_H), g_CX J D p s m args meth c → g_Rep D h H → (∀ U : State, U.heap = H → s.WarmedH U.vm → g_Z h U) → (R.frames = J.2.2.2.2.1.1 ∧ R.locals = J.2.2.2.2.1.2 ∧ ls.size = J.2.2.1) → cells + (hE.2.1 - h.2.1) ≤ R.cells → slots + (hE.2.2 - h.2.2) ≤ R.slots → g_Met l J' av h (.inl v) hE →
      va_Run p l e R s m args below meth c H locs cells slots (hE.2.1 - h.2.1) (hE.2.2 - h.2.2) (F0 m pc ls st) rest (fun s oc t => oc = .returned v ∧ g_Rep D hE t.heap ∧ va_F (g_A h) s t) (g_A h))
    (hr : g_Run l J' av h (fun o hE => ∃ v, o = .inl v ∧ g_X l J (pc + 3) L (v.toList ++ rest) hE Post)) : g_X l J pc L st h Post := by
  obtain ⟨o, hE, hM, v, rfl, k⟩ := hr
  refine g_stepH hM.1 (fun D p e s m args below meth c H locs R cells slots Q ls h0 C hG hR hS hZ hm hc1 hc2 kk => ?_) k
  intro T hT X
  obtain ⟨v', st₀, t, T', L', e0, X', hL, e1, e2, ⟨hv, hRe, hz, hk⟩, stp⟩ := hw D p e s m args below meth c H locs R cells slots ls v hE C hR (fun U hU hW => g_Z_mv hZ hG hS hU hW) hm hc1 hc2 hM T hT X
  cases hv
  rw [e0] at hz hk
  obtain ⟨t2, a1, b1⟩ := kk T'.heap (locs ++ L') (by rw [e1]; exact hRe) ⟨Nat.le_trans hS.1 (by rw [e1]; exact hz), fun q h1 h2 => by rw [e1, hk q (Nat.lt_of_lt_of_le h1 hS.1) (fun z => h2 (g_A_mono hG z))]; exact hS.2.1 q h1 h2, fun q hq => by
      rcases List.mem_append.mp hq with z | z
      · exact hS.2.2 q z
      · exact g_A_mono hG (hL q z)⟩ T' rfl X'
  exact ⟨t2, stp t2 a1, b1⟩
theorem g_cats : ∀ (st : List Value), (st.map fun v => v.category).sum ≤ 2 * st.length
  | [] => Nat.le_refl _
  | v :: t => by
    have h1 := g_cats t
    have h2 := lv_cat v
    simp only [List.map_cons, List.sum_cons, List.length_cons]
    omega
theorem g_rest {m : MethodId} {pc : Nat} {ls : Array Slot} {rest st : List Value} (h : Nat.ble rest.length 4 = true) : 2 * (F0 m pc ls st).monitorRoom + (rest.map fun v => v.category).sum ≤ 8 := by
  have h1 := g_cats rest
  have h2 := Nat.le_of_ble_eq_true h
  show 2 * 0 + _ ≤ 8
  omega
theorem g_pre {s : State} {H : Heap} {D : g_D} {h : g_H} {av : List Value} (hK : g_K D s) (hR : g_Rep D h H) (hZ : ∀ U : State, U.heap = H → s.WarmedH U.vm → g_Z h U) : ∀ U : State, U.heap = H → s.WarmedH U.vm → (fun (a : Array Value) (U : State) => a = av.toArray ∧ g_Rep D h U.heap ∧ g_K D U ∧ g_Z h U) av.toArray U :=
  fun U hU hW => ⟨rfl, by rw [hU]; exact hR, va_K.moved hW.alike hK, hZ U hU hW⟩
def g_cv (l : Launch) (J' : g_J) (b ci : Nat) (h : g_H) (As : List Value) (P : Option Value → g_H → Prop) : Prop := (∃ fs : List Value, h.1 b = some (.inr (ci, fs))) ∧ g_Run l J' (.ref b :: As) h (fun o hE => ∃ v, o = .inl v ∧ P v hE)
theorem g_cv_i {l : Launch} {J' : g_J} {b ci : Nat} {h : g_H} {As : List Value} {P : Option Value → g_H → Prop} {fs : List Value} {Q : g_P} (h1 : h.1 b = some (.inr (ci, fs))) (h2 : g_Run l J' (.ref b :: As) h Q) (h3 : ∀ o hE, Q o hE → ∃ v, o = .inl v ∧ P v hE) : g_cv l J' b ci h As P := ⟨⟨fs, h1⟩, g_Run_mono h2 h3⟩
def g_cs (l : Launch) (J' : g_J) (h : g_H) (As : List Value) (P : Option Value → g_H → Prop) : Prop := g_Run l J' As h (fun o hE => ∃ v, o = .inl v ∧ P v hE)
theorem g_cs_i {l : Launch} {J' : g_J} {h : g_H} {As : List Value} {P : Option Value → g_H → Prop} {Q : g_P} (h2 : g_Run l J' As h Q) (h3 : ∀ o hE, Q o hE → ∃ v, o = .inl v ∧ P v hE) : g_cs l J' h As P := g_Run_mono h2 h3
def tr_cV (J' : g_J) (ci n nx : Nat) : g_T := fun l L st h K _ => match st.drop n with
  | .ref b :: rest => bif Nat.ble rest.length 4 then g_cv l J' b ci h (st.take n).reverse (fun v hE => K nx L (v.toList ++ rest) hE) else False
  | _ => False
theorem g_split {st rest : List Value} {n b : Nat} (h : st.drop n = .ref b :: rest) : st = (st.take n).reverse.reverse ++ .ref b :: rest ∧ (st.take n).reverse.length = n := by
  have h1 : n < st.length := by
    rcases Nat.lt_or_ge n st.length with q | q
    · exact q
    · rw [List.drop_eq_nil_of_le q] at h
      cases h
  refine ⟨by rw [List.reverse_reverse, ← h, List.take_append_drop], ?_⟩
  rw [List.length_reverse, List.length_take]
  omega
theorem so_cV {J J' : g_J} {pc nx ci n idx N : Nat} {T : u_T} (hgd : ∀ w ∈ g_W, g_Gd w) (hd : decode J.2.1 pc = .ok (.invokevirtual idx, 3)) (hok : g_ok J J' n) (hc : vwCl[ci]? = some (J'.1.cls, T, N)) (hl : Cond.methodLink J.1.cls idx J'.1 ∈ g_W) (hi : Cond.instanceMethod J'.1 ∈ g_W) (hs : Cond.selects J'.1.cls J'.1 J'.1 ∈ g_W) (hn : pc + 3 = nx) : g_S J pc (tr_cV J' ci n nx) := by
  subst hn
  intro l L st h K Post hK hT
  unfold tr_cV at hT
  split at hT
  next b rest hst =>
    cases hr : Nat.ble rest.length 4 with
    | false =>
      rw [hr] at hT
      exact hT.elim
    | true =>
      rw [hr] at hT
      obtain ⟨⟨fs, hb⟩, hT⟩ := hT
      obtain ⟨e1, e2⟩ := g_split hst
      refine g_call (rest := rest) (fun D p e s m args below meth c H locs R cells slots ls v hE C hR hZ hm hc1 hc2 hM => ?_) (g_Run_mono hT (fun o hE hq => by obtain ⟨v, hv, hk⟩ := hq; exact ⟨v, hv, hK _ _ _ _ hk⟩))
      exact va_runV (C := J'.1.cls) ⟨C.1, C.2.1, C.2.2.1, C.2.2.2.1, C.2.2.2.2.1⟩ (g_toMet hM D) ⟨g_okB hok hgd C ⟨hm.1, hm.2.1⟩ hl, C.2.2.2.2.1 _ hi, C.2.2.2.2.1 _ hs⟩ ⟨g_blind, va_recv C.2.2.2.2.2.1 (g_one hR hb) hc (q0 := 0) rfl, g_pre C.2.2.2.2.2.1 hR hZ⟩ rfl e2 hm.2.2 e1 (g_rest hr) hd ⟨hc1, hc2⟩
  next => exact hT.elim
theorem so_cVN {J J' : g_J} {pc nx ci n idx N : Nat} {T : u_T} {host : String} (hgd : ∀ w ∈ g_W, g_Gd w) (hd : decode J.2.1 pc = .ok (.invokevirtual idx, 3)) (hok : g_ok J J' n) (hc : vwCl[ci]? = some (J'.1.cls, T, N)) (hl : Cond.methodLinkNest J.1.cls idx J'.1 host ∈ g_W) (hi : Cond.instanceMethod J'.1 ∈ g_W) (hs : Cond.selects J'.1.cls J'.1 J'.1 ∈ g_W) (hn : pc + 3 = nx) : g_S J pc (tr_cV J' ci n nx) := by
  subst hn
  intro l L st h K Post hK hT
  unfold tr_cV at hT
  split at hT
  next b rest hst =>
    cases hr : Nat.ble rest.length 4 with
    | false =>
      rw [hr] at hT
      exact hT.elim
    | true =>
      rw [hr] at hT
      obtain ⟨⟨fs, hb⟩, hT⟩ := hT
      obtain ⟨e1, e2⟩ := g_split hst
      refine g_call (rest := rest) (fun D p e s m args below meth c H locs R cells slots ls v hE C hR hZ hm hc1 hc2 hM => ?_) (g_Run_mono hT (fun o hE hq => by obtain ⟨v, hv, hk⟩ := hq; exact ⟨v, hv, hK _ _ _ _ hk⟩))
      exact va_runVN (C := J'.1.cls) ⟨C.1, C.2.1, C.2.2.1, C.2.2.2.1, C.2.2.2.2.1⟩ (g_toMet hM D) ⟨g_okN hok hgd C ⟨hm.1, hm.2.1⟩ hl, C.2.2.2.2.1 _ hi, C.2.2.2.2.1 _ hs⟩ ⟨g_blind, va_recv C.2.2.2.2.2.1 (g_one hR hb) hc (q0 := 0) rfl, g_pre C.2.2.2.2.2.1 hR hZ⟩ rfl e2 hm.2.2 e1 (g_rest hr) hd ⟨hc1, hc2⟩
  next => exact hT.elim
def tr_cI (J' : g_J) (n nx : Nat) : g_T := fun l L st h K _ => match st.drop n with
  | .ref b :: rest => bif Nat.ble rest.length 4 then g_cs l J' h (.ref b :: (st.take n).reverse) (fun v hE => K nx L (v.toList ++ rest) hE) else False
  | _ => False
theorem so_cI {J J' : g_J} {pc nx n idx : Nat} (hgd : ∀ w ∈ g_W, g_Gd w) (hd : decode J.2.1 pc = .ok (.invokespecial idx, 3)) (hok : g_ok J J' n) (hret : J'.2.2.2.1 = none) (hnm : J'.1.name = "<init>") (hl : Cond.methodLink J.1.cls idx J'.1 ∈ g_W) (hi : Cond.instanceMethod J'.1 ∈ g_W) (hn : pc + 3 = nx) : g_S J pc (tr_cI J' n nx) := by
  subst hn
  intro l L st h K Post hK hT
  unfold tr_cI at hT
  split at hT
  next b rest hst =>
    cases hr : Nat.ble rest.length 4 with
    | false =>
      rw [hr] at hT
      exact hT.elim
    | true =>
      rw [hr] at hT
      obtain ⟨e1, e2⟩ := g_split hst
      refine g_call (rest := rest) (fun D p e s m args below meth c H locs R cells slots ls v hE C hR hZ hm hc1 hc2 hM => ?_) (g_Run_mono hT (fun o hE hq => by obtain ⟨v, hv, hk⟩ := hq; exact ⟨v, hv, hK _ _ _ _ hk⟩))
      have hB := g_okB (mc := hE.2.1 - h.2.1) (ms := hE.2.2 - h.2.2) hok hgd C ⟨hm.1, hm.2.1⟩ hl
      rw [hret] at hB
      exact va_runI ⟨C.1, C.2.1, C.2.2.1, C.2.2.2.1, C.2.2.2.2.1⟩ (g_toMet hM D) ⟨hB, hnm, C.2.2.2.2.1 _ hi⟩ ⟨g_blind, g_pre C.2.2.2.2.2.1 hR hZ⟩ rfl e2 hm.2.2 e1 (g_rest hr) hd ⟨hc1, hc2⟩
  next => exact hT.elim
theorem so_cIN {J J' : g_J} {pc nx n idx : Nat} {host : String} (hgd : ∀ w ∈ g_W, g_Gd w) (hd : decode J.2.1 pc = .ok (.invokespecial idx, 3)) (hok : g_ok J J' n) (hret : J'.2.2.2.1 = none) (hnm : J'.1.name = "<init>") (hl : Cond.methodLinkNest J.1.cls idx J'.1 host ∈ g_W) (hi : Cond.instanceMethod J'.1 ∈ g_W) (hn : pc + 3 = nx) : g_S J pc (tr_cI J' n nx) := by
  subst hn
  intro l L st h K Post hK hT
  unfold tr_cI at hT
  split at hT
  next b rest hst =>
    cases hr : Nat.ble rest.length 4 with
    | false =>
      rw [hr] at hT
      exact hT.elim
    | true =>
      rw [hr] at hT
      obtain ⟨e1, e2⟩ := g_split hst
      refine g_call (rest := rest) (fun D p e s m args below meth c H locs R cells slots ls v hE C hR hZ hm hc1 hc2 hM => ?_) (g_Run_mono hT (fun o hE hq => by obtain ⟨v, hv, hk⟩ := hq; exact ⟨v, hv, hK _ _ _ _ hk⟩))
      have hB := g_okN (mc := hE.2.1 - h.2.1) (ms := hE.2.2 - h.2.2) hok hgd C ⟨hm.1, hm.2.1⟩ hl
      rw [hret] at hB
      exact va_runIN ⟨C.1, C.2.1, C.2.2.1, C.2.2.2.1, C.2.2.2.2.1⟩ (g_toMet hM D) ⟨hB, hnm, C.2.2.2.2.1 _ hi⟩ ⟨g_blind, g_pre C.2.2.2.2.2.1 hR hZ⟩ rfl e2 hm.2.2 e1 (g_rest hr) hd ⟨hc1, hc2⟩
  next => exact hT.elim
def tr_cS (J' : g_J) (n nx : Nat) : g_T := fun l L st h K _ => bif Nat.ble n st.length && Nat.ble (st.drop n).length 4 then g_cs l J' h (st.take n).reverse (fun v hE => K nx L (v.toList ++ st.drop n) hE) else False
theorem so_cS {J J' : g_J} {pc nx n idx : Nat} (hgd : ∀ w ∈ g_W, g_Gd w) (hd : decode J.2.1 pc = .ok (.invokestatic idx, 3)) (hok : g_ok J J' n) (hl : Cond.methodLink J.1.cls idx J'.1 ∈ g_W) (hi : Cond.static J'.1 ∈ g_W) (hn : pc + 3 = nx) : g_S J pc (tr_cS J' n nx) := by
  subst hn
  intro l L st h K Post hK hT
  unfold tr_cS at hT
  cases hr : Nat.ble n st.length && Nat.ble (st.drop n).length 4 with
  | false =>
    rw [hr] at hT
    exact hT.elim
  | true =>
    rw [hr] at hT
    rw [Bool.and_eq_true] at hr
    have h1 := Nat.le_of_ble_eq_true hr.1
    have e1 : st = (st.take n).reverse.reverse ++ st.drop n := by rw [List.reverse_reverse, List.take_append_drop]
    have e2 : (st.take n).reverse.length = n := by
      rw [List.length_reverse, List.length_take]
      omega
    refine g_call (rest := st.drop n) (fun D p e s m args below meth c H locs R cells slots ls v hE C hR hZ hm hc1 hc2 hM => ?_) (g_Run_mono hT (fun o hE hq => by obtain ⟨v, hv, hk⟩ := hq; exact ⟨v, hv, hK _ _ _ _ hk⟩))
    exact va_runS ⟨C.1, C.2.1, C.2.2.1, C.2.2.2.1, C.2.2.2.2.1⟩ (g_toMet hM D) ⟨g_okB hok hgd C ⟨hm.1, hm.2.1⟩ hl, C.2.2.2.2.1 _ hi⟩ ⟨g_blind, g_pre C.2.2.2.2.2.1 hR hZ⟩ rfl e2 hm.2.2 e1 (g_rest hr.2) hd ⟨hc1, hc2⟩
theorem so_cSN {J J' : g_J} {pc nx n idx : Nat} {host : String} (hgd : ∀ w ∈ g_W, g_Gd w) (hd : decode J.2.1 pc = .ok (.invokestatic idx, 3)) (hok : g_ok J J' n) (hl : Cond.methodLinkNest J.1.cls idx J'.1 host ∈ g_W) (hi : Cond.static J'.1 ∈ g_W) (hn : pc + 3 = nx) : g_S J pc (tr_cS J' n nx) := by
  subst hn
  intro l L st h K Post hK hT
  unfold tr_cS at hT
  cases hr : Nat.ble n st.length && Nat.ble (st.drop n).length 4 with
  | false =>
    rw [hr] at hT
    exact hT.elim
  | true =>
    rw [hr] at hT
    rw [Bool.and_eq_true] at hr
    have h1 := Nat.le_of_ble_eq_true hr.1
    have e1 : st = (st.take n).reverse.reverse ++ st.drop n := by rw [List.reverse_reverse, List.take_append_drop]
    have e2 : (st.take n).reverse.length = n := by
      rw [List.length_reverse, List.length_take]
      omega
    refine g_call (rest := st.drop n) (fun D p e s m args below meth c H locs R cells slots ls v hE C hR hZ hm hc1 hc2 hM => ?_) (g_Run_mono hT (fun o hE hq => by obtain ⟨v, hv, hk⟩ := hq; exact ⟨v, hv, hK _ _ _ _ hk⟩))
    exact va_runSN ⟨C.1, C.2.1, C.2.2.1, C.2.2.2.1, C.2.2.2.2.1⟩ (g_toMet hM D) ⟨g_okN hok hgd C ⟨hm.1, hm.2.1⟩ hl, C.2.2.2.2.1 _ hi, trivial⟩ ⟨g_blind, g_pre C.2.2.2.2.2.1 hR hZ⟩ rfl e2 hm.2.2 e1 (g_rest hr.2) hd ⟨hc1, hc2⟩
/-! Object's own constructor; the greater and the smaller of two -/
def tr_oi (nx : Nat) : g_T := fun _ L st h K _ => match st with
  | .ref _ :: rest => bif Nat.ble rest.length 4 then K nx L rest h else False
  | _ => False
theorem so_oi {J : g_J} {pc nx idx : Nat} (hd : decode J.2.1 pc = .ok (.invokespecial idx, 3)) (hl : Cond.methodLink J.1.cls idx objectInit ∈ g_W) (hi : Cond.instanceMethod objectInit ∈ g_W) (hc : Cond.code objectInit ⟨#[0xb1]⟩ 1 none ∈ g_W) (hdp : 1 ≤ J.2.2.2.2.1.1 ∧ 24 ≤ J.2.2.2.2.1.2) (hn : pc + 3 = nx) : g_S J pc (tr_oi nx) := by
  subst hn
  intro l L st h K Post hK hT
  unfold tr_oi at hT
  split at hT
  next a rest =>
    cases hr : Nat.ble rest.length 4 with
    | false =>
      rw [hr] at hT
      exact hT.elim
    | true =>
      rw [hr] at hT
      refine g_step (fun D p e s m args below meth c H locs R cells slots Q ls C hR hl' hE0 hM kk => ?_) (hK _ _ _ _ hT)
      have h8 := g_rest (m := m) (pc := pc) (ls := ls) (st := .ref a :: rest) hr
      exact W.objInit C.1 C.2.1 C.2.2.2.1 (C.2.2.2.2.1 _ hl) (C.2.2.2.2.1 _ hi) (C.2.2.2.2.1 _ hc) rfl (hl'.1.trans C.2.2.1.symm) rfl hd (by rw [hM.1]; exact hdp.1) (by rw [hM.2.1]; have := hdp.2; omega) (kk ls hl')
  next => exact hT.elim
def tr_mx (nx : Nat) : g_T := fun _ L st h K _ => match st with
  | .int y :: .int x :: rest => bif Nat.ble rest.length 4 then K nx L (.int (if x < y then y else x) :: rest) h else False
  | _ => False
theorem so_mx {J : g_J} {pc nx idx : Nat} (hd : decode J.2.1 pc = .ok (.invokestatic idx, 3)) (hl : Cond.methodLink J.1.cls idx Lib.Math.max.name ∈ g_W) (hi : Cond.static Lib.Math.max.name ∈ g_W) (hini : Cond.initialized "java/lang/Math" ∈ g_W) (hc : Cond.code Lib.Math.max.name Lib.Math.max.code 2 (some .int) ∈ g_W) (hdp : 1 ≤ J.2.2.2.2.1.1 ∧ 24 ≤ J.2.2.2.2.1.2) (hn : pc + 3 = nx) : g_S J pc (tr_mx nx) := by
  subst hn
  intro l L st h K Post hK hT
  unfold tr_mx at hT
  split at hT
  next y x rest =>
    cases hr : Nat.ble rest.length 4 with
    | false =>
      rw [hr] at hT
      exact hT.elim
    | true =>
      rw [hr] at hT
      refine g_step (fun D p e s m args below meth c H locs R cells slots Q ls C hR hl' hE0 hM kk => ?_) (hK _ _ _ _ hT)
      have h8 := g_cats rest
      have h9 := Nat.le_of_ble_eq_true hr
      exact va_mmax C.1 C.2.1 (C.2.2.1.trans hl'.1.symm) C.2.2.2.1 (C.2.2.2.2.1 _ hl) (C.2.2.2.2.1 _ hi) (C.2.2.2.2.1 _ hini) (C.2.2.2.2.1 _ hc) (by rw [hM.1]; exact hdp.1) (by rw [hM.2.1]; have := hdp.2; omega) hM.2.2.1 hM.2.2.2 hd (kk ls hl')
  next => exact hT.elim
def tr_mn (nx : Nat) : g_T := fun _ L st h K _ => match st with
  | .int y :: .int x :: rest => bif Nat.ble rest.length 4 then K nx L (.int (if y < x then y else x) :: rest) h else False
  | _ => False
theorem so_mn {J : g_J} {pc nx idx : Nat} (hd : decode J.2.1 pc = .ok (.invokestatic idx, 3)) (hl : Cond.methodLink J.1.cls idx Lib.Math.min.name ∈ g_W) (hi : Cond.static Lib.Math.min.name ∈ g_W) (hini : Cond.initialized "java/lang/Math" ∈ g_W) (hc : Cond.code Lib.Math.min.name Lib.Math.min.code 2 (some .int) ∈ g_W) (hdp : 1 ≤ J.2.2.2.2.1.1 ∧ 24 ≤ J.2.2.2.2.1.2) (hn : pc + 3 = nx) : g_S J pc (tr_mn nx) := by
  subst hn
  intro l L st h K Post hK hT
  unfold tr_mn at hT
  split at hT
  next y x rest =>
    cases hr : Nat.ble rest.length 4 with
    | false =>
      rw [hr] at hT
      exact hT.elim
    | true =>
      rw [hr] at hT
      refine g_step (fun D p e s m args below meth c H locs R cells slots Q ls C hR hl' hE0 hM kk => ?_) (hK _ _ _ _ hT)
      have h8 := g_cats rest
      have h9 := Nat.le_of_ble_eq_true hr
      exact va_mmin C.1 C.2.1 (C.2.2.1.trans hl'.1.symm) C.2.2.2.1 (C.2.2.2.2.1 _ hl) (C.2.2.2.2.1 _ hi) (C.2.2.2.2.1 _ hini) (C.2.2.2.2.1 _ hc) (by rw [hM.1]; exact hdp.1) (by rw [hM.2.1]; have := hdp.2; omega) hM.2.2.1 hM.2.2.2 hd (kk ls hl')
  next => exact hT.elim
/-! the script -/
theorem g_Ex_of {J : g_J} {h0 : g_H} {s : State} {b : Nat} {xs : List Int32} (hx : J.2.2.2.2.2.2 = some (b, xs)) (h : g_Ex J h0 s) : va_X b xs.length (fun j => xs.getD j 0) s s.heap ∧ b < s.heap.size ∧ ¬ g_A h0 b := by
  unfold g_Ex at h
  rw [hx] at h
  exact h
def tr_sl (b : Nat) (xs : List Int32) (nx : Nat) : g_T := fun _ L st h K _ => match st with
  | .int i :: .ref a :: st' => a = b ∧ vp_in i xs.length ∧ K nx L (.int (xs.getD i.toNatClampNeg 0) :: st') h
  | _ => False
theorem so_sl {J : g_J} {pc nx b : Nat} {xs : List Int32} (hx : J.2.2.2.2.2.2 = some (b, xs)) (hd : decode J.2.1 pc = .ok (.iaload, 1)) (hn : pc + 1 = nx) : g_S J pc (tr_sl b xs nx) := by
  subst hn
  intro l L st h K Post hK hT
  unfold tr_sl at hT
  split at hT
  next i a st' =>
    obtain ⟨rfl, h2, h3⟩ := hT
    refine g_step (fun D p e s m args below meth c H locs R cells slots Q ls C hR hl hE0 hM kk => ?_) (hK _ _ _ _ h3)
    obtain ⟨h0, hex, hS⟩ := hE0
    obtain ⟨hX, hb, hA⟩ := g_Ex_of hx hex
    exact va_sld C.1 C.2.1 hX hb hA hS h2 hd (kk ls hl)
  next => exact hT.elim
def tr_sn (b : Nat) (xs : List Int32) (nx : Nat) : g_T := fun _ L st h K _ => match st with
  | .ref a :: st' => a = b ∧ K nx L (.int (Int32.ofNat xs.length) :: st') h
  | _ => False
theorem so_sn {J : g_J} {pc nx b : Nat} {xs : List Int32} (hx : J.2.2.2.2.2.2 = some (b, xs)) (hd : decode J.2.1 pc = .ok (.arraylength, 1)) (hn : pc + 1 = nx) : g_S J pc (tr_sn b xs nx) := by
  subst hn
  intro l L st h K Post hK hT
  unfold tr_sn at hT
  split at hT
  next a st' =>
    obtain ⟨rfl, h3⟩ := hT
    refine g_step (fun D p e s m args below meth c H locs R cells slots Q ls C hR hl hE0 hM kk => ?_) (hK _ _ _ _ h3)
    obtain ⟨h0, hex, hS⟩ := hE0
    obtain ⟨hX, hb, hA⟩ := g_Ex_of hx hex
    exact va_slen C.1 C.2.1 hX hb hA hS hd (kk ls hl)
  next => exact hT.elim
end
section
/-! tables of instructions -/
def g_tab : List (Nat × g_T) → Nat → g_T
  | [], _ => tr_no
  | (q, T) :: r, pc => bif Nat.beq pc q then T else g_tab r pc
theorem g_tab_ok {J : g_J} : ∀ {tab : List (Nat × g_T)}, (∀ q ∈ tab, g_S J q.1 q.2) → ∀ pc, g_S J pc (g_tab tab pc)
  | [], _, _ => so_no
  | (q, T) :: r, h, pc => by
    unfold g_tab
    cases hq : Nat.beq pc q with
    | true =>
      have := Nat.eq_of_beq_eq_true hq
      subst this
      exact h (pc, T) List.mem_cons_self
    | false => exact g_tab_ok (fun x hx => h x (List.mem_cons_of_mem _ hx)) pc
def g_chk : List (Nat × (Nat → g_T)) → Nat → g_T
  | [], _ => tr_no
  | (q, f) :: r, pc => bif Nat.ble pc q then f pc else g_chk r pc
theorem g_chk_ok {J : g_J} : ∀ {tab : List (Nat × (Nat → g_T))}, (∀ q ∈ tab, ∀ pc, g_S J pc (q.2 pc)) → ∀ pc, g_S J pc (g_chk tab pc)
  | [], _, _ => so_no
  | (q, f) :: r, h, pc => by
    unfold g_chk
    cases hq : Nat.ble pc q with
    | true => exact h (q, f) List.mem_cons_self pc
    | false => exact g_chk_ok (fun x hx => h x (List.mem_cons_of_mem _ hx)) pc
end
section
/-! tables, by program (wip/whole/gen/mkt.py I L B V M) -/
abbrev J_I_init : g_J := (y_I_init, prog_3_method_1_code, 2, none, (1, 24), [], none)
theorem d_I_init_0 : decode prog_3_method_1_code 0 = .ok (.aload_n 0, 1) := by decide +kernel
theorem d_I_init_1 : decode prog_3_method_1_code 1 = .ok (.invokespecial 3, 3) := by decide +kernel
theorem d_I_init_4 : decode prog_3_method_1_code 4 = .ok (.aload_n 0, 1) := by decide +kernel
theorem d_I_init_5 : decode prog_3_method_1_code 5 = .ok (.iload_n 1, 1) := by decide +kernel
theorem d_I_init_6 : decode prog_3_method_1_code 6 = .ok (.iconst 0, 1) := by decide +kernel
theorem d_I_init_7 : decode prog_3_method_1_code 7 = .ok (.invokestatic 9, 3) := by decide +kernel
theorem d_I_init_10 : decode prog_3_method_1_code 10 = .ok (.newarray .int, 2) := by decide +kernel
theorem d_I_init_12 : decode prog_3_method_1_code 12 = .ok (.putfield 15, 3) := by decide +kernel
theorem d_I_init_15 : decode prog_3_method_1_code 15 = .ok (.return_, 1) := by decide +kernel
def cd_I_init_0 : Nat → g_T := g_tab [(0, tr_ald 0 1), (1, tr_oi 4), (4, tr_ald 0 5), (5, tr_ild 1 6), (6, tr_cst (.int (0)) 7), (7, tr_mx 10), (10, tr_nai 12), (12, tr_put 0 0 (.array .int) 15), (15, tr_rv)]
set_option maxRecDepth 100000 in
theorem ok_I_init_0 : ∀ pc, g_S (J_I_init) pc (cd_I_init_0 pc) := g_tab_ok <|
  List.forall_mem_cons.mpr ⟨so_aload_n d_I_init_0 rfl rfl,
  List.forall_mem_cons.mpr ⟨so_oi d_I_init_1 w_1_32 w_1_25 w_1_26 ⟨(Nat.le_of_ble_eq_true rfl), (Nat.le_of_ble_eq_true rfl)⟩ rfl,
  List.forall_mem_cons.mpr ⟨so_aload_n d_I_init_4 rfl rfl,
  List.forall_mem_cons.mpr ⟨so_iload_n d_I_init_5 rfl rfl,
  List.forall_mem_cons.mpr ⟨so_iconst (by decide) d_I_init_6 rfl,
  List.forall_mem_cons.mpr ⟨so_mx d_I_init_7 w_1_33 w_1_34 w_1_3 w_1_35 ⟨(Nat.le_of_ble_eq_true rfl), (Nat.le_of_ble_eq_true rfl)⟩ rfl,
  List.forall_mem_cons.mpr ⟨so_newai d_I_init_10 w_1_43 rfl,
  List.forall_mem_cons.mpr ⟨so_putF ft_I d_I_init_12 (rfl : vwCl[0]? = some (R_I, F_I, 2)) (Nat.le_of_ble_eq_true rfl) i_I w_1_36 tk_I n_I rfl rfl rfl rfl rfl,
  List.forall_mem_cons.mpr ⟨so_vret d_I_init_15 rfl,
  fun _ h => absurd h List.not_mem_nil⟩⟩⟩⟩⟩⟩⟩⟩⟩
def cd_I_init : Nat → g_T := g_chk [(15, cd_I_init_0)]
theorem ok_I_init : ∀ pc, g_S (J_I_init) pc (cd_I_init pc) := g_chk_ok <|
  List.forall_mem_cons.mpr ⟨ok_I_init_0,
  fun _ h => absurd h List.not_mem_nil⟩
abbrev J_I_add : g_J := (y_I_add, prog_3_method_6_code, 2, (some .boolean), (0, 0), [], none)
theorem d_I_add_0 : decode prog_3_method_6_code 0 = .ok (.aload_n 0, 1) := by decide +kernel
theorem d_I_add_1 : decode prog_3_method_6_code 1 = .ok (.getfield 21, 3) := by decide +kernel
theorem d_I_add_4 : decode prog_3_method_6_code 4 = .ok (.aload_n 0, 1) := by decide +kernel
theorem d_I_add_5 : decode prog_3_method_6_code 5 = .ok (.getfield 15, 3) := by decide +kernel
theorem d_I_add_8 : decode prog_3_method_6_code 8 = .ok (.arraylength, 1) := by decide +kernel
theorem d_I_add_9 : decode prog_3_method_6_code 9 = .ok (.if_icmp .lt 5, 3) := by decide +kernel
theorem d_I_add_12 : decode prog_3_method_6_code 12 = .ok (.iconst 0, 1) := by decide +kernel
theorem d_I_add_13 : decode prog_3_method_6_code 13 = .ok (.ireturn, 1) := by decide +kernel
theorem d_I_add_14 : decode prog_3_method_6_code 14 = .ok (.aload_n 0, 1) := by decide +kernel
theorem d_I_add_15 : decode prog_3_method_6_code 15 = .ok (.getfield 15, 3) := by decide +kernel
theorem d_I_add_18 : decode prog_3_method_6_code 18 = .ok (.aload_n 0, 1) := by decide +kernel
theorem d_I_add_19 : decode prog_3_method_6_code 19 = .ok (.getfield 21, 3) := by decide +kernel
theorem d_I_add_22 : decode prog_3_method_6_code 22 = .ok (.iload_n 1, 1) := by decide +kernel
theorem d_I_add_23 : decode prog_3_method_6_code 23 = .ok (.iastore, 1) := by decide +kernel
theorem d_I_add_24 : decode prog_3_method_6_code 24 = .ok (.aload_n 0, 1) := by decide +kernel
theorem d_I_add_25 : decode prog_3_method_6_code 25 = .ok (.dup, 1) := by decide +kernel
theorem d_I_add_26 : decode prog_3_method_6_code 26 = .ok (.getfield 21, 3) := by decide +kernel
theorem d_I_add_29 : decode prog_3_method_6_code 29 = .ok (.iconst 1, 1) := by decide +kernel
theorem d_I_add_30 : decode prog_3_method_6_code 30 = .ok (.iadd, 1) := by decide +kernel
theorem d_I_add_31 : decode prog_3_method_6_code 31 = .ok (.putfield 21, 3) := by decide +kernel
theorem d_I_add_34 : decode prog_3_method_6_code 34 = .ok (.iconst 1, 1) := by decide +kernel
theorem d_I_add_35 : decode prog_3_method_6_code 35 = .ok (.ireturn, 1) := by decide +kernel
def cd_I_add_0 : Nat → g_T := g_tab [(0, tr_ald 0 1), (1, tr_get 0 1 4), (4, tr_ald 0 5), (5, tr_get 0 0 8), (8, tr_len 9), (9, tr_if2 (fun x y => x < y) 14 12), (12, tr_cst (.int (0)) 13), (13, tr_rz), (14, tr_ald 0 15), (15, tr_get 0 0 18), (18, tr_ald 0 19), (19, tr_get 0 1 22), (22, tr_ild 1 23), (23, tr_ias 24), (24, tr_ald 0 25), (25, tr_dup 26)]
set_option maxRecDepth 100000 in
theorem ok_I_add_0 : ∀ pc, g_S (J_I_add) pc (cd_I_add_0 pc) := g_tab_ok <|
  List.forall_mem_cons.mpr ⟨so_aload_n d_I_add_0 rfl rfl,
  List.forall_mem_cons.mpr ⟨so_get d_I_add_1 (rfl : vwCl[0]? = some (R_I, F_I, 2)) (Nat.le_of_ble_eq_true rfl) i_I w_1_37 rfl,
  List.forall_mem_cons.mpr ⟨so_aload_n d_I_add_4 rfl rfl,
  List.forall_mem_cons.mpr ⟨so_get d_I_add_5 (rfl : vwCl[0]? = some (R_I, F_I, 2)) (Nat.le_of_ble_eq_true rfl) i_I w_1_36 rfl,
  List.forall_mem_cons.mpr ⟨so_len d_I_add_8 rfl,
  List.forall_mem_cons.mpr ⟨so_icmp_lt d_I_add_9 (by decide) rfl,
  List.forall_mem_cons.mpr ⟨so_iconst (by decide) d_I_add_12 rfl,
  List.forall_mem_cons.mpr ⟨so_zret d_I_add_13 rfl,
  List.forall_mem_cons.mpr ⟨so_aload_n d_I_add_14 rfl rfl,
  List.forall_mem_cons.mpr ⟨so_get d_I_add_15 (rfl : vwCl[0]? = some (R_I, F_I, 2)) (Nat.le_of_ble_eq_true rfl) i_I w_1_36 rfl,
  List.forall_mem_cons.mpr ⟨so_aload_n d_I_add_18 rfl rfl,
  List.forall_mem_cons.mpr ⟨so_get d_I_add_19 (rfl : vwCl[0]? = some (R_I, F_I, 2)) (Nat.le_of_ble_eq_true rfl) i_I w_1_37 rfl,
  List.forall_mem_cons.mpr ⟨so_iload_n d_I_add_22 rfl rfl,
  List.forall_mem_cons.mpr ⟨so_iastore d_I_add_23 rfl,
  List.forall_mem_cons.mpr ⟨so_aload_n d_I_add_24 rfl rfl,
  List.forall_mem_cons.mpr ⟨so_dup d_I_add_25 rfl,
  fun _ h => absurd h List.not_mem_nil⟩⟩⟩⟩⟩⟩⟩⟩⟩⟩⟩⟩⟩⟩⟩⟩
def cd_I_add_1 : Nat → g_T := g_tab [(26, tr_get 0 1 29), (29, tr_cst (.int (1)) 30), (30, tr_ii (fun x y => x + y) 31), (31, tr_put 0 1 (.int) 34), (34, tr_cst (.int (1)) 35), (35, tr_rz)]
set_option maxRecDepth 100000 in
theorem ok_I_add_1 : ∀ pc, g_S (J_I_add) pc (cd_I_add_1 pc) := g_tab_ok <|
  List.forall_mem_cons.mpr ⟨so_get d_I_add_26 (rfl : vwCl[0]? = some (R_I, F_I, 2)) (Nat.le_of_ble_eq_true rfl) i_I w_1_37 rfl,
  List.forall_mem_cons.mpr ⟨so_iconst (by decide) d_I_add_29 rfl,
  List.forall_mem_cons.mpr ⟨so_iadd d_I_add_30 rfl,
  List.forall_mem_cons.mpr ⟨so_put ft_I d_I_add_31 (rfl : vwCl[0]? = some (R_I, F_I, 2)) (Nat.le_of_ble_eq_true rfl) i_I w_1_37 tk_I n_I rfl rfl rfl,
  List.forall_mem_cons.mpr ⟨so_iconst (by decide) d_I_add_34 rfl,
  List.forall_mem_cons.mpr ⟨so_zret d_I_add_35 rfl,
  fun _ h => absurd h List.not_mem_nil⟩⟩⟩⟩⟩⟩
def cd_I_add : Nat → g_T := g_chk [(25, cd_I_add_0), (35, cd_I_add_1)]
theorem ok_I_add : ∀ pc, g_S (J_I_add) pc (cd_I_add pc) := g_chk_ok <|
  List.forall_mem_cons.mpr ⟨ok_I_add_0,
  List.forall_mem_cons.mpr ⟨ok_I_add_1,
  fun _ h => absurd h List.not_mem_nil⟩⟩
abbrev J_B_init : g_J := (y_B_init, prog_2_method_1_code, 1, none, (2, 45), [], none)
theorem d_B_init_0 : decode prog_2_method_1_code 0 = .ok (.aload_n 0, 1) := by decide +kernel
theorem d_B_init_1 : decode prog_2_method_1_code 1 = .ok (.invokespecial 3, 3) := by decide +kernel
theorem d_B_init_4 : decode prog_2_method_1_code 4 = .ok (.aload_n 0, 1) := by decide +kernel
theorem d_B_init_5 : decode prog_2_method_1_code 5 = .ok (.new 9, 3) := by decide +kernel
theorem d_B_init_8 : decode prog_2_method_1_code 8 = .ok (.dup, 1) := by decide +kernel
theorem d_B_init_9 : decode prog_2_method_1_code 9 = .ok (.bipush 100, 2) := by decide +kernel
theorem d_B_init_11 : decode prog_2_method_1_code 11 = .ok (.invokespecial 11, 3) := by decide +kernel
theorem d_B_init_14 : decode prog_2_method_1_code 14 = .ok (.putfield 14, 3) := by decide +kernel
theorem d_B_init_17 : decode prog_2_method_1_code 17 = .ok (.aload_n 0, 1) := by decide +kernel
theorem d_B_init_18 : decode prog_2_method_1_code 18 = .ok (.new 9, 3) := by decide +kernel
theorem d_B_init_21 : decode prog_2_method_1_code 21 = .ok (.dup, 1) := by decide +kernel
theorem d_B_init_22 : decode prog_2_method_1_code 22 = .ok (.bipush 100, 2) := by decide +kernel
theorem d_B_init_24 : decode prog_2_method_1_code 24 = .ok (.invokespecial 11, 3) := by decide +kernel
theorem d_B_init_27 : decode prog_2_method_1_code 27 = .ok (.putfield 20, 3) := by decide +kernel
theorem d_B_init_30 : decode prog_2_method_1_code 30 = .ok (.aload_n 0, 1) := by decide +kernel
theorem d_B_init_31 : decode prog_2_method_1_code 31 = .ok (.new 9, 3) := by decide +kernel
theorem d_B_init_34 : decode prog_2_method_1_code 34 = .ok (.dup, 1) := by decide +kernel
theorem d_B_init_35 : decode prog_2_method_1_code 35 = .ok (.bipush 100, 2) := by decide +kernel
theorem d_B_init_37 : decode prog_2_method_1_code 37 = .ok (.invokespecial 11, 3) := by decide +kernel
theorem d_B_init_40 : decode prog_2_method_1_code 40 = .ok (.putfield 23, 3) := by decide +kernel
theorem d_B_init_43 : decode prog_2_method_1_code 43 = .ok (.return_, 1) := by decide +kernel
def cd_B_init_0 : Nat → g_T := g_tab [(0, tr_ald 0 1), (1, tr_oi 4), (4, tr_ald 0 5), (5, tr_new 0 2 [.null, .int 0] 8), (8, tr_dup 9), (9, tr_cst (.int (100)) 11), (11, tr_cI J_I_init 1 14), (14, tr_put 2 0 (.object "TracePacks$Ints") 17), (17, tr_ald 0 18), (18, tr_new 0 2 [.null, .int 0] 21), (21, tr_dup 22), (22, tr_cst (.int (100)) 24), (24, tr_cI J_I_init 1 27), (27, tr_put 2 1 (.object "TracePacks$Ints") 30), (30, tr_ald 0 31), (31, tr_new 0 2 [.null, .int 0] 34)]
set_option maxRecDepth 100000 in
theorem ok_B_init_0 : ∀ pc, g_S (J_B_init) pc (cd_B_init_0 pc) := g_tab_ok <|
  List.forall_mem_cons.mpr ⟨so_aload_n d_B_init_0 rfl rfl,
  List.forall_mem_cons.mpr ⟨so_oi d_B_init_1 w_1_53 w_1_25 w_1_26 ⟨(Nat.le_of_ble_eq_true rfl), (Nat.le_of_ble_eq_true rfl)⟩ rfl,
  List.forall_mem_cons.mpr ⟨so_aload_n d_B_init_4 rfl rfl,
  List.forall_mem_cons.mpr ⟨so_new ft_I d_B_init_5 (rfl : vwCl[0]? = some (R_I, F_I, 2)) i_I w_1_54 w_1_28 w_1_2 tk_I (by decide) rfl,
  List.forall_mem_cons.mpr ⟨so_dup d_B_init_8 rfl,
  List.forall_mem_cons.mpr ⟨so_bipush (by decide) d_B_init_9 rfl,
  List.forall_mem_cons.mpr ⟨so_cI g_good d_B_init_11 ⟨w_1_31, (Nat.le_of_ble_eq_true rfl), (Nat.le_of_ble_eq_true rfl), w_1_2, ⟨by decide, by decide⟩, by decide +kernel⟩ rfl rfl w_1_55 w_1_30 rfl,
  List.forall_mem_cons.mpr ⟨so_putF ft_B d_B_init_14 (rfl : vwCl[2]? = some (R_B, F_B, 5)) (Nat.le_of_ble_eq_true rfl) i_B w_1_56 tk_B n_B rfl rfl rfl rfl rfl,
  List.forall_mem_cons.mpr ⟨so_aload_n d_B_init_17 rfl rfl,
  List.forall_mem_cons.mpr ⟨so_new ft_I d_B_init_18 (rfl : vwCl[0]? = some (R_I, F_I, 2)) i_I w_1_54 w_1_28 w_1_2 tk_I (by decide) rfl,
  List.forall_mem_cons.mpr ⟨so_dup d_B_init_21 rfl,
  List.forall_mem_cons.mpr ⟨so_bipush (by decide) d_B_init_22 rfl,
  List.forall_mem_cons.mpr ⟨so_cI g_good d_B_init_24 ⟨w_1_31, (Nat.le_of_ble_eq_true rfl), (Nat.le_of_ble_eq_true rfl), w_1_2, ⟨by decide, by decide⟩, by decide +kernel⟩ rfl rfl w_1_55 w_1_30 rfl,
  List.forall_mem_cons.mpr ⟨so_putF ft_B d_B_init_27 (rfl : vwCl[2]? = some (R_B, F_B, 5)) (Nat.le_of_ble_eq_true rfl) i_B w_1_57 tk_B n_B rfl rfl rfl rfl rfl,
  List.forall_mem_cons.mpr ⟨so_aload_n d_B_init_30 rfl rfl,
  List.forall_mem_cons.mpr ⟨so_new ft_I d_B_init_31 (rfl : vwCl[0]? = some (R_I, F_I, 2)) i_I w_1_54 w_1_28 w_1_2 tk_I (by decide) rfl,
  fun _ h => absurd h List.not_mem_nil⟩⟩⟩⟩⟩⟩⟩⟩⟩⟩⟩⟩⟩⟩⟩⟩
def cd_B_init_1 : Nat → g_T := g_tab [(34, tr_dup 35), (35, tr_cst (.int (100)) 37), (37, tr_cI J_I_init 1 40), (40, tr_put 2 2 (.object "TracePacks$Ints") 43), (43, tr_rv)]
set_option maxRecDepth 100000 in
theorem ok_B_init_1 : ∀ pc, g_S (J_B_init) pc (cd_B_init_1 pc) := g_tab_ok <|
  List.forall_mem_cons.mpr ⟨so_dup d_B_init_34 rfl,
  List.forall_mem_cons.mpr ⟨so_bipush (by decide) d_B_init_35 rfl,
  List.forall_mem_cons.mpr ⟨so_cI g_good d_B_init_37 ⟨w_1_31, (Nat.le_of_ble_eq_true rfl), (Nat.le_of_ble_eq_true rfl), w_1_2, ⟨by decide, by decide⟩, by decide +kernel⟩ rfl rfl w_1_55 w_1_30 rfl,
  List.forall_mem_cons.mpr ⟨so_putF ft_B d_B_init_40 (rfl : vwCl[2]? = some (R_B, F_B, 5)) (Nat.le_of_ble_eq_true rfl) i_B w_1_58 tk_B n_B rfl rfl rfl rfl rfl,
  List.forall_mem_cons.mpr ⟨so_vret d_B_init_43 rfl,
  fun _ h => absurd h List.not_mem_nil⟩⟩⟩⟩⟩
def cd_B_init : Nat → g_T := g_chk [(31, cd_B_init_0), (43, cd_B_init_1)]
theorem ok_B_init : ∀ pc, g_S (J_B_init) pc (cd_B_init pc) := g_chk_ok <|
  List.forall_mem_cons.mpr ⟨ok_B_init_0,
  List.forall_mem_cons.mpr ⟨ok_B_init_1,
  fun _ h => absurd h List.not_mem_nil⟩⟩
abbrev J_L_init : g_J := (y_L_init, prog_8_method_1_code, 1, none, (1, 24), [], none)
theorem d_L_init_0 : decode prog_8_method_1_code 0 = .ok (.aload_n 0, 1) := by decide +kernel
theorem d_L_init_1 : decode prog_8_method_1_code 1 = .ok (.invokespecial 1, 3) := by decide +kernel
theorem d_L_init_4 : decode prog_8_method_1_code 4 = .ok (.return_, 1) := by decide +kernel
def cd_L_init_0 : Nat → g_T := g_tab [(0, tr_ald 0 1), (1, tr_oi 4), (4, tr_rv)]
set_option maxRecDepth 100000 in
theorem ok_L_init_0 : ∀ pc, g_S (J_L_init) pc (cd_L_init_0 pc) := g_tab_ok <|
  List.forall_mem_cons.mpr ⟨so_aload_n d_L_init_0 rfl rfl,
  List.forall_mem_cons.mpr ⟨so_oi d_L_init_1 w_1_91 w_1_25 w_1_26 ⟨(Nat.le_of_ble_eq_true rfl), (Nat.le_of_ble_eq_true rfl)⟩ rfl,
  List.forall_mem_cons.mpr ⟨so_vret d_L_init_4 rfl,
  fun _ h => absurd h List.not_mem_nil⟩⟩⟩
def cd_L_init : Nat → g_T := g_chk [(4, cd_L_init_0)]
theorem ok_L_init : ∀ pc, g_S (J_L_init) pc (cd_L_init pc) := g_chk_ok <|
  List.forall_mem_cons.mpr ⟨ok_L_init_0,
  fun _ h => absurd h List.not_mem_nil⟩
abbrev J_V_init : g_J := (y_V_init, prog_5_method_1_code, 1, none, (2, 45), [], none)
theorem d_V_init_0 : decode prog_5_method_1_code 0 = .ok (.aload_n 0, 1) := by decide +kernel
theorem d_V_init_1 : decode prog_5_method_1_code 1 = .ok (.invokespecial 3, 3) := by decide +kernel
theorem d_V_init_4 : decode prog_5_method_1_code 4 = .ok (.aload_n 0, 1) := by decide +kernel
theorem d_V_init_5 : decode prog_5_method_1_code 5 = .ok (.new 9, 3) := by decide +kernel
theorem d_V_init_8 : decode prog_5_method_1_code 8 = .ok (.dup, 1) := by decide +kernel
theorem d_V_init_9 : decode prog_5_method_1_code 9 = .ok (.bipush 8, 2) := by decide +kernel
theorem d_V_init_11 : decode prog_5_method_1_code 11 = .ok (.invokespecial 11, 3) := by decide +kernel
theorem d_V_init_14 : decode prog_5_method_1_code 14 = .ok (.putfield 14, 3) := by decide +kernel
theorem d_V_init_17 : decode prog_5_method_1_code 17 = .ok (.return_, 1) := by decide +kernel
def cd_V_init_0 : Nat → g_T := g_tab [(0, tr_ald 0 1), (1, tr_oi 4), (4, tr_ald 0 5), (5, tr_new 0 2 [.null, .int 0] 8), (8, tr_dup 9), (9, tr_cst (.int (8)) 11), (11, tr_cI J_I_init 1 14), (14, tr_put 3 0 (.object "TracePacks$Ints") 17), (17, tr_rv)]
set_option maxRecDepth 100000 in
theorem ok_V_init_0 : ∀ pc, g_S (J_V_init) pc (cd_V_init_0 pc) := g_tab_ok <|
  List.forall_mem_cons.mpr ⟨so_aload_n d_V_init_0 rfl rfl,
  List.forall_mem_cons.mpr ⟨so_oi d_V_init_1 w_1_104 w_1_25 w_1_26 ⟨(Nat.le_of_ble_eq_true rfl), (Nat.le_of_ble_eq_true rfl)⟩ rfl,
  List.forall_mem_cons.mpr ⟨so_aload_n d_V_init_4 rfl rfl,
  List.forall_mem_cons.mpr ⟨so_new ft_I d_V_init_5 (rfl : vwCl[0]? = some (R_I, F_I, 2)) i_I w_1_105 w_1_28 w_1_2 tk_I (by decide) rfl,
  List.forall_mem_cons.mpr ⟨so_dup d_V_init_8 rfl,
  List.forall_mem_cons.mpr ⟨so_bipush (by decide) d_V_init_9 rfl,
  List.forall_mem_cons.mpr ⟨so_cI g_good d_V_init_11 ⟨w_1_31, (Nat.le_of_ble_eq_true rfl), (Nat.le_of_ble_eq_true rfl), w_1_2, ⟨by decide, by decide⟩, by decide +kernel⟩ rfl rfl w_1_106 w_1_30 rfl,
  List.forall_mem_cons.mpr ⟨so_putF ft_V d_V_init_14 (rfl : vwCl[3]? = some (R_V, F_V, 1)) (Nat.le_of_ble_eq_true rfl) i_V w_1_107 tk_V n_V rfl rfl rfl rfl rfl,
  List.forall_mem_cons.mpr ⟨so_vret d_V_init_17 rfl,
  fun _ h => absurd h List.not_mem_nil⟩⟩⟩⟩⟩⟩⟩⟩⟩
def cd_V_init : Nat → g_T := g_chk [(17, cd_V_init_0)]
theorem ok_V_init : ∀ pc, g_S (J_V_init) pc (cd_V_init pc) := g_chk_ok <|
  List.forall_mem_cons.mpr ⟨ok_V_init_0,
  fun _ h => absurd h List.not_mem_nil⟩
abbrev J_M_init : g_J := (y_M_init, prog_6_method_1_code, 1, none, (3, 65), [], none)
theorem d_M_init_0 : decode prog_6_method_1_code 0 = .ok (.aload_n 0, 1) := by decide +kernel
theorem d_M_init_1 : decode prog_6_method_1_code 1 = .ok (.invokespecial 1, 3) := by decide +kernel
theorem d_M_init_4 : decode prog_6_method_1_code 4 = .ok (.aload_n 0, 1) := by decide +kernel
theorem d_M_init_5 : decode prog_6_method_1_code 5 = .ok (.new 7, 3) := by decide +kernel
theorem d_M_init_8 : decode prog_6_method_1_code 8 = .ok (.dup, 1) := by decide +kernel
theorem d_M_init_9 : decode prog_6_method_1_code 9 = .ok (.invokespecial 9, 3) := by decide +kernel
theorem d_M_init_12 : decode prog_6_method_1_code 12 = .ok (.putfield 10, 3) := by decide +kernel
theorem d_M_init_15 : decode prog_6_method_1_code 15 = .ok (.aload_n 0, 1) := by decide +kernel
theorem d_M_init_16 : decode prog_6_method_1_code 16 = .ok (.new 7, 3) := by decide +kernel
theorem d_M_init_19 : decode prog_6_method_1_code 19 = .ok (.dup, 1) := by decide +kernel
theorem d_M_init_20 : decode prog_6_method_1_code 20 = .ok (.invokespecial 9, 3) := by decide +kernel
theorem d_M_init_23 : decode prog_6_method_1_code 23 = .ok (.putfield 16, 3) := by decide +kernel
theorem d_M_init_26 : decode prog_6_method_1_code 26 = .ok (.aload_n 0, 1) := by decide +kernel
theorem d_M_init_27 : decode prog_6_method_1_code 27 = .ok (.new 19, 3) := by decide +kernel
theorem d_M_init_30 : decode prog_6_method_1_code 30 = .ok (.dup, 1) := by decide +kernel
theorem d_M_init_31 : decode prog_6_method_1_code 31 = .ok (.invokespecial 21, 3) := by decide +kernel
theorem d_M_init_34 : decode prog_6_method_1_code 34 = .ok (.putfield 22, 3) := by decide +kernel
theorem d_M_init_37 : decode prog_6_method_1_code 37 = .ok (.return_, 1) := by decide +kernel
def cd_M_init_0 : Nat → g_T := g_tab [(0, tr_ald 0 1), (1, tr_oi 4), (4, tr_ald 0 5), (5, tr_new 1 2 [.int 0, .int 0] 8), (8, tr_dup 9), (9, tr_cI J_L_init 0 12), (12, tr_put 4 0 (.object "TracePacks$Places") 15), (15, tr_ald 0 16), (16, tr_new 1 2 [.int 0, .int 0] 19), (19, tr_dup 20), (20, tr_cI J_L_init 0 23), (23, tr_put 4 1 (.object "TracePacks$Places") 26), (26, tr_ald 0 27), (27, tr_new 3 1 [.null] 30), (30, tr_dup 31), (31, tr_cI J_V_init 0 34)]
set_option maxRecDepth 100000 in
theorem ok_M_init_0 : ∀ pc, g_S (J_M_init) pc (cd_M_init_0 pc) := g_tab_ok <|
  List.forall_mem_cons.mpr ⟨so_aload_n d_M_init_0 rfl rfl,
  List.forall_mem_cons.mpr ⟨so_oi d_M_init_1 w_1_85 w_1_25 w_1_26 ⟨(Nat.le_of_ble_eq_true rfl), (Nat.le_of_ble_eq_true rfl)⟩ rfl,
  List.forall_mem_cons.mpr ⟨so_aload_n d_M_init_4 rfl rfl,
  List.forall_mem_cons.mpr ⟨so_new ft_L d_M_init_5 (rfl : vwCl[1]? = some (R_L, F_L, 2)) i_L w_1_86 w_1_87 w_1_7 tk_L (by decide) rfl,
  List.forall_mem_cons.mpr ⟨so_dup d_M_init_8 rfl,
  List.forall_mem_cons.mpr ⟨so_cIN g_good d_M_init_9 ⟨w_1_90, (Nat.le_of_ble_eq_true rfl), (Nat.le_of_ble_eq_true rfl), w_1_7, ⟨by decide, by decide⟩, by decide +kernel⟩ rfl rfl w_1_88 w_1_89 rfl,
  List.forall_mem_cons.mpr ⟨so_putF ft_M d_M_init_12 (rfl : vwCl[4]? = some (R_M, F_M, 5)) (Nat.le_of_ble_eq_true rfl) i_M w_1_111 tk_M n_M rfl rfl rfl rfl rfl,
  List.forall_mem_cons.mpr ⟨so_aload_n d_M_init_15 rfl rfl,
  List.forall_mem_cons.mpr ⟨so_new ft_L d_M_init_16 (rfl : vwCl[1]? = some (R_L, F_L, 2)) i_L w_1_86 w_1_87 w_1_7 tk_L (by decide) rfl,
  List.forall_mem_cons.mpr ⟨so_dup d_M_init_19 rfl,
  List.forall_mem_cons.mpr ⟨so_cIN g_good d_M_init_20 ⟨w_1_90, (Nat.le_of_ble_eq_true rfl), (Nat.le_of_ble_eq_true rfl), w_1_7, ⟨by decide, by decide⟩, by decide +kernel⟩ rfl rfl w_1_88 w_1_89 rfl,
  List.forall_mem_cons.mpr ⟨so_putF ft_M d_M_init_23 (rfl : vwCl[4]? = some (R_M, F_M, 5)) (Nat.le_of_ble_eq_true rfl) i_M w_1_114 tk_M n_M rfl rfl rfl rfl rfl,
  List.forall_mem_cons.mpr ⟨so_aload_n d_M_init_26 rfl rfl,
  List.forall_mem_cons.mpr ⟨so_new ft_V d_M_init_27 (rfl : vwCl[3]? = some (R_V, F_V, 1)) i_V w_1_99 w_1_100 w_1_8 tk_V (by decide) rfl,
  List.forall_mem_cons.mpr ⟨so_dup d_M_init_30 rfl,
  List.forall_mem_cons.mpr ⟨so_cIN g_good d_M_init_31 ⟨w_1_103, (Nat.le_of_ble_eq_true rfl), (Nat.le_of_ble_eq_true rfl), w_1_8, ⟨by decide, by decide⟩, by decide +kernel⟩ rfl rfl w_1_101 w_1_102 rfl,
  fun _ h => absurd h List.not_mem_nil⟩⟩⟩⟩⟩⟩⟩⟩⟩⟩⟩⟩⟩⟩⟩⟩
def cd_M_init_1 : Nat → g_T := g_tab [(34, tr_put 4 2 (.object "TracePacks$LastValues") 37), (37, tr_rv)]
set_option maxRecDepth 100000 in
theorem ok_M_init_1 : ∀ pc, g_S (J_M_init) pc (cd_M_init_1 pc) := g_tab_ok <|
  List.forall_mem_cons.mpr ⟨so_putF ft_M d_M_init_34 (rfl : vwCl[4]? = some (R_M, F_M, 5)) (Nat.le_of_ble_eq_true rfl) i_M w_1_117 tk_M n_M rfl rfl rfl rfl rfl,
  List.forall_mem_cons.mpr ⟨so_vret d_M_init_37 rfl,
  fun _ h => absurd h List.not_mem_nil⟩⟩
def cd_M_init : Nat → g_T := g_chk [(31, cd_M_init_0), (37, cd_M_init_1)]
theorem ok_M_init : ∀ pc, g_S (J_M_init) pc (cd_M_init pc) := g_chk_ok <|
  List.forall_mem_cons.mpr ⟨ok_M_init_0,
  List.forall_mem_cons.mpr ⟨ok_M_init_1,
  fun _ h => absurd h List.not_mem_nil⟩⟩
abbrev J_I_size : g_J := (y_I_size, prog_3_method_2_code, 1, (some .int), (0, 0), [], none)
theorem d_I_size_0 : decode prog_3_method_2_code 0 = .ok (.aload_n 0, 1) := by decide +kernel
theorem d_I_size_1 : decode prog_3_method_2_code 1 = .ok (.getfield 21, 3) := by decide +kernel
theorem d_I_size_4 : decode prog_3_method_2_code 4 = .ok (.ireturn, 1) := by decide +kernel
def cd_I_size_0 : Nat → g_T := g_tab [(0, tr_ald 0 1), (1, tr_get 0 1 4), (4, tr_ri)]
set_option maxRecDepth 100000 in
theorem ok_I_size_0 : ∀ pc, g_S (J_I_size) pc (cd_I_size_0 pc) := g_tab_ok <|
  List.forall_mem_cons.mpr ⟨so_aload_n d_I_size_0 rfl rfl,
  List.forall_mem_cons.mpr ⟨so_get d_I_size_1 (rfl : vwCl[0]? = some (R_I, F_I, 2)) (Nat.le_of_ble_eq_true rfl) i_I w_1_37 rfl,
  List.forall_mem_cons.mpr ⟨so_iret d_I_size_4 rfl,
  fun _ h => absurd h List.not_mem_nil⟩⟩⟩
def cd_I_size : Nat → g_T := g_chk [(4, cd_I_size_0)]
theorem ok_I_size : ∀ pc, g_S (J_I_size) pc (cd_I_size pc) := g_chk_ok <|
  List.forall_mem_cons.mpr ⟨ok_I_size_0,
  fun _ h => absurd h List.not_mem_nil⟩
abbrev J_B_size : g_J := (y_B_size, prog_2_method_6_code, 1, (some .int), (1, 20), [], none)
theorem d_B_size_0 : decode prog_2_method_6_code 0 = .ok (.aload_n 0, 1) := by decide +kernel
theorem d_B_size_1 : decode prog_2_method_6_code 1 = .ok (.getfield 14, 3) := by decide +kernel
theorem d_B_size_4 : decode prog_2_method_6_code 4 = .ok (.invokevirtual 47, 3) := by decide +kernel
theorem d_B_size_7 : decode prog_2_method_6_code 7 = .ok (.ireturn, 1) := by decide +kernel
def cd_B_size_0 : Nat → g_T := g_tab [(0, tr_ald 0 1), (1, tr_get 2 0 4), (4, tr_cV J_I_size 0 0 7), (7, tr_ri)]
set_option maxRecDepth 100000 in
theorem ok_B_size_0 : ∀ pc, g_S (J_B_size) pc (cd_B_size_0 pc) := g_tab_ok <|
  List.forall_mem_cons.mpr ⟨so_aload_n d_B_size_0 rfl rfl,
  List.forall_mem_cons.mpr ⟨so_get d_B_size_1 (rfl : vwCl[2]? = some (R_B, F_B, 5)) (Nat.le_of_ble_eq_true rfl) i_B w_1_56 rfl,
  List.forall_mem_cons.mpr ⟨so_cV g_good d_B_size_4 ⟨w_2_28, (Nat.le_of_ble_eq_true rfl), (Nat.le_of_ble_eq_true rfl), w_1_2, ⟨by decide, by decide⟩, by decide +kernel⟩ (rfl : vwCl[0]? = some (R_I, F_I, 2)) w_2_33 w_2_26 w_2_27 rfl,
  List.forall_mem_cons.mpr ⟨so_iret d_B_size_7 rfl,
  fun _ h => absurd h List.not_mem_nil⟩⟩⟩⟩
def cd_B_size : Nat → g_T := g_chk [(7, cd_B_size_0)]
theorem ok_B_size : ∀ pc, g_S (J_B_size) pc (cd_B_size pc) := g_chk_ok <|
  List.forall_mem_cons.mpr ⟨ok_B_size_0,
  fun _ h => absurd h List.not_mem_nil⟩
abbrev J_I_at : g_J := (y_I_at, prog_3_method_4_code, 2, (some .int), (0, 0), [], none)
theorem d_I_at_0 : decode prog_3_method_4_code 0 = .ok (.iload_n 1, 1) := by decide +kernel
theorem d_I_at_1 : decode prog_3_method_4_code 1 = .ok (.ifCond .lt 20, 3) := by decide +kernel
theorem d_I_at_4 : decode prog_3_method_4_code 4 = .ok (.iload_n 1, 1) := by decide +kernel
theorem d_I_at_5 : decode prog_3_method_4_code 5 = .ok (.aload_n 0, 1) := by decide +kernel
theorem d_I_at_6 : decode prog_3_method_4_code 6 = .ok (.getfield 21, 3) := by decide +kernel
theorem d_I_at_9 : decode prog_3_method_4_code 9 = .ok (.if_icmp .ge 12, 3) := by decide +kernel
theorem d_I_at_12 : decode prog_3_method_4_code 12 = .ok (.aload_n 0, 1) := by decide +kernel
theorem d_I_at_13 : decode prog_3_method_4_code 13 = .ok (.getfield 15, 3) := by decide +kernel
theorem d_I_at_16 : decode prog_3_method_4_code 16 = .ok (.iload_n 1, 1) := by decide +kernel
theorem d_I_at_17 : decode prog_3_method_4_code 17 = .ok (.iaload, 1) := by decide +kernel
theorem d_I_at_18 : decode prog_3_method_4_code 18 = .ok (.goto 4, 3) := by decide +kernel
theorem d_I_at_21 : decode prog_3_method_4_code 21 = .ok (.iconst (-1), 1) := by decide +kernel
theorem d_I_at_22 : decode prog_3_method_4_code 22 = .ok (.ireturn, 1) := by decide +kernel
def cd_I_at_0 : Nat → g_T := g_tab [(0, tr_ild 1 1), (1, tr_if1 (fun x => x < 0) 21 4), (4, tr_ild 1 5), (5, tr_ald 0 6), (6, tr_get 0 1 9), (9, tr_if2 (fun x y => y ≤ x) 21 12), (12, tr_ald 0 13), (13, tr_get 0 0 16), (16, tr_ild 1 17), (17, tr_ial 18), (18, tr_goto 22), (21, tr_cst (.int (-1)) 22), (22, tr_ri)]
set_option maxRecDepth 100000 in
theorem ok_I_at_0 : ∀ pc, g_S (J_I_at) pc (cd_I_at_0 pc) := g_tab_ok <|
  List.forall_mem_cons.mpr ⟨so_iload_n d_I_at_0 rfl rfl,
  List.forall_mem_cons.mpr ⟨so_if_lt d_I_at_1 (by decide) rfl,
  List.forall_mem_cons.mpr ⟨so_iload_n d_I_at_4 rfl rfl,
  List.forall_mem_cons.mpr ⟨so_aload_n d_I_at_5 rfl rfl,
  List.forall_mem_cons.mpr ⟨so_get d_I_at_6 (rfl : vwCl[0]? = some (R_I, F_I, 2)) (Nat.le_of_ble_eq_true rfl) i_I w_1_37 rfl,
  List.forall_mem_cons.mpr ⟨so_icmp_ge d_I_at_9 (by decide) rfl,
  List.forall_mem_cons.mpr ⟨so_aload_n d_I_at_12 rfl rfl,
  List.forall_mem_cons.mpr ⟨so_get d_I_at_13 (rfl : vwCl[0]? = some (R_I, F_I, 2)) (Nat.le_of_ble_eq_true rfl) i_I w_1_36 rfl,
  List.forall_mem_cons.mpr ⟨so_iload_n d_I_at_16 rfl rfl,
  List.forall_mem_cons.mpr ⟨so_iaload d_I_at_17 rfl,
  List.forall_mem_cons.mpr ⟨so_goto d_I_at_18 (by decide),
  List.forall_mem_cons.mpr ⟨so_iconst (by decide) d_I_at_21 rfl,
  List.forall_mem_cons.mpr ⟨so_iret d_I_at_22 rfl,
  fun _ h => absurd h List.not_mem_nil⟩⟩⟩⟩⟩⟩⟩⟩⟩⟩⟩⟩⟩
def cd_I_at : Nat → g_T := g_chk [(22, cd_I_at_0)]
theorem ok_I_at : ∀ pc, g_S (J_I_at) pc (cd_I_at pc) := g_chk_ok <|
  List.forall_mem_cons.mpr ⟨ok_I_at_0,
  fun _ h => absurd h List.not_mem_nil⟩
abbrev J_B_isClosedBy : g_J := (y_B_isClosedBy, prog_2_method_4_code, 2, (some .boolean), (2, 40), [], none)
theorem d_B_isClosedBy_0 : decode prog_2_method_4_code 0 = .ok (.aload_n 0, 1) := by decide +kernel
theorem d_B_isClosedBy_1 : decode prog_2_method_4_code 1 = .ok (.invokevirtual 39, 3) := by decide +kernel
theorem d_B_isClosedBy_4 : decode prog_2_method_4_code 4 = .ok (.ifCond .le 24, 3) := by decide +kernel
theorem d_B_isClosedBy_7 : decode prog_2_method_4_code 7 = .ok (.iload_n 1, 1) := by decide +kernel
theorem d_B_isClosedBy_8 : decode prog_2_method_4_code 8 = .ok (.aload_n 0, 1) := by decide +kernel
theorem d_B_isClosedBy_9 : decode prog_2_method_4_code 9 = .ok (.getfield 29, 3) := by decide +kernel
theorem d_B_isClosedBy_12 : decode prog_2_method_4_code 12 = .ok (.if_icmp .ne 12, 3) := by decide +kernel
theorem d_B_isClosedBy_15 : decode prog_2_method_4_code 15 = .ok (.aload_n 0, 1) := by decide +kernel
theorem d_B_isClosedBy_16 : decode prog_2_method_4_code 16 = .ok (.invokevirtual 39, 3) := by decide +kernel
theorem d_B_isClosedBy_19 : decode prog_2_method_4_code 19 = .ok (.bipush 100, 2) := by decide +kernel
theorem d_B_isClosedBy_21 : decode prog_2_method_4_code 21 = .ok (.if_icmp .ne 7, 3) := by decide +kernel
theorem d_B_isClosedBy_24 : decode prog_2_method_4_code 24 = .ok (.iconst 1, 1) := by decide +kernel
theorem d_B_isClosedBy_25 : decode prog_2_method_4_code 25 = .ok (.goto 4, 3) := by decide +kernel
theorem d_B_isClosedBy_28 : decode prog_2_method_4_code 28 = .ok (.iconst 0, 1) := by decide +kernel
theorem d_B_isClosedBy_29 : decode prog_2_method_4_code 29 = .ok (.ireturn, 1) := by decide +kernel
def cd_B_isClosedBy_0 : Nat → g_T := g_tab [(0, tr_ald 0 1), (1, tr_cV J_B_size 2 0 4), (4, tr_if1 (fun x => x ≤ 0) 28 7), (7, tr_ild 1 8), (8, tr_ald 0 9), (9, tr_get 2 3 12), (12, tr_if2 (fun x y => ¬ x = y) 24 15), (15, tr_ald 0 16), (16, tr_cV J_B_size 2 0 19), (19, tr_cst (.int (100)) 21), (21, tr_if2 (fun x y => ¬ x = y) 28 24), (24, tr_cst (.int (1)) 25), (25, tr_goto 29), (28, tr_cst (.int (0)) 29), (29, tr_rz)]
set_option maxRecDepth 100000 in
theorem ok_B_isClosedBy_0 : ∀ pc, g_S (J_B_isClosedBy) pc (cd_B_isClosedBy_0 pc) := g_tab_ok <|
  List.forall_mem_cons.mpr ⟨so_aload_n d_B_isClosedBy_0 rfl rfl,
  List.forall_mem_cons.mpr ⟨so_cV g_good d_B_isClosedBy_1 ⟨w_2_32, (Nat.le_of_ble_eq_true rfl), (Nat.le_of_ble_eq_true rfl), w_1_4, ⟨by decide, by decide⟩, by decide +kernel⟩ (rfl : vwCl[2]? = some (R_B, F_B, 5)) w_2_172 w_2_30 w_2_31 rfl,
  List.forall_mem_cons.mpr ⟨so_if_le d_B_isClosedBy_4 (by decide) rfl,
  List.forall_mem_cons.mpr ⟨so_iload_n d_B_isClosedBy_7 rfl rfl,
  List.forall_mem_cons.mpr ⟨so_aload_n d_B_isClosedBy_8 rfl rfl,
  List.forall_mem_cons.mpr ⟨so_get d_B_isClosedBy_9 (rfl : vwCl[2]? = some (R_B, F_B, 5)) (Nat.le_of_ble_eq_true rfl) i_B w_1_59 rfl,
  List.forall_mem_cons.mpr ⟨so_icmp_ne d_B_isClosedBy_12 (by decide) rfl,
  List.forall_mem_cons.mpr ⟨so_aload_n d_B_isClosedBy_15 rfl rfl,
  List.forall_mem_cons.mpr ⟨so_cV g_good d_B_isClosedBy_16 ⟨w_2_32, (Nat.le_of_ble_eq_true rfl), (Nat.le_of_ble_eq_true rfl), w_1_4, ⟨by decide, by decide⟩, by decide +kernel⟩ (rfl : vwCl[2]? = some (R_B, F_B, 5)) w_2_172 w_2_30 w_2_31 rfl,
  List.forall_mem_cons.mpr ⟨so_bipush (by decide) d_B_isClosedBy_19 rfl,
  List.forall_mem_cons.mpr ⟨so_icmp_ne d_B_isClosedBy_21 (by decide) rfl,
  List.forall_mem_cons.mpr ⟨so_iconst (by decide) d_B_isClosedBy_24 rfl,
  List.forall_mem_cons.mpr ⟨so_goto d_B_isClosedBy_25 (by decide),
  List.forall_mem_cons.mpr ⟨so_iconst (by decide) d_B_isClosedBy_28 rfl,
  List.forall_mem_cons.mpr ⟨so_zret d_B_isClosedBy_29 rfl,
  fun _ h => absurd h List.not_mem_nil⟩⟩⟩⟩⟩⟩⟩⟩⟩⟩⟩⟩⟩⟩⟩
def cd_B_isClosedBy : Nat → g_T := g_chk [(29, cd_B_isClosedBy_0)]
theorem ok_B_isClosedBy : ∀ pc, g_S (J_B_isClosedBy) pc (cd_B_isClosedBy pc) := g_chk_ok <|
  List.forall_mem_cons.mpr ⟨ok_B_isClosedBy_0,
  fun _ h => absurd h List.not_mem_nil⟩
abbrev J_I_shorten : g_J := (y_I_shorten, prog_3_method_7_code, 2, none, (0, 0), [], none)
theorem d_I_shorten_0 : decode prog_3_method_7_code 0 = .ok (.iload_n 1, 1) := by decide +kernel
theorem d_I_shorten_1 : decode prog_3_method_7_code 1 = .ok (.ifCond .lt 16, 3) := by decide +kernel
theorem d_I_shorten_4 : decode prog_3_method_7_code 4 = .ok (.iload_n 1, 1) := by decide +kernel
theorem d_I_shorten_5 : decode prog_3_method_7_code 5 = .ok (.aload_n 0, 1) := by decide +kernel
theorem d_I_shorten_6 : decode prog_3_method_7_code 6 = .ok (.getfield 21, 3) := by decide +kernel
theorem d_I_shorten_9 : decode prog_3_method_7_code 9 = .ok (.if_icmp .ge 8, 3) := by decide +kernel
theorem d_I_shorten_12 : decode prog_3_method_7_code 12 = .ok (.aload_n 0, 1) := by decide +kernel
theorem d_I_shorten_13 : decode prog_3_method_7_code 13 = .ok (.iload_n 1, 1) := by decide +kernel
theorem d_I_shorten_14 : decode prog_3_method_7_code 14 = .ok (.putfield 21, 3) := by decide +kernel
theorem d_I_shorten_17 : decode prog_3_method_7_code 17 = .ok (.return_, 1) := by decide +kernel
def cd_I_shorten_0 : Nat → g_T := g_tab [(0, tr_ild 1 1), (1, tr_if1 (fun x => x < 0) 17 4), (4, tr_ild 1 5), (5, tr_ald 0 6), (6, tr_get 0 1 9), (9, tr_if2 (fun x y => y ≤ x) 17 12), (12, tr_ald 0 13), (13, tr_ild 1 14), (14, tr_put 0 1 (.int) 17), (17, tr_rv)]
set_option maxRecDepth 100000 in
theorem ok_I_shorten_0 : ∀ pc, g_S (J_I_shorten) pc (cd_I_shorten_0 pc) := g_tab_ok <|
  List.forall_mem_cons.mpr ⟨so_iload_n d_I_shorten_0 rfl rfl,
  List.forall_mem_cons.mpr ⟨so_if_lt d_I_shorten_1 (by decide) rfl,
  List.forall_mem_cons.mpr ⟨so_iload_n d_I_shorten_4 rfl rfl,
  List.forall_mem_cons.mpr ⟨so_aload_n d_I_shorten_5 rfl rfl,
  List.forall_mem_cons.mpr ⟨so_get d_I_shorten_6 (rfl : vwCl[0]? = some (R_I, F_I, 2)) (Nat.le_of_ble_eq_true rfl) i_I w_1_37 rfl,
  List.forall_mem_cons.mpr ⟨so_icmp_ge d_I_shorten_9 (by decide) rfl,
  List.forall_mem_cons.mpr ⟨so_aload_n d_I_shorten_12 rfl rfl,
  List.forall_mem_cons.mpr ⟨so_iload_n d_I_shorten_13 rfl rfl,
  List.forall_mem_cons.mpr ⟨so_put ft_I d_I_shorten_14 (rfl : vwCl[0]? = some (R_I, F_I, 2)) (Nat.le_of_ble_eq_true rfl) i_I w_1_37 tk_I n_I rfl rfl rfl,
  List.forall_mem_cons.mpr ⟨so_vret d_I_shorten_17 rfl,
  fun _ h => absurd h List.not_mem_nil⟩⟩⟩⟩⟩⟩⟩⟩⟩⟩
def cd_I_shorten : Nat → g_T := g_chk [(17, cd_I_shorten_0)]
theorem ok_I_shorten : ∀ pc, g_S (J_I_shorten) pc (cd_I_shorten pc) := g_chk_ok <|
  List.forall_mem_cons.mpr ⟨ok_I_shorten_0,
  fun _ h => absurd h List.not_mem_nil⟩
abbrev J_B_time : g_J := (y_B_time, prog_2_method_8_code, 1, (some .int), (0, 0), [], none)
theorem d_B_time_0 : decode prog_2_method_8_code 0 = .ok (.aload_n 0, 1) := by decide +kernel
theorem d_B_time_1 : decode prog_2_method_8_code 1 = .ok (.getfield 33, 3) := by decide +kernel
theorem d_B_time_4 : decode prog_2_method_8_code 4 = .ok (.ireturn, 1) := by decide +kernel
def cd_B_time_0 : Nat → g_T := g_tab [(0, tr_ald 0 1), (1, tr_get 2 4 4), (4, tr_ri)]
set_option maxRecDepth 100000 in
theorem ok_B_time_0 : ∀ pc, g_S (J_B_time) pc (cd_B_time_0 pc) := g_tab_ok <|
  List.forall_mem_cons.mpr ⟨so_aload_n d_B_time_0 rfl rfl,
  List.forall_mem_cons.mpr ⟨so_get d_B_time_1 (rfl : vwCl[2]? = some (R_B, F_B, 5)) (Nat.le_of_ble_eq_true rfl) i_B w_1_60 rfl,
  List.forall_mem_cons.mpr ⟨so_iret d_B_time_4 rfl,
  fun _ h => absurd h List.not_mem_nil⟩⟩⟩
def cd_B_time : Nat → g_T := g_chk [(4, cd_B_time_0)]
theorem ok_B_time : ∀ pc, g_S (J_B_time) pc (cd_B_time pc) := g_chk_ok <|
  List.forall_mem_cons.mpr ⟨ok_B_time_0,
  fun _ h => absurd h List.not_mem_nil⟩
abbrev J_L_clear : g_J := (y_L_clear, prog_8_method_2_code, 1, none, (0, 0), [], none)
theorem d_L_clear_0 : decode prog_8_method_2_code 0 = .ok (.aload_n 0, 1) := by decide +kernel
theorem d_L_clear_1 : decode prog_8_method_2_code 1 = .ok (.iconst 0, 1) := by decide +kernel
theorem d_L_clear_2 : decode prog_8_method_2_code 2 = .ok (.putfield 7, 3) := by decide +kernel
theorem d_L_clear_5 : decode prog_8_method_2_code 5 = .ok (.aload_n 0, 1) := by decide +kernel
theorem d_L_clear_6 : decode prog_8_method_2_code 6 = .ok (.iconst 0, 1) := by decide +kernel
theorem d_L_clear_7 : decode prog_8_method_2_code 7 = .ok (.putfield 13, 3) := by decide +kernel
theorem d_L_clear_10 : decode prog_8_method_2_code 10 = .ok (.return_, 1) := by decide +kernel
def cd_L_clear_0 : Nat → g_T := g_tab [(0, tr_ald 0 1), (1, tr_cst (.int (0)) 2), (2, tr_put 1 0 (.int) 5), (5, tr_ald 0 6), (6, tr_cst (.int (0)) 7), (7, tr_put 1 1 (.int) 10), (10, tr_rv)]
set_option maxRecDepth 100000 in
theorem ok_L_clear_0 : ∀ pc, g_S (J_L_clear) pc (cd_L_clear_0 pc) := g_tab_ok <|
  List.forall_mem_cons.mpr ⟨so_aload_n d_L_clear_0 rfl rfl,
  List.forall_mem_cons.mpr ⟨so_iconst (by decide) d_L_clear_1 rfl,
  List.forall_mem_cons.mpr ⟨so_put ft_L d_L_clear_2 (rfl : vwCl[1]? = some (R_L, F_L, 2)) (Nat.le_of_ble_eq_true rfl) i_L w_1_92 tk_L n_L rfl rfl rfl,
  List.forall_mem_cons.mpr ⟨so_aload_n d_L_clear_5 rfl rfl,
  List.forall_mem_cons.mpr ⟨so_iconst (by decide) d_L_clear_6 rfl,
  List.forall_mem_cons.mpr ⟨so_put ft_L d_L_clear_7 (rfl : vwCl[1]? = some (R_L, F_L, 2)) (Nat.le_of_ble_eq_true rfl) i_L w_1_93 tk_L n_L rfl rfl rfl,
  List.forall_mem_cons.mpr ⟨so_vret d_L_clear_10 rfl,
  fun _ h => absurd h List.not_mem_nil⟩⟩⟩⟩⟩⟩⟩
def cd_L_clear : Nat → g_T := g_chk [(10, cd_L_clear_0)]
theorem ok_L_clear : ∀ pc, g_S (J_L_clear) pc (cd_L_clear pc) := g_chk_ok <|
  List.forall_mem_cons.mpr ⟨ok_L_clear_0,
  fun _ h => absurd h List.not_mem_nil⟩
abbrev J_V_clear : g_J := (y_V_clear, prog_5_method_2_code, 1, none, (1, 21), [], none)
theorem d_V_clear_0 : decode prog_5_method_2_code 0 = .ok (.aload_n 0, 1) := by decide +kernel
theorem d_V_clear_1 : decode prog_5_method_2_code 1 = .ok (.getfield 14, 3) := by decide +kernel
theorem d_V_clear_4 : decode prog_5_method_2_code 4 = .ok (.iconst 0, 1) := by decide +kernel
theorem d_V_clear_5 : decode prog_5_method_2_code 5 = .ok (.invokevirtual 20, 3) := by decide +kernel
theorem d_V_clear_8 : decode prog_5_method_2_code 8 = .ok (.return_, 1) := by decide +kernel
def cd_V_clear_0 : Nat → g_T := g_tab [(0, tr_ald 0 1), (1, tr_get 3 0 4), (4, tr_cst (.int (0)) 5), (5, tr_cV J_I_shorten 0 1 8), (8, tr_rv)]
set_option maxRecDepth 100000 in
theorem ok_V_clear_0 : ∀ pc, g_S (J_V_clear) pc (cd_V_clear_0 pc) := g_tab_ok <|
  List.forall_mem_cons.mpr ⟨so_aload_n d_V_clear_0 rfl rfl,
  List.forall_mem_cons.mpr ⟨so_get d_V_clear_1 (rfl : vwCl[3]? = some (R_V, F_V, 1)) (Nat.le_of_ble_eq_true rfl) i_V w_1_107 rfl,
  List.forall_mem_cons.mpr ⟨so_iconst (by decide) d_V_clear_4 rfl,
  List.forall_mem_cons.mpr ⟨so_cV g_good d_V_clear_5 ⟨w_2_184, (Nat.le_of_ble_eq_true rfl), (Nat.le_of_ble_eq_true rfl), w_1_2, ⟨by decide, by decide⟩, by decide +kernel⟩ (rfl : vwCl[0]? = some (R_I, F_I, 2)) w_2_201 w_2_182 w_2_183 rfl,
  List.forall_mem_cons.mpr ⟨so_vret d_V_clear_8 rfl,
  fun _ h => absurd h List.not_mem_nil⟩⟩⟩⟩⟩
def cd_V_clear : Nat → g_T := g_chk [(8, cd_V_clear_0)]
theorem ok_V_clear : ∀ pc, g_S (J_V_clear) pc (cd_V_clear pc) := g_chk_ok <|
  List.forall_mem_cons.mpr ⟨ok_V_clear_0,
  fun _ h => absurd h List.not_mem_nil⟩
abbrev J_M_begin : g_J := (y_M_begin, prog_6_method_2_code, 2, none, (2, 41), [], none)
theorem d_M_begin_0 : decode prog_6_method_2_code 0 = .ok (.aload_n 0, 1) := by decide +kernel
theorem d_M_begin_1 : decode prog_6_method_2_code 1 = .ok (.getfield 10, 3) := by decide +kernel
theorem d_M_begin_4 : decode prog_6_method_2_code 4 = .ok (.invokevirtual 26, 3) := by decide +kernel
theorem d_M_begin_7 : decode prog_6_method_2_code 7 = .ok (.aload_n 0, 1) := by decide +kernel
theorem d_M_begin_8 : decode prog_6_method_2_code 8 = .ok (.getfield 16, 3) := by decide +kernel
theorem d_M_begin_11 : decode prog_6_method_2_code 11 = .ok (.invokevirtual 26, 3) := by decide +kernel
theorem d_M_begin_14 : decode prog_6_method_2_code 14 = .ok (.aload_n 0, 1) := by decide +kernel
theorem d_M_begin_15 : decode prog_6_method_2_code 15 = .ok (.getfield 22, 3) := by decide +kernel
theorem d_M_begin_18 : decode prog_6_method_2_code 18 = .ok (.invokevirtual 29, 3) := by decide +kernel
theorem d_M_begin_21 : decode prog_6_method_2_code 21 = .ok (.aload_n 0, 1) := by decide +kernel
theorem d_M_begin_22 : decode prog_6_method_2_code 22 = .ok (.iconst 0, 1) := by decide +kernel
theorem d_M_begin_23 : decode prog_6_method_2_code 23 = .ok (.putfield 30, 3) := by decide +kernel
theorem d_M_begin_26 : decode prog_6_method_2_code 26 = .ok (.aload_n 0, 1) := by decide +kernel
theorem d_M_begin_27 : decode prog_6_method_2_code 27 = .ok (.iload_n 1, 1) := by decide +kernel
theorem d_M_begin_28 : decode prog_6_method_2_code 28 = .ok (.putfield 34, 3) := by decide +kernel
theorem d_M_begin_31 : decode prog_6_method_2_code 31 = .ok (.return_, 1) := by decide +kernel
def cd_M_begin_0 : Nat → g_T := g_tab [(0, tr_ald 0 1), (1, tr_get 4 0 4), (4, tr_cV J_L_clear 1 0 7), (7, tr_ald 0 8), (8, tr_get 4 1 11), (11, tr_cV J_L_clear 1 0 14), (14, tr_ald 0 15), (15, tr_get 4 2 18), (18, tr_cV J_V_clear 3 0 21), (21, tr_ald 0 22), (22, tr_cst (.int (0)) 23), (23, tr_put 4 3 (.int) 26), (26, tr_ald 0 27), (27, tr_ild 1 28), (28, tr_put 4 4 (.int) 31), (31, tr_rv)]
set_option maxRecDepth 100000 in
theorem ok_M_begin_0 : ∀ pc, g_S (J_M_begin) pc (cd_M_begin_0 pc) := g_tab_ok <|
  List.forall_mem_cons.mpr ⟨so_aload_n d_M_begin_0 rfl rfl,
  List.forall_mem_cons.mpr ⟨so_get d_M_begin_1 (rfl : vwCl[4]? = some (R_M, F_M, 5)) (Nat.le_of_ble_eq_true rfl) i_M w_1_111 rfl,
  List.forall_mem_cons.mpr ⟨so_cV g_good d_M_begin_4 ⟨w_2_196, (Nat.le_of_ble_eq_true rfl), (Nat.le_of_ble_eq_true rfl), w_1_7, ⟨by decide, by decide⟩, by decide +kernel⟩ (rfl : vwCl[1]? = some (R_L, F_L, 2)) w_2_193 w_2_194 w_2_195 rfl,
  List.forall_mem_cons.mpr ⟨so_aload_n d_M_begin_7 rfl rfl,
  List.forall_mem_cons.mpr ⟨so_get d_M_begin_8 (rfl : vwCl[4]? = some (R_M, F_M, 5)) (Nat.le_of_ble_eq_true rfl) i_M w_1_114 rfl,
  List.forall_mem_cons.mpr ⟨so_cV g_good d_M_begin_11 ⟨w_2_196, (Nat.le_of_ble_eq_true rfl), (Nat.le_of_ble_eq_true rfl), w_1_7, ⟨by decide, by decide⟩, by decide +kernel⟩ (rfl : vwCl[1]? = some (R_L, F_L, 2)) w_2_193 w_2_194 w_2_195 rfl,
  List.forall_mem_cons.mpr ⟨so_aload_n d_M_begin_14 rfl rfl,
  List.forall_mem_cons.mpr ⟨so_get d_M_begin_15 (rfl : vwCl[4]? = some (R_M, F_M, 5)) (Nat.le_of_ble_eq_true rfl) i_M w_1_117 rfl,
  List.forall_mem_cons.mpr ⟨so_cV g_good d_M_begin_18 ⟨w_2_200, (Nat.le_of_ble_eq_true rfl), (Nat.le_of_ble_eq_true rfl), w_1_8, ⟨by decide, by decide⟩, by decide +kernel⟩ (rfl : vwCl[3]? = some (R_V, F_V, 1)) w_2_197 w_2_198 w_2_199 rfl,
  List.forall_mem_cons.mpr ⟨so_aload_n d_M_begin_21 rfl rfl,
  List.forall_mem_cons.mpr ⟨so_iconst (by decide) d_M_begin_22 rfl,
  List.forall_mem_cons.mpr ⟨so_put ft_M d_M_begin_23 (rfl : vwCl[4]? = some (R_M, F_M, 5)) (Nat.le_of_ble_eq_true rfl) i_M w_1_120 tk_M n_M rfl rfl rfl,
  List.forall_mem_cons.mpr ⟨so_aload_n d_M_begin_26 rfl rfl,
  List.forall_mem_cons.mpr ⟨so_iload_n d_M_begin_27 rfl rfl,
  List.forall_mem_cons.mpr ⟨so_put ft_M d_M_begin_28 (rfl : vwCl[4]? = some (R_M, F_M, 5)) (Nat.le_of_ble_eq_true rfl) i_M w_1_123 tk_M n_M rfl rfl rfl,
  List.forall_mem_cons.mpr ⟨so_vret d_M_begin_31 rfl,
  fun _ h => absurd h List.not_mem_nil⟩⟩⟩⟩⟩⟩⟩⟩⟩⟩⟩⟩⟩⟩⟩⟩
def cd_M_begin : Nat → g_T := g_chk [(31, cd_M_begin_0)]
theorem ok_M_begin : ∀ pc, g_S (J_M_begin) pc (cd_M_begin pc) := g_chk_ok <|
  List.forall_mem_cons.mpr ⟨ok_M_begin_0,
  fun _ h => absurd h List.not_mem_nil⟩
abbrev J_B_owner : g_J := (y_B_owner, prog_2_method_7_code, 1, (some .int), (0, 0), [], none)
theorem d_B_owner_0 : decode prog_2_method_7_code 0 = .ok (.aload_n 0, 1) := by decide +kernel
theorem d_B_owner_1 : decode prog_2_method_7_code 1 = .ok (.getfield 29, 3) := by decide +kernel
theorem d_B_owner_4 : decode prog_2_method_7_code 4 = .ok (.ireturn, 1) := by decide +kernel
def cd_B_owner_0 : Nat → g_T := g_tab [(0, tr_ald 0 1), (1, tr_get 2 3 4), (4, tr_ri)]
set_option maxRecDepth 100000 in
theorem ok_B_owner_0 : ∀ pc, g_S (J_B_owner) pc (cd_B_owner_0 pc) := g_tab_ok <|
  List.forall_mem_cons.mpr ⟨so_aload_n d_B_owner_0 rfl rfl,
  List.forall_mem_cons.mpr ⟨so_get d_B_owner_1 (rfl : vwCl[2]? = some (R_B, F_B, 5)) (Nat.le_of_ble_eq_true rfl) i_B w_1_59 rfl,
  List.forall_mem_cons.mpr ⟨so_iret d_B_owner_4 rfl,
  fun _ h => absurd h List.not_mem_nil⟩⟩⟩
def cd_B_owner : Nat → g_T := g_chk [(4, cd_B_owner_0)]
theorem ok_B_owner : ∀ pc, g_S (J_B_owner) pc (cd_B_owner pc) := g_chk_ok <|
  List.forall_mem_cons.mpr ⟨ok_B_owner_0,
  fun _ h => absurd h List.not_mem_nil⟩
abbrev J_B_kind : g_J := (y_B_kind, prog_2_method_9_code, 2, (some .int), (1, 21), [], none)
theorem d_B_kind_0 : decode prog_2_method_9_code 0 = .ok (.aload_n 0, 1) := by decide +kernel
theorem d_B_kind_1 : decode prog_2_method_9_code 1 = .ok (.getfield 14, 3) := by decide +kernel
theorem d_B_kind_4 : decode prog_2_method_9_code 4 = .ok (.iload_n 1, 1) := by decide +kernel
theorem d_B_kind_5 : decode prog_2_method_9_code 5 = .ok (.invokevirtual 48, 3) := by decide +kernel
theorem d_B_kind_8 : decode prog_2_method_9_code 8 = .ok (.ireturn, 1) := by decide +kernel
def cd_B_kind_0 : Nat → g_T := g_tab [(0, tr_ald 0 1), (1, tr_get 2 0 4), (4, tr_ild 1 5), (5, tr_cV J_I_at 0 1 8), (8, tr_ri)]
set_option maxRecDepth 100000 in
theorem ok_B_kind_0 : ∀ pc, g_S (J_B_kind) pc (cd_B_kind_0 pc) := g_tab_ok <|
  List.forall_mem_cons.mpr ⟨so_aload_n d_B_kind_0 rfl rfl,
  List.forall_mem_cons.mpr ⟨so_get d_B_kind_1 (rfl : vwCl[2]? = some (R_B, F_B, 5)) (Nat.le_of_ble_eq_true rfl) i_B w_1_56 rfl,
  List.forall_mem_cons.mpr ⟨so_iload_n d_B_kind_4 rfl rfl,
  List.forall_mem_cons.mpr ⟨so_cV g_good d_B_kind_5 ⟨w_2_151, (Nat.le_of_ble_eq_true rfl), (Nat.le_of_ble_eq_true rfl), w_1_2, ⟨by decide, by decide⟩, by decide +kernel⟩ (rfl : vwCl[0]? = some (R_I, F_I, 2)) w_2_216 w_2_149 w_2_150 rfl,
  List.forall_mem_cons.mpr ⟨so_iret d_B_kind_8 rfl,
  fun _ h => absurd h List.not_mem_nil⟩⟩⟩⟩⟩
def cd_B_kind : Nat → g_T := g_chk [(8, cd_B_kind_0)]
theorem ok_B_kind : ∀ pc, g_S (J_B_kind) pc (cd_B_kind pc) := g_chk_ok <|
  List.forall_mem_cons.mpr ⟨ok_B_kind_0,
  fun _ h => absurd h List.not_mem_nil⟩
abbrev J_B_a : g_J := (y_B_a, prog_2_method_10_code, 2, (some .int), (1, 21), [], none)
theorem d_B_a_0 : decode prog_2_method_10_code 0 = .ok (.aload_n 0, 1) := by decide +kernel
theorem d_B_a_1 : decode prog_2_method_10_code 1 = .ok (.getfield 20, 3) := by decide +kernel
theorem d_B_a_4 : decode prog_2_method_10_code 4 = .ok (.iload_n 1, 1) := by decide +kernel
theorem d_B_a_5 : decode prog_2_method_10_code 5 = .ok (.invokevirtual 48, 3) := by decide +kernel
theorem d_B_a_8 : decode prog_2_method_10_code 8 = .ok (.ireturn, 1) := by decide +kernel
def cd_B_a_0 : Nat → g_T := g_tab [(0, tr_ald 0 1), (1, tr_get 2 1 4), (4, tr_ild 1 5), (5, tr_cV J_I_at 0 1 8), (8, tr_ri)]
set_option maxRecDepth 100000 in
theorem ok_B_a_0 : ∀ pc, g_S (J_B_a) pc (cd_B_a_0 pc) := g_tab_ok <|
  List.forall_mem_cons.mpr ⟨so_aload_n d_B_a_0 rfl rfl,
  List.forall_mem_cons.mpr ⟨so_get d_B_a_1 (rfl : vwCl[2]? = some (R_B, F_B, 5)) (Nat.le_of_ble_eq_true rfl) i_B w_1_57 rfl,
  List.forall_mem_cons.mpr ⟨so_iload_n d_B_a_4 rfl rfl,
  List.forall_mem_cons.mpr ⟨so_cV g_good d_B_a_5 ⟨w_2_151, (Nat.le_of_ble_eq_true rfl), (Nat.le_of_ble_eq_true rfl), w_1_2, ⟨by decide, by decide⟩, by decide +kernel⟩ (rfl : vwCl[0]? = some (R_I, F_I, 2)) w_2_216 w_2_149 w_2_150 rfl,
  List.forall_mem_cons.mpr ⟨so_iret d_B_a_8 rfl,
  fun _ h => absurd h List.not_mem_nil⟩⟩⟩⟩⟩
def cd_B_a : Nat → g_T := g_chk [(8, cd_B_a_0)]
theorem ok_B_a : ∀ pc, g_S (J_B_a) pc (cd_B_a pc) := g_chk_ok <|
  List.forall_mem_cons.mpr ⟨ok_B_a_0,
  fun _ h => absurd h List.not_mem_nil⟩
abbrev J_B_b : g_J := (y_B_b, prog_2_method_11_code, 2, (some .int), (1, 21), [], none)
theorem d_B_b_0 : decode prog_2_method_11_code 0 = .ok (.aload_n 0, 1) := by decide +kernel
theorem d_B_b_1 : decode prog_2_method_11_code 1 = .ok (.getfield 23, 3) := by decide +kernel
theorem d_B_b_4 : decode prog_2_method_11_code 4 = .ok (.iload_n 1, 1) := by decide +kernel
theorem d_B_b_5 : decode prog_2_method_11_code 5 = .ok (.invokevirtual 48, 3) := by decide +kernel
theorem d_B_b_8 : decode prog_2_method_11_code 8 = .ok (.ireturn, 1) := by decide +kernel
def cd_B_b_0 : Nat → g_T := g_tab [(0, tr_ald 0 1), (1, tr_get 2 2 4), (4, tr_ild 1 5), (5, tr_cV J_I_at 0 1 8), (8, tr_ri)]
set_option maxRecDepth 100000 in
theorem ok_B_b_0 : ∀ pc, g_S (J_B_b) pc (cd_B_b_0 pc) := g_tab_ok <|
  List.forall_mem_cons.mpr ⟨so_aload_n d_B_b_0 rfl rfl,
  List.forall_mem_cons.mpr ⟨so_get d_B_b_1 (rfl : vwCl[2]? = some (R_B, F_B, 5)) (Nat.le_of_ble_eq_true rfl) i_B w_1_58 rfl,
  List.forall_mem_cons.mpr ⟨so_iload_n d_B_b_4 rfl rfl,
  List.forall_mem_cons.mpr ⟨so_cV g_good d_B_b_5 ⟨w_2_151, (Nat.le_of_ble_eq_true rfl), (Nat.le_of_ble_eq_true rfl), w_1_2, ⟨by decide, by decide⟩, by decide +kernel⟩ (rfl : vwCl[0]? = some (R_I, F_I, 2)) w_2_216 w_2_149 w_2_150 rfl,
  List.forall_mem_cons.mpr ⟨so_iret d_B_b_8 rfl,
  fun _ h => absurd h List.not_mem_nil⟩⟩⟩⟩⟩
def cd_B_b : Nat → g_T := g_chk [(8, cd_B_b_0)]
theorem ok_B_b : ∀ pc, g_S (J_B_b) pc (cd_B_b pc) := g_chk_ok <|
  List.forall_mem_cons.mpr ⟨ok_B_b_0,
  fun _ h => absurd h List.not_mem_nil⟩
abbrev J_L_expected : g_J := (y_L_expected, prog_8_method_4_code, 1, (some .int), (0, 0), [], none)
theorem d_L_expected_0 : decode prog_8_method_4_code 0 = .ok (.aload_n 0, 1) := by decide +kernel
theorem d_L_expected_1 : decode prog_8_method_4_code 1 = .ok (.getfield 7, 3) := by decide +kernel
theorem d_L_expected_4 : decode prog_8_method_4_code 4 = .ok (.aload_n 0, 1) := by decide +kernel
theorem d_L_expected_5 : decode prog_8_method_4_code 5 = .ok (.getfield 13, 3) := by decide +kernel
theorem d_L_expected_8 : decode prog_8_method_4_code 8 = .ok (.iadd, 1) := by decide +kernel
theorem d_L_expected_9 : decode prog_8_method_4_code 9 = .ok (.ireturn, 1) := by decide +kernel
def cd_L_expected_0 : Nat → g_T := g_tab [(0, tr_ald 0 1), (1, tr_get 1 0 4), (4, tr_ald 0 5), (5, tr_get 1 1 8), (8, tr_ii (fun x y => x + y) 9), (9, tr_ri)]
set_option maxRecDepth 100000 in
theorem ok_L_expected_0 : ∀ pc, g_S (J_L_expected) pc (cd_L_expected_0 pc) := g_tab_ok <|
  List.forall_mem_cons.mpr ⟨so_aload_n d_L_expected_0 rfl rfl,
  List.forall_mem_cons.mpr ⟨so_get d_L_expected_1 (rfl : vwCl[1]? = some (R_L, F_L, 2)) (Nat.le_of_ble_eq_true rfl) i_L w_1_92 rfl,
  List.forall_mem_cons.mpr ⟨so_aload_n d_L_expected_4 rfl rfl,
  List.forall_mem_cons.mpr ⟨so_get d_L_expected_5 (rfl : vwCl[1]? = some (R_L, F_L, 2)) (Nat.le_of_ble_eq_true rfl) i_L w_1_93 rfl,
  List.forall_mem_cons.mpr ⟨so_iadd d_L_expected_8 rfl,
  List.forall_mem_cons.mpr ⟨so_iret d_L_expected_9 rfl,
  fun _ h => absurd h List.not_mem_nil⟩⟩⟩⟩⟩⟩
def cd_L_expected : Nat → g_T := g_chk [(9, cd_L_expected_0)]
theorem ok_L_expected : ∀ pc, g_S (J_L_expected) pc (cd_L_expected pc) := g_chk_ok <|
  List.forall_mem_cons.mpr ⟨ok_L_expected_0,
  fun _ h => absurd h List.not_mem_nil⟩
abbrev J_L_differenceTo : g_J := (y_L_differenceTo, prog_8_method_6_code, 2, (some .int), (0, 0), [], none)
theorem d_L_differenceTo_0 : decode prog_8_method_6_code 0 = .ok (.iload_n 1, 1) := by decide +kernel
theorem d_L_differenceTo_1 : decode prog_8_method_6_code 1 = .ok (.aload_n 0, 1) := by decide +kernel
theorem d_L_differenceTo_2 : decode prog_8_method_6_code 2 = .ok (.getfield 7, 3) := by decide +kernel
theorem d_L_differenceTo_5 : decode prog_8_method_6_code 5 = .ok (.isub, 1) := by decide +kernel
theorem d_L_differenceTo_6 : decode prog_8_method_6_code 6 = .ok (.ireturn, 1) := by decide +kernel
def cd_L_differenceTo_0 : Nat → g_T := g_tab [(0, tr_ild 1 1), (1, tr_ald 0 2), (2, tr_get 1 0 5), (5, tr_ii (fun x y => x - y) 6), (6, tr_ri)]
set_option maxRecDepth 100000 in
theorem ok_L_differenceTo_0 : ∀ pc, g_S (J_L_differenceTo) pc (cd_L_differenceTo_0 pc) := g_tab_ok <|
  List.forall_mem_cons.mpr ⟨so_iload_n d_L_differenceTo_0 rfl rfl,
  List.forall_mem_cons.mpr ⟨so_aload_n d_L_differenceTo_1 rfl rfl,
  List.forall_mem_cons.mpr ⟨so_get d_L_differenceTo_2 (rfl : vwCl[1]? = some (R_L, F_L, 2)) (Nat.le_of_ble_eq_true rfl) i_L w_1_92 rfl,
  List.forall_mem_cons.mpr ⟨so_isub d_L_differenceTo_5 rfl,
  List.forall_mem_cons.mpr ⟨so_iret d_L_differenceTo_6 rfl,
  fun _ h => absurd h List.not_mem_nil⟩⟩⟩⟩⟩
def cd_L_differenceTo : Nat → g_T := g_chk [(6, cd_L_differenceTo_0)]
theorem ok_L_differenceTo : ∀ pc, g_S (J_L_differenceTo) pc (cd_L_differenceTo pc) := g_chk_ok <|
  List.forall_mem_cons.mpr ⟨ok_L_differenceTo_0,
  fun _ h => absurd h List.not_mem_nil⟩
abbrev J_L_goTo : g_J := (y_L_goTo, prog_8_method_7_code, 2, none, (0, 0), [], none)
theorem d_L_goTo_0 : decode prog_8_method_7_code 0 = .ok (.aload_n 0, 1) := by decide +kernel
theorem d_L_goTo_1 : decode prog_8_method_7_code 1 = .ok (.iload_n 1, 1) := by decide +kernel
theorem d_L_goTo_2 : decode prog_8_method_7_code 2 = .ok (.aload_n 0, 1) := by decide +kernel
theorem d_L_goTo_3 : decode prog_8_method_7_code 3 = .ok (.getfield 7, 3) := by decide +kernel
theorem d_L_goTo_6 : decode prog_8_method_7_code 6 = .ok (.isub, 1) := by decide +kernel
theorem d_L_goTo_7 : decode prog_8_method_7_code 7 = .ok (.putfield 13, 3) := by decide +kernel
theorem d_L_goTo_10 : decode prog_8_method_7_code 10 = .ok (.aload_n 0, 1) := by decide +kernel
theorem d_L_goTo_11 : decode prog_8_method_7_code 11 = .ok (.iload_n 1, 1) := by decide +kernel
theorem d_L_goTo_12 : decode prog_8_method_7_code 12 = .ok (.putfield 7, 3) := by decide +kernel
theorem d_L_goTo_15 : decode prog_8_method_7_code 15 = .ok (.return_, 1) := by decide +kernel
def cd_L_goTo_0 : Nat → g_T := g_tab [(0, tr_ald 0 1), (1, tr_ild 1 2), (2, tr_ald 0 3), (3, tr_get 1 0 6), (6, tr_ii (fun x y => x - y) 7), (7, tr_put 1 1 (.int) 10), (10, tr_ald 0 11), (11, tr_ild 1 12), (12, tr_put 1 0 (.int) 15), (15, tr_rv)]
set_option maxRecDepth 100000 in
theorem ok_L_goTo_0 : ∀ pc, g_S (J_L_goTo) pc (cd_L_goTo_0 pc) := g_tab_ok <|
  List.forall_mem_cons.mpr ⟨so_aload_n d_L_goTo_0 rfl rfl,
  List.forall_mem_cons.mpr ⟨so_iload_n d_L_goTo_1 rfl rfl,
  List.forall_mem_cons.mpr ⟨so_aload_n d_L_goTo_2 rfl rfl,
  List.forall_mem_cons.mpr ⟨so_get d_L_goTo_3 (rfl : vwCl[1]? = some (R_L, F_L, 2)) (Nat.le_of_ble_eq_true rfl) i_L w_1_92 rfl,
  List.forall_mem_cons.mpr ⟨so_isub d_L_goTo_6 rfl,
  List.forall_mem_cons.mpr ⟨so_put ft_L d_L_goTo_7 (rfl : vwCl[1]? = some (R_L, F_L, 2)) (Nat.le_of_ble_eq_true rfl) i_L w_1_93 tk_L n_L rfl rfl rfl,
  List.forall_mem_cons.mpr ⟨so_aload_n d_L_goTo_10 rfl rfl,
  List.forall_mem_cons.mpr ⟨so_iload_n d_L_goTo_11 rfl rfl,
  List.forall_mem_cons.mpr ⟨so_put ft_L d_L_goTo_12 (rfl : vwCl[1]? = some (R_L, F_L, 2)) (Nat.le_of_ble_eq_true rfl) i_L w_1_92 tk_L n_L rfl rfl rfl,
  List.forall_mem_cons.mpr ⟨so_vret d_L_goTo_15 rfl,
  fun _ h => absurd h List.not_mem_nil⟩⟩⟩⟩⟩⟩⟩⟩⟩⟩
def cd_L_goTo : Nat → g_T := g_chk [(15, cd_L_goTo_0)]
theorem ok_L_goTo : ∀ pc, g_S (J_L_goTo) pc (cd_L_goTo pc) := g_chk_ok <|
  List.forall_mem_cons.mpr ⟨ok_L_goTo_0,
  fun _ h => absurd h List.not_mem_nil⟩
abbrev J_V_numberOfValue : g_J := (y_V_numberOfValue, prog_5_method_5_code, 3, (some .int), (1, 21), [], none)
theorem d_V_numberOfValue_0 : decode prog_5_method_5_code 0 = .ok (.iconst 0, 1) := by decide +kernel
theorem d_V_numberOfValue_1 : decode prog_5_method_5_code 1 = .ok (.istore_n 2, 1) := by decide +kernel
theorem d_V_numberOfValue_2 : decode prog_5_method_5_code 2 = .ok (.iload_n 2, 1) := by decide +kernel
theorem d_V_numberOfValue_3 : decode prog_5_method_5_code 3 = .ok (.aload_n 0, 1) := by decide +kernel
theorem d_V_numberOfValue_4 : decode prog_5_method_5_code 4 = .ok (.getfield 14, 3) := by decide +kernel
theorem d_V_numberOfValue_7 : decode prog_5_method_5_code 7 = .ok (.invokevirtual 31, 3) := by decide +kernel
theorem d_V_numberOfValue_10 : decode prog_5_method_5_code 10 = .ok (.if_icmp .ge 23, 3) := by decide +kernel
theorem d_V_numberOfValue_13 : decode prog_5_method_5_code 13 = .ok (.aload_n 0, 1) := by decide +kernel
theorem d_V_numberOfValue_14 : decode prog_5_method_5_code 14 = .ok (.getfield 14, 3) := by decide +kernel
theorem d_V_numberOfValue_17 : decode prog_5_method_5_code 17 = .ok (.iload_n 2, 1) := by decide +kernel
theorem d_V_numberOfValue_18 : decode prog_5_method_5_code 18 = .ok (.invokevirtual 27, 3) := by decide +kernel
theorem d_V_numberOfValue_21 : decode prog_5_method_5_code 21 = .ok (.iload_n 1, 1) := by decide +kernel
theorem d_V_numberOfValue_22 : decode prog_5_method_5_code 22 = .ok (.if_icmp .ne 5, 3) := by decide +kernel
theorem d_V_numberOfValue_25 : decode prog_5_method_5_code 25 = .ok (.iload_n 2, 1) := by decide +kernel
theorem d_V_numberOfValue_26 : decode prog_5_method_5_code 26 = .ok (.ireturn, 1) := by decide +kernel
theorem d_V_numberOfValue_27 : decode prog_5_method_5_code 27 = .ok (.iinc 2 1, 3) := by decide +kernel
theorem d_V_numberOfValue_30 : decode prog_5_method_5_code 30 = .ok (.goto (-28), 3) := by decide +kernel
theorem d_V_numberOfValue_33 : decode prog_5_method_5_code 33 = .ok (.iconst (-1), 1) := by decide +kernel
theorem d_V_numberOfValue_34 : decode prog_5_method_5_code 34 = .ok (.ireturn, 1) := by decide +kernel
def cd_V_numberOfValue_0 : Nat → g_T := g_tab [(0, tr_cst (.int (0)) 1), (1, tr_ist 2 2), (2, tr_ild 2 3), (3, tr_ald 0 4), (4, tr_get 3 0 7), (7, tr_cV J_I_size 0 0 10), (10, tr_if2 (fun x y => y ≤ x) 33 13), (13, tr_ald 0 14), (14, tr_get 3 0 17), (17, tr_ild 2 18), (18, tr_cV J_I_at 0 1 21), (21, tr_ild 1 22), (22, tr_if2 (fun x y => ¬ x = y) 27 25), (25, tr_ild 2 26), (26, tr_ri), (27, tr_inc 2 (1) 30)]
set_option maxRecDepth 100000 in
theorem ok_V_numberOfValue_0 : ∀ pc, g_S (J_V_numberOfValue) pc (cd_V_numberOfValue_0 pc) := g_tab_ok <|
  List.forall_mem_cons.mpr ⟨so_iconst (by decide) d_V_numberOfValue_0 rfl,
  List.forall_mem_cons.mpr ⟨so_istore_n d_V_numberOfValue_1 rfl (Nat.le_of_ble_eq_true rfl) rfl,
  List.forall_mem_cons.mpr ⟨so_iload_n d_V_numberOfValue_2 rfl rfl,
  List.forall_mem_cons.mpr ⟨so_aload_n d_V_numberOfValue_3 rfl rfl,
  List.forall_mem_cons.mpr ⟨so_get d_V_numberOfValue_4 (rfl : vwCl[3]? = some (R_V, F_V, 1)) (Nat.le_of_ble_eq_true rfl) i_V w_1_107 rfl,
  List.forall_mem_cons.mpr ⟨so_cV g_good d_V_numberOfValue_7 ⟨w_2_28, (Nat.le_of_ble_eq_true rfl), (Nat.le_of_ble_eq_true rfl), w_1_2, ⟨by decide, by decide⟩, by decide +kernel⟩ (rfl : vwCl[0]? = some (R_I, F_I, 2)) w_3_31 w_2_26 w_2_27 rfl,
  List.forall_mem_cons.mpr ⟨so_icmp_ge d_V_numberOfValue_10 (by decide) rfl,
  List.forall_mem_cons.mpr ⟨so_aload_n d_V_numberOfValue_13 rfl rfl,
  List.forall_mem_cons.mpr ⟨so_get d_V_numberOfValue_14 (rfl : vwCl[3]? = some (R_V, F_V, 1)) (Nat.le_of_ble_eq_true rfl) i_V w_1_107 rfl,
  List.forall_mem_cons.mpr ⟨so_iload_n d_V_numberOfValue_17 rfl rfl,
  List.forall_mem_cons.mpr ⟨so_cV g_good d_V_numberOfValue_18 ⟨w_2_151, (Nat.le_of_ble_eq_true rfl), (Nat.le_of_ble_eq_true rfl), w_1_2, ⟨by decide, by decide⟩, by decide +kernel⟩ (rfl : vwCl[0]? = some (R_I, F_I, 2)) w_3_32 w_2_149 w_2_150 rfl,
  List.forall_mem_cons.mpr ⟨so_iload_n d_V_numberOfValue_21 rfl rfl,
  List.forall_mem_cons.mpr ⟨so_icmp_ne d_V_numberOfValue_22 (by decide) rfl,
  List.forall_mem_cons.mpr ⟨so_iload_n d_V_numberOfValue_25 rfl rfl,
  List.forall_mem_cons.mpr ⟨so_iret d_V_numberOfValue_26 rfl,
  List.forall_mem_cons.mpr ⟨so_iinc d_V_numberOfValue_27 (by decide) (Nat.le_of_ble_eq_true rfl) rfl,
  fun _ h => absurd h List.not_mem_nil⟩⟩⟩⟩⟩⟩⟩⟩⟩⟩⟩⟩⟩⟩⟩⟩
def cd_V_numberOfValue_1 : Nat → g_T := g_tab [(30, tr_goto 2), (33, tr_cst (.int (-1)) 34), (34, tr_ri)]
set_option maxRecDepth 100000 in
theorem ok_V_numberOfValue_1 : ∀ pc, g_S (J_V_numberOfValue) pc (cd_V_numberOfValue_1 pc) := g_tab_ok <|
  List.forall_mem_cons.mpr ⟨so_goto d_V_numberOfValue_30 (by decide),
  List.forall_mem_cons.mpr ⟨so_iconst (by decide) d_V_numberOfValue_33 rfl,
  List.forall_mem_cons.mpr ⟨so_iret d_V_numberOfValue_34 rfl,
  fun _ h => absurd h List.not_mem_nil⟩⟩⟩
def cd_V_numberOfValue : Nat → g_T := g_chk [(27, cd_V_numberOfValue_0), (34, cd_V_numberOfValue_1)]
theorem ok_V_numberOfValue : ∀ pc, g_S (J_V_numberOfValue) pc (cd_V_numberOfValue pc) := g_chk_ok <|
  List.forall_mem_cons.mpr ⟨ok_V_numberOfValue_0,
  List.forall_mem_cons.mpr ⟨ok_V_numberOfValue_1,
  fun _ h => absurd h List.not_mem_nil⟩⟩
abbrev J_I_set : g_J := (y_I_set, prog_3_method_5_code, 3, none, (0, 0), [], none)
theorem d_I_set_0 : decode prog_3_method_5_code 0 = .ok (.iload_n 1, 1) := by decide +kernel
theorem d_I_set_1 : decode prog_3_method_5_code 1 = .ok (.ifCond .lt 18, 3) := by decide +kernel
theorem d_I_set_4 : decode prog_3_method_5_code 4 = .ok (.iload_n 1, 1) := by decide +kernel
theorem d_I_set_5 : decode prog_3_method_5_code 5 = .ok (.aload_n 0, 1) := by decide +kernel
theorem d_I_set_6 : decode prog_3_method_5_code 6 = .ok (.getfield 21, 3) := by decide +kernel
theorem d_I_set_9 : decode prog_3_method_5_code 9 = .ok (.if_icmp .ge 10, 3) := by decide +kernel
theorem d_I_set_12 : decode prog_3_method_5_code 12 = .ok (.aload_n 0, 1) := by decide +kernel
theorem d_I_set_13 : decode prog_3_method_5_code 13 = .ok (.getfield 15, 3) := by decide +kernel
theorem d_I_set_16 : decode prog_3_method_5_code 16 = .ok (.iload_n 1, 1) := by decide +kernel
theorem d_I_set_17 : decode prog_3_method_5_code 17 = .ok (.iload_n 2, 1) := by decide +kernel
theorem d_I_set_18 : decode prog_3_method_5_code 18 = .ok (.iastore, 1) := by decide +kernel
theorem d_I_set_19 : decode prog_3_method_5_code 19 = .ok (.return_, 1) := by decide +kernel
def cd_I_set_0 : Nat → g_T := g_tab [(0, tr_ild 1 1), (1, tr_if1 (fun x => x < 0) 19 4), (4, tr_ild 1 5), (5, tr_ald 0 6), (6, tr_get 0 1 9), (9, tr_if2 (fun x y => y ≤ x) 19 12), (12, tr_ald 0 13), (13, tr_get 0 0 16), (16, tr_ild 1 17), (17, tr_ild 2 18), (18, tr_ias 19), (19, tr_rv)]
set_option maxRecDepth 100000 in
theorem ok_I_set_0 : ∀ pc, g_S (J_I_set) pc (cd_I_set_0 pc) := g_tab_ok <|
  List.forall_mem_cons.mpr ⟨so_iload_n d_I_set_0 rfl rfl,
  List.forall_mem_cons.mpr ⟨so_if_lt d_I_set_1 (by decide) rfl,
  List.forall_mem_cons.mpr ⟨so_iload_n d_I_set_4 rfl rfl,
  List.forall_mem_cons.mpr ⟨so_aload_n d_I_set_5 rfl rfl,
  List.forall_mem_cons.mpr ⟨so_get d_I_set_6 (rfl : vwCl[0]? = some (R_I, F_I, 2)) (Nat.le_of_ble_eq_true rfl) i_I w_1_37 rfl,
  List.forall_mem_cons.mpr ⟨so_icmp_ge d_I_set_9 (by decide) rfl,
  List.forall_mem_cons.mpr ⟨so_aload_n d_I_set_12 rfl rfl,
  List.forall_mem_cons.mpr ⟨so_get d_I_set_13 (rfl : vwCl[0]? = some (R_I, F_I, 2)) (Nat.le_of_ble_eq_true rfl) i_I w_1_36 rfl,
  List.forall_mem_cons.mpr ⟨so_iload_n d_I_set_16 rfl rfl,
  List.forall_mem_cons.mpr ⟨so_iload_n d_I_set_17 rfl rfl,
  List.forall_mem_cons.mpr ⟨so_iastore d_I_set_18 rfl,
  List.forall_mem_cons.mpr ⟨so_vret d_I_set_19 rfl,
  fun _ h => absurd h List.not_mem_nil⟩⟩⟩⟩⟩⟩⟩⟩⟩⟩⟩⟩
def cd_I_set : Nat → g_T := g_chk [(19, cd_I_set_0)]
theorem ok_I_set : ∀ pc, g_S (J_I_set) pc (cd_I_set pc) := g_chk_ok <|
  List.forall_mem_cons.mpr ⟨ok_I_set_0,
  fun _ h => absurd h List.not_mem_nil⟩
abbrev J_V_use : g_J := (y_V_use, prog_5_method_6_code, 5, none, (1, 22), [], none)
theorem d_V_use_0 : decode prog_5_method_6_code 0 = .ok (.iload_n 1, 1) := by decide +kernel
theorem d_V_use_1 : decode prog_5_method_6_code 1 = .ok (.istore_n 2, 1) := by decide +kernel
theorem d_V_use_2 : decode prog_5_method_6_code 2 = .ok (.iconst 0, 1) := by decide +kernel
theorem d_V_use_3 : decode prog_5_method_6_code 3 = .ok (.istore_n 3, 1) := by decide +kernel
theorem d_V_use_4 : decode prog_5_method_6_code 4 = .ok (.iload_n 3, 1) := by decide +kernel
theorem d_V_use_5 : decode prog_5_method_6_code 5 = .ok (.aload_n 0, 1) := by decide +kernel
theorem d_V_use_6 : decode prog_5_method_6_code 6 = .ok (.getfield 14, 3) := by decide +kernel
theorem d_V_use_9 : decode prog_5_method_6_code 9 = .ok (.invokevirtual 31, 3) := by decide +kernel
theorem d_V_use_12 : decode prog_5_method_6_code 12 = .ok (.if_icmp .ge 38, 3) := by decide +kernel
theorem d_V_use_15 : decode prog_5_method_6_code 15 = .ok (.aload_n 0, 1) := by decide +kernel
theorem d_V_use_16 : decode prog_5_method_6_code 16 = .ok (.getfield 14, 3) := by decide +kernel
theorem d_V_use_19 : decode prog_5_method_6_code 19 = .ok (.iload_n 3, 1) := by decide +kernel
theorem d_V_use_20 : decode prog_5_method_6_code 20 = .ok (.invokevirtual 27, 3) := by decide +kernel
theorem d_V_use_23 : decode prog_5_method_6_code 23 = .ok (.istore 4, 2) := by decide +kernel
theorem d_V_use_25 : decode prog_5_method_6_code 25 = .ok (.aload_n 0, 1) := by decide +kernel
theorem d_V_use_26 : decode prog_5_method_6_code 26 = .ok (.getfield 14, 3) := by decide +kernel
theorem d_V_use_29 : decode prog_5_method_6_code 29 = .ok (.iload_n 3, 1) := by decide +kernel
theorem d_V_use_30 : decode prog_5_method_6_code 30 = .ok (.iload_n 2, 1) := by decide +kernel
theorem d_V_use_31 : decode prog_5_method_6_code 31 = .ok (.invokevirtual 35, 3) := by decide +kernel
theorem d_V_use_34 : decode prog_5_method_6_code 34 = .ok (.iload 4, 2) := by decide +kernel
theorem d_V_use_36 : decode prog_5_method_6_code 36 = .ok (.iload_n 1, 1) := by decide +kernel
theorem d_V_use_37 : decode prog_5_method_6_code 37 = .ok (.if_icmp .ne 4, 3) := by decide +kernel
theorem d_V_use_40 : decode prog_5_method_6_code 40 = .ok (.return_, 1) := by decide +kernel
theorem d_V_use_41 : decode prog_5_method_6_code 41 = .ok (.iload 4, 2) := by decide +kernel
theorem d_V_use_43 : decode prog_5_method_6_code 43 = .ok (.istore_n 2, 1) := by decide +kernel
theorem d_V_use_44 : decode prog_5_method_6_code 44 = .ok (.iinc 3 1, 3) := by decide +kernel
theorem d_V_use_47 : decode prog_5_method_6_code 47 = .ok (.goto (-43), 3) := by decide +kernel
theorem d_V_use_50 : decode prog_5_method_6_code 50 = .ok (.aload_n 0, 1) := by decide +kernel
theorem d_V_use_51 : decode prog_5_method_6_code 51 = .ok (.getfield 14, 3) := by decide +kernel
theorem d_V_use_54 : decode prog_5_method_6_code 54 = .ok (.iload_n 2, 1) := by decide +kernel
theorem d_V_use_55 : decode prog_5_method_6_code 55 = .ok (.invokevirtual 39, 3) := by decide +kernel
theorem d_V_use_58 : decode prog_5_method_6_code 58 = .ok (.pop, 1) := by decide +kernel
theorem d_V_use_59 : decode prog_5_method_6_code 59 = .ok (.return_, 1) := by decide +kernel
def cd_V_use_0 : Nat → g_T := g_tab [(0, tr_ild 1 1), (1, tr_ist 2 2), (2, tr_cst (.int (0)) 3), (3, tr_ist 3 4), (4, tr_ild 3 5), (5, tr_ald 0 6), (6, tr_get 3 0 9), (9, tr_cV J_I_size 0 0 12), (12, tr_if2 (fun x y => y ≤ x) 50 15), (15, tr_ald 0 16), (16, tr_get 3 0 19), (19, tr_ild 3 20), (20, tr_cV J_I_at 0 1 23), (23, tr_ist 4 25), (25, tr_ald 0 26), (26, tr_get 3 0 29)]
set_option maxRecDepth 100000 in
theorem ok_V_use_0 : ∀ pc, g_S (J_V_use) pc (cd_V_use_0 pc) := g_tab_ok <|
  List.forall_mem_cons.mpr ⟨so_iload_n d_V_use_0 rfl rfl,
  List.forall_mem_cons.mpr ⟨so_istore_n d_V_use_1 rfl (Nat.le_of_ble_eq_true rfl) rfl,
  List.forall_mem_cons.mpr ⟨so_iconst (by decide) d_V_use_2 rfl,
  List.forall_mem_cons.mpr ⟨so_istore_n d_V_use_3 rfl (Nat.le_of_ble_eq_true rfl) rfl,
  List.forall_mem_cons.mpr ⟨so_iload_n d_V_use_4 rfl rfl,
  List.forall_mem_cons.mpr ⟨so_aload_n d_V_use_5 rfl rfl,
  List.forall_mem_cons.mpr ⟨so_get d_V_use_6 (rfl : vwCl[3]? = some (R_V, F_V, 1)) (Nat.le_of_ble_eq_true rfl) i_V w_1_107 rfl,
  List.forall_mem_cons.mpr ⟨so_cV g_good d_V_use_9 ⟨w_2_28, (Nat.le_of_ble_eq_true rfl), (Nat.le_of_ble_eq_true rfl), w_1_2, ⟨by decide, by decide⟩, by decide +kernel⟩ (rfl : vwCl[0]? = some (R_I, F_I, 2)) w_3_31 w_2_26 w_2_27 rfl,
  List.forall_mem_cons.mpr ⟨so_icmp_ge d_V_use_12 (by decide) rfl,
  List.forall_mem_cons.mpr ⟨so_aload_n d_V_use_15 rfl rfl,
  List.forall_mem_cons.mpr ⟨so_get d_V_use_16 (rfl : vwCl[3]? = some (R_V, F_V, 1)) (Nat.le_of_ble_eq_true rfl) i_V w_1_107 rfl,
  List.forall_mem_cons.mpr ⟨so_iload_n d_V_use_19 rfl rfl,
  List.forall_mem_cons.mpr ⟨so_cV g_good d_V_use_20 ⟨w_2_151, (Nat.le_of_ble_eq_true rfl), (Nat.le_of_ble_eq_true rfl), w_1_2, ⟨by decide, by decide⟩, by decide +kernel⟩ (rfl : vwCl[0]? = some (R_I, F_I, 2)) w_3_32 w_2_149 w_2_150 rfl,
  List.forall_mem_cons.mpr ⟨so_istore d_V_use_23 (Nat.le_of_ble_eq_true rfl) rfl,
  List.forall_mem_cons.mpr ⟨so_aload_n d_V_use_25 rfl rfl,
  List.forall_mem_cons.mpr ⟨so_get d_V_use_26 (rfl : vwCl[3]? = some (R_V, F_V, 1)) (Nat.le_of_ble_eq_true rfl) i_V w_1_107 rfl,
  fun _ h => absurd h List.not_mem_nil⟩⟩⟩⟩⟩⟩⟩⟩⟩⟩⟩⟩⟩⟩⟩⟩
def cd_V_use_1 : Nat → g_T := g_tab [(29, tr_ild 3 30), (30, tr_ild 2 31), (31, tr_cV J_I_set 0 2 34), (34, tr_ild 4 36), (36, tr_ild 1 37), (37, tr_if2 (fun x y => ¬ x = y) 41 40), (40, tr_rv), (41, tr_ild 4 43), (43, tr_ist 2 44), (44, tr_inc 3 (1) 47), (47, tr_goto 4), (50, tr_ald 0 51), (51, tr_get 3 0 54), (54, tr_ild 2 55), (55, tr_cV J_I_add 0 1 58), (58, tr_pop 59)]
set_option maxRecDepth 100000 in
theorem ok_V_use_1 : ∀ pc, g_S (J_V_use) pc (cd_V_use_1 pc) := g_tab_ok <|
  List.forall_mem_cons.mpr ⟨so_iload_n d_V_use_29 rfl rfl,
  List.forall_mem_cons.mpr ⟨so_iload_n d_V_use_30 rfl rfl,
  List.forall_mem_cons.mpr ⟨so_cV g_good d_V_use_31 ⟨w_3_40, (Nat.le_of_ble_eq_true rfl), (Nat.le_of_ble_eq_true rfl), w_1_2, ⟨by decide, by decide⟩, by decide +kernel⟩ (rfl : vwCl[0]? = some (R_I, F_I, 2)) w_3_37 w_3_38 w_3_39 rfl,
  List.forall_mem_cons.mpr ⟨so_iload d_V_use_34 rfl,
  List.forall_mem_cons.mpr ⟨so_iload_n d_V_use_36 rfl rfl,
  List.forall_mem_cons.mpr ⟨so_icmp_ne d_V_use_37 (by decide) rfl,
  List.forall_mem_cons.mpr ⟨so_vret d_V_use_40 rfl,
  List.forall_mem_cons.mpr ⟨so_iload d_V_use_41 rfl,
  List.forall_mem_cons.mpr ⟨so_istore_n d_V_use_43 rfl (Nat.le_of_ble_eq_true rfl) rfl,
  List.forall_mem_cons.mpr ⟨so_iinc d_V_use_44 (by decide) (Nat.le_of_ble_eq_true rfl) rfl,
  List.forall_mem_cons.mpr ⟨so_goto d_V_use_47 (by decide),
  List.forall_mem_cons.mpr ⟨so_aload_n d_V_use_50 rfl rfl,
  List.forall_mem_cons.mpr ⟨so_get d_V_use_51 (rfl : vwCl[3]? = some (R_V, F_V, 1)) (Nat.le_of_ble_eq_true rfl) i_V w_1_107 rfl,
  List.forall_mem_cons.mpr ⟨so_iload_n d_V_use_54 rfl rfl,
  List.forall_mem_cons.mpr ⟨so_cV g_good d_V_use_55 ⟨w_1_47, (Nat.le_of_ble_eq_true rfl), (Nat.le_of_ble_eq_true rfl), w_1_2, ⟨by decide, by decide⟩, by decide +kernel⟩ (rfl : vwCl[0]? = some (R_I, F_I, 2)) w_3_41 w_1_45 w_1_46 rfl,
  List.forall_mem_cons.mpr ⟨so_pop d_V_use_58 rfl,
  fun _ h => absurd h List.not_mem_nil⟩⟩⟩⟩⟩⟩⟩⟩⟩⟩⟩⟩⟩⟩⟩⟩
def cd_V_use_2 : Nat → g_T := g_tab [(59, tr_rv)]
set_option maxRecDepth 100000 in
theorem ok_V_use_2 : ∀ pc, g_S (J_V_use) pc (cd_V_use_2 pc) := g_tab_ok <|
  List.forall_mem_cons.mpr ⟨so_vret d_V_use_59 rfl,
  fun _ h => absurd h List.not_mem_nil⟩
def cd_V_use : Nat → g_T := g_chk [(26, cd_V_use_0), (58, cd_V_use_1), (59, cd_V_use_2)]
theorem ok_V_use : ∀ pc, g_S (J_V_use) pc (cd_V_use pc) := g_chk_ok <|
  List.forall_mem_cons.mpr ⟨ok_V_use_0,
  List.forall_mem_cons.mpr ⟨ok_V_use_1,
  List.forall_mem_cons.mpr ⟨ok_V_use_2,
  fun _ h => absurd h List.not_mem_nil⟩⟩⟩
abbrev J_B_clear : g_J := (y_B_clear, prog_2_method_3_code, 1, none, (1, 21), [], none)
theorem d_B_clear_0 : decode prog_2_method_3_code 0 = .ok (.aload_n 0, 1) := by decide +kernel
theorem d_B_clear_1 : decode prog_2_method_3_code 1 = .ok (.getfield 14, 3) := by decide +kernel
theorem d_B_clear_4 : decode prog_2_method_3_code 4 = .ok (.iconst 0, 1) := by decide +kernel
theorem d_B_clear_5 : decode prog_2_method_3_code 5 = .ok (.invokevirtual 36, 3) := by decide +kernel
theorem d_B_clear_8 : decode prog_2_method_3_code 8 = .ok (.aload_n 0, 1) := by decide +kernel
theorem d_B_clear_9 : decode prog_2_method_3_code 9 = .ok (.getfield 20, 3) := by decide +kernel
theorem d_B_clear_12 : decode prog_2_method_3_code 12 = .ok (.iconst 0, 1) := by decide +kernel
theorem d_B_clear_13 : decode prog_2_method_3_code 13 = .ok (.invokevirtual 36, 3) := by decide +kernel
theorem d_B_clear_16 : decode prog_2_method_3_code 16 = .ok (.aload_n 0, 1) := by decide +kernel
theorem d_B_clear_17 : decode prog_2_method_3_code 17 = .ok (.getfield 23, 3) := by decide +kernel
theorem d_B_clear_20 : decode prog_2_method_3_code 20 = .ok (.iconst 0, 1) := by decide +kernel
theorem d_B_clear_21 : decode prog_2_method_3_code 21 = .ok (.invokevirtual 36, 3) := by decide +kernel
theorem d_B_clear_24 : decode prog_2_method_3_code 24 = .ok (.return_, 1) := by decide +kernel
def cd_B_clear_0 : Nat → g_T := g_tab [(0, tr_ald 0 1), (1, tr_get 2 0 4), (4, tr_cst (.int (0)) 5), (5, tr_cV J_I_shorten 0 1 8), (8, tr_ald 0 9), (9, tr_get 2 1 12), (12, tr_cst (.int (0)) 13), (13, tr_cV J_I_shorten 0 1 16), (16, tr_ald 0 17), (17, tr_get 2 2 20), (20, tr_cst (.int (0)) 21), (21, tr_cV J_I_shorten 0 1 24), (24, tr_rv)]
set_option maxRecDepth 100000 in
theorem ok_B_clear_0 : ∀ pc, g_S (J_B_clear) pc (cd_B_clear_0 pc) := g_tab_ok <|
  List.forall_mem_cons.mpr ⟨so_aload_n d_B_clear_0 rfl rfl,
  List.forall_mem_cons.mpr ⟨so_get d_B_clear_1 (rfl : vwCl[2]? = some (R_B, F_B, 5)) (Nat.le_of_ble_eq_true rfl) i_B w_1_56 rfl,
  List.forall_mem_cons.mpr ⟨so_iconst (by decide) d_B_clear_4 rfl,
  List.forall_mem_cons.mpr ⟨so_cV g_good d_B_clear_5 ⟨w_2_184, (Nat.le_of_ble_eq_true rfl), (Nat.le_of_ble_eq_true rfl), w_1_2, ⟨by decide, by decide⟩, by decide +kernel⟩ (rfl : vwCl[0]? = some (R_I, F_I, 2)) w_3_62 w_2_182 w_2_183 rfl,
  List.forall_mem_cons.mpr ⟨so_aload_n d_B_clear_8 rfl rfl,
  List.forall_mem_cons.mpr ⟨so_get d_B_clear_9 (rfl : vwCl[2]? = some (R_B, F_B, 5)) (Nat.le_of_ble_eq_true rfl) i_B w_1_57 rfl,
  List.forall_mem_cons.mpr ⟨so_iconst (by decide) d_B_clear_12 rfl,
  List.forall_mem_cons.mpr ⟨so_cV g_good d_B_clear_13 ⟨w_2_184, (Nat.le_of_ble_eq_true rfl), (Nat.le_of_ble_eq_true rfl), w_1_2, ⟨by decide, by decide⟩, by decide +kernel⟩ (rfl : vwCl[0]? = some (R_I, F_I, 2)) w_3_62 w_2_182 w_2_183 rfl,
  List.forall_mem_cons.mpr ⟨so_aload_n d_B_clear_16 rfl rfl,
  List.forall_mem_cons.mpr ⟨so_get d_B_clear_17 (rfl : vwCl[2]? = some (R_B, F_B, 5)) (Nat.le_of_ble_eq_true rfl) i_B w_1_58 rfl,
  List.forall_mem_cons.mpr ⟨so_iconst (by decide) d_B_clear_20 rfl,
  List.forall_mem_cons.mpr ⟨so_cV g_good d_B_clear_21 ⟨w_2_184, (Nat.le_of_ble_eq_true rfl), (Nat.le_of_ble_eq_true rfl), w_1_2, ⟨by decide, by decide⟩, by decide +kernel⟩ (rfl : vwCl[0]? = some (R_I, F_I, 2)) w_3_62 w_2_182 w_2_183 rfl,
  List.forall_mem_cons.mpr ⟨so_vret d_B_clear_24 rfl,
  fun _ h => absurd h List.not_mem_nil⟩⟩⟩⟩⟩⟩⟩⟩⟩⟩⟩⟩⟩
def cd_B_clear : Nat → g_T := g_chk [(24, cd_B_clear_0)]
theorem ok_B_clear : ∀ pc, g_S (J_B_clear) pc (cd_B_clear pc) := g_chk_ok <|
  List.forall_mem_cons.mpr ⟨ok_B_clear_0,
  fun _ h => absurd h List.not_mem_nil⟩
abbrev J_B_begin : g_J := (y_B_begin, prog_2_method_2_code, 3, none, (2, 41), [], none)
theorem d_B_begin_0 : decode prog_2_method_2_code 0 = .ok (.aload_n 0, 1) := by decide +kernel
theorem d_B_begin_1 : decode prog_2_method_2_code 1 = .ok (.invokevirtual 26, 3) := by decide +kernel
theorem d_B_begin_4 : decode prog_2_method_2_code 4 = .ok (.aload_n 0, 1) := by decide +kernel
theorem d_B_begin_5 : decode prog_2_method_2_code 5 = .ok (.iload_n 1, 1) := by decide +kernel
theorem d_B_begin_6 : decode prog_2_method_2_code 6 = .ok (.putfield 29, 3) := by decide +kernel
theorem d_B_begin_9 : decode prog_2_method_2_code 9 = .ok (.aload_n 0, 1) := by decide +kernel
theorem d_B_begin_10 : decode prog_2_method_2_code 10 = .ok (.iload_n 2, 1) := by decide +kernel
theorem d_B_begin_11 : decode prog_2_method_2_code 11 = .ok (.putfield 33, 3) := by decide +kernel
theorem d_B_begin_14 : decode prog_2_method_2_code 14 = .ok (.return_, 1) := by decide +kernel
def cd_B_begin_0 : Nat → g_T := g_tab [(0, tr_ald 0 1), (1, tr_cV J_B_clear 2 0 4), (4, tr_ald 0 5), (5, tr_ild 1 6), (6, tr_put 2 3 (.int) 9), (9, tr_ald 0 10), (10, tr_ild 2 11), (11, tr_put 2 4 (.int) 14), (14, tr_rv)]
set_option maxRecDepth 100000 in
theorem ok_B_begin_0 : ∀ pc, g_S (J_B_begin) pc (cd_B_begin_0 pc) := g_tab_ok <|
  List.forall_mem_cons.mpr ⟨so_aload_n d_B_begin_0 rfl rfl,
  List.forall_mem_cons.mpr ⟨so_cV g_good d_B_begin_1 ⟨w_3_61, (Nat.le_of_ble_eq_true rfl), (Nat.le_of_ble_eq_true rfl), w_1_4, ⟨by decide, by decide⟩, by decide +kernel⟩ (rfl : vwCl[2]? = some (R_B, F_B, 5)) w_3_83 w_3_59 w_3_60 rfl,
  List.forall_mem_cons.mpr ⟨so_aload_n d_B_begin_4 rfl rfl,
  List.forall_mem_cons.mpr ⟨so_iload_n d_B_begin_5 rfl rfl,
  List.forall_mem_cons.mpr ⟨so_put ft_B d_B_begin_6 (rfl : vwCl[2]? = some (R_B, F_B, 5)) (Nat.le_of_ble_eq_true rfl) i_B w_1_59 tk_B n_B rfl rfl rfl,
  List.forall_mem_cons.mpr ⟨so_aload_n d_B_begin_9 rfl rfl,
  List.forall_mem_cons.mpr ⟨so_iload_n d_B_begin_10 rfl rfl,
  List.forall_mem_cons.mpr ⟨so_put ft_B d_B_begin_11 (rfl : vwCl[2]? = some (R_B, F_B, 5)) (Nat.le_of_ble_eq_true rfl) i_B w_1_60 tk_B n_B rfl rfl rfl,
  List.forall_mem_cons.mpr ⟨so_vret d_B_begin_14 rfl,
  fun _ h => absurd h List.not_mem_nil⟩⟩⟩⟩⟩⟩⟩⟩⟩
def cd_B_begin : Nat → g_T := g_chk [(14, cd_B_begin_0)]
theorem ok_B_begin : ∀ pc, g_S (J_B_begin) pc (cd_B_begin pc) := g_chk_ok <|
  List.forall_mem_cons.mpr ⟨ok_B_begin_0,
  fun _ h => absurd h List.not_mem_nil⟩
abbrev J_B_add : g_J := (y_B_add, prog_2_method_5_code, 4, (some .boolean), (1, 21), [], none)
theorem d_B_add_0 : decode prog_2_method_5_code 0 = .ok (.aload_n 0, 1) := by decide +kernel
theorem d_B_add_1 : decode prog_2_method_5_code 1 = .ok (.getfield 14, 3) := by decide +kernel
theorem d_B_add_4 : decode prog_2_method_5_code 4 = .ok (.iload_n 1, 1) := by decide +kernel
theorem d_B_add_5 : decode prog_2_method_5_code 5 = .ok (.invokevirtual 43, 3) := by decide +kernel
theorem d_B_add_8 : decode prog_2_method_5_code 8 = .ok (.ifCond .eq 29, 3) := by decide +kernel
theorem d_B_add_11 : decode prog_2_method_5_code 11 = .ok (.aload_n 0, 1) := by decide +kernel
theorem d_B_add_12 : decode prog_2_method_5_code 12 = .ok (.getfield 20, 3) := by decide +kernel
theorem d_B_add_15 : decode prog_2_method_5_code 15 = .ok (.iload_n 2, 1) := by decide +kernel
theorem d_B_add_16 : decode prog_2_method_5_code 16 = .ok (.invokevirtual 43, 3) := by decide +kernel
theorem d_B_add_19 : decode prog_2_method_5_code 19 = .ok (.ifCond .eq 18, 3) := by decide +kernel
theorem d_B_add_22 : decode prog_2_method_5_code 22 = .ok (.aload_n 0, 1) := by decide +kernel
theorem d_B_add_23 : decode prog_2_method_5_code 23 = .ok (.getfield 23, 3) := by decide +kernel
theorem d_B_add_26 : decode prog_2_method_5_code 26 = .ok (.iload_n 3, 1) := by decide +kernel
theorem d_B_add_27 : decode prog_2_method_5_code 27 = .ok (.invokevirtual 43, 3) := by decide +kernel
theorem d_B_add_30 : decode prog_2_method_5_code 30 = .ok (.ifCond .eq 7, 3) := by decide +kernel
theorem d_B_add_33 : decode prog_2_method_5_code 33 = .ok (.iconst 1, 1) := by decide +kernel
theorem d_B_add_34 : decode prog_2_method_5_code 34 = .ok (.goto 4, 3) := by decide +kernel
theorem d_B_add_37 : decode prog_2_method_5_code 37 = .ok (.iconst 0, 1) := by decide +kernel
theorem d_B_add_38 : decode prog_2_method_5_code 38 = .ok (.ireturn, 1) := by decide +kernel
def cd_B_add_0 : Nat → g_T := g_tab [(0, tr_ald 0 1), (1, tr_get 2 0 4), (4, tr_ild 1 5), (5, tr_cV J_I_add 0 1 8), (8, tr_if1 (fun x => x = 0) 37 11), (11, tr_ald 0 12), (12, tr_get 2 1 15), (15, tr_ild 2 16), (16, tr_cV J_I_add 0 1 19), (19, tr_if1 (fun x => x = 0) 37 22), (22, tr_ald 0 23), (23, tr_get 2 2 26), (26, tr_ild 3 27), (27, tr_cV J_I_add 0 1 30), (30, tr_if1 (fun x => x = 0) 37 33), (33, tr_cst (.int (1)) 34)]
set_option maxRecDepth 100000 in
theorem ok_B_add_0 : ∀ pc, g_S (J_B_add) pc (cd_B_add_0 pc) := g_tab_ok <|
  List.forall_mem_cons.mpr ⟨so_aload_n d_B_add_0 rfl rfl,
  List.forall_mem_cons.mpr ⟨so_get d_B_add_1 (rfl : vwCl[2]? = some (R_B, F_B, 5)) (Nat.le_of_ble_eq_true rfl) i_B w_1_56 rfl,
  List.forall_mem_cons.mpr ⟨so_iload_n d_B_add_4 rfl rfl,
  List.forall_mem_cons.mpr ⟨so_cV g_good d_B_add_5 ⟨w_1_47, (Nat.le_of_ble_eq_true rfl), (Nat.le_of_ble_eq_true rfl), w_1_2, ⟨by decide, by decide⟩, by decide +kernel⟩ (rfl : vwCl[0]? = some (R_I, F_I, 2)) w_3_88 w_1_45 w_1_46 rfl,
  List.forall_mem_cons.mpr ⟨so_if_eq d_B_add_8 (by decide) rfl,
  List.forall_mem_cons.mpr ⟨so_aload_n d_B_add_11 rfl rfl,
  List.forall_mem_cons.mpr ⟨so_get d_B_add_12 (rfl : vwCl[2]? = some (R_B, F_B, 5)) (Nat.le_of_ble_eq_true rfl) i_B w_1_57 rfl,
  List.forall_mem_cons.mpr ⟨so_iload_n d_B_add_15 rfl rfl,
  List.forall_mem_cons.mpr ⟨so_cV g_good d_B_add_16 ⟨w_1_47, (Nat.le_of_ble_eq_true rfl), (Nat.le_of_ble_eq_true rfl), w_1_2, ⟨by decide, by decide⟩, by decide +kernel⟩ (rfl : vwCl[0]? = some (R_I, F_I, 2)) w_3_88 w_1_45 w_1_46 rfl,
  List.forall_mem_cons.mpr ⟨so_if_eq d_B_add_19 (by decide) rfl,
  List.forall_mem_cons.mpr ⟨so_aload_n d_B_add_22 rfl rfl,
  List.forall_mem_cons.mpr ⟨so_get d_B_add_23 (rfl : vwCl[2]? = some (R_B, F_B, 5)) (Nat.le_of_ble_eq_true rfl) i_B w_1_58 rfl,
  List.forall_mem_cons.mpr ⟨so_iload_n d_B_add_26 rfl rfl,
  List.forall_mem_cons.mpr ⟨so_cV g_good d_B_add_27 ⟨w_1_47, (Nat.le_of_ble_eq_true rfl), (Nat.le_of_ble_eq_true rfl), w_1_2, ⟨by decide, by decide⟩, by decide +kernel⟩ (rfl : vwCl[0]? = some (R_I, F_I, 2)) w_3_88 w_1_45 w_1_46 rfl,
  List.forall_mem_cons.mpr ⟨so_if_eq d_B_add_30 (by decide) rfl,
  List.forall_mem_cons.mpr ⟨so_iconst (by decide) d_B_add_33 rfl,
  fun _ h => absurd h List.not_mem_nil⟩⟩⟩⟩⟩⟩⟩⟩⟩⟩⟩⟩⟩⟩⟩⟩
def cd_B_add_1 : Nat → g_T := g_tab [(34, tr_goto 38), (37, tr_cst (.int (0)) 38), (38, tr_rz)]
set_option maxRecDepth 100000 in
theorem ok_B_add_1 : ∀ pc, g_S (J_B_add) pc (cd_B_add_1 pc) := g_tab_ok <|
  List.forall_mem_cons.mpr ⟨so_goto d_B_add_34 (by decide),
  List.forall_mem_cons.mpr ⟨so_iconst (by decide) d_B_add_37 rfl,
  List.forall_mem_cons.mpr ⟨so_zret d_B_add_38 rfl,
  fun _ h => absurd h List.not_mem_nil⟩⟩⟩
def cd_B_add : Nat → g_T := g_chk [(33, cd_B_add_0), (38, cd_B_add_1)]
theorem ok_B_add : ∀ pc, g_S (J_B_add) pc (cd_B_add pc) := g_chk_ok <|
  List.forall_mem_cons.mpr ⟨ok_B_add_0,
  List.forall_mem_cons.mpr ⟨ok_B_add_1,
  fun _ h => absurd h List.not_mem_nil⟩⟩
abbrev J_I_has : g_J := (y_I_has, prog_3_method_3_code, 2, (some .boolean), (0, 0), [], none)
theorem d_I_has_0 : decode prog_3_method_3_code 0 = .ok (.iload_n 1, 1) := by decide +kernel
theorem d_I_has_1 : decode prog_3_method_3_code 1 = .ok (.ifCond .lt 15, 3) := by decide +kernel
theorem d_I_has_4 : decode prog_3_method_3_code 4 = .ok (.iload_n 1, 1) := by decide +kernel
theorem d_I_has_5 : decode prog_3_method_3_code 5 = .ok (.aload_n 0, 1) := by decide +kernel
theorem d_I_has_6 : decode prog_3_method_3_code 6 = .ok (.getfield 21, 3) := by decide +kernel
theorem d_I_has_9 : decode prog_3_method_3_code 9 = .ok (.if_icmp .ge 7, 3) := by decide +kernel
theorem d_I_has_12 : decode prog_3_method_3_code 12 = .ok (.iconst 1, 1) := by decide +kernel
theorem d_I_has_13 : decode prog_3_method_3_code 13 = .ok (.goto 4, 3) := by decide +kernel
theorem d_I_has_16 : decode prog_3_method_3_code 16 = .ok (.iconst 0, 1) := by decide +kernel
theorem d_I_has_17 : decode prog_3_method_3_code 17 = .ok (.ireturn, 1) := by decide +kernel
def cd_I_has_0 : Nat → g_T := g_tab [(0, tr_ild 1 1), (1, tr_if1 (fun x => x < 0) 16 4), (4, tr_ild 1 5), (5, tr_ald 0 6), (6, tr_get 0 1 9), (9, tr_if2 (fun x y => y ≤ x) 16 12), (12, tr_cst (.int (1)) 13), (13, tr_goto 17), (16, tr_cst (.int (0)) 17), (17, tr_rz)]
set_option maxRecDepth 100000 in
theorem ok_I_has_0 : ∀ pc, g_S (J_I_has) pc (cd_I_has_0 pc) := g_tab_ok <|
  List.forall_mem_cons.mpr ⟨so_iload_n d_I_has_0 rfl rfl,
  List.forall_mem_cons.mpr ⟨so_if_lt d_I_has_1 (by decide) rfl,
  List.forall_mem_cons.mpr ⟨so_iload_n d_I_has_4 rfl rfl,
  List.forall_mem_cons.mpr ⟨so_aload_n d_I_has_5 rfl rfl,
  List.forall_mem_cons.mpr ⟨so_get d_I_has_6 (rfl : vwCl[0]? = some (R_I, F_I, 2)) (Nat.le_of_ble_eq_true rfl) i_I w_1_37 rfl,
  List.forall_mem_cons.mpr ⟨so_icmp_ge d_I_has_9 (by decide) rfl,
  List.forall_mem_cons.mpr ⟨so_iconst (by decide) d_I_has_12 rfl,
  List.forall_mem_cons.mpr ⟨so_goto d_I_has_13 (by decide),
  List.forall_mem_cons.mpr ⟨so_iconst (by decide) d_I_has_16 rfl,
  List.forall_mem_cons.mpr ⟨so_zret d_I_has_17 rfl,
  fun _ h => absurd h List.not_mem_nil⟩⟩⟩⟩⟩⟩⟩⟩⟩⟩
def cd_I_has : Nat → g_T := g_chk [(17, cd_I_has_0)]
theorem ok_I_has : ∀ pc, g_S (J_I_has) pc (cd_I_has pc) := g_chk_ok <|
  List.forall_mem_cons.mpr ⟨ok_I_has_0,
  fun _ h => absurd h List.not_mem_nil⟩
abbrev J_L_after : g_J := (y_L_after, prog_8_method_3_code, 2, (some .int), (0, 0), [], none)
theorem d_L_after_0 : decode prog_8_method_3_code 0 = .ok (.aload_n 0, 1) := by decide +kernel
theorem d_L_after_1 : decode prog_8_method_3_code 1 = .ok (.getfield 7, 3) := by decide +kernel
theorem d_L_after_4 : decode prog_8_method_3_code 4 = .ok (.iload_n 1, 1) := by decide +kernel
theorem d_L_after_5 : decode prog_8_method_3_code 5 = .ok (.iadd, 1) := by decide +kernel
theorem d_L_after_6 : decode prog_8_method_3_code 6 = .ok (.ireturn, 1) := by decide +kernel
def cd_L_after_0 : Nat → g_T := g_tab [(0, tr_ald 0 1), (1, tr_get 1 0 4), (4, tr_ild 1 5), (5, tr_ii (fun x y => x + y) 6), (6, tr_ri)]
set_option maxRecDepth 100000 in
theorem ok_L_after_0 : ∀ pc, g_S (J_L_after) pc (cd_L_after_0 pc) := g_tab_ok <|
  List.forall_mem_cons.mpr ⟨so_aload_n d_L_after_0 rfl rfl,
  List.forall_mem_cons.mpr ⟨so_get d_L_after_1 (rfl : vwCl[1]? = some (R_L, F_L, 2)) (Nat.le_of_ble_eq_true rfl) i_L w_1_92 rfl,
  List.forall_mem_cons.mpr ⟨so_iload_n d_L_after_4 rfl rfl,
  List.forall_mem_cons.mpr ⟨so_iadd d_L_after_5 rfl,
  List.forall_mem_cons.mpr ⟨so_iret d_L_after_6 rfl,
  fun _ h => absurd h List.not_mem_nil⟩⟩⟩⟩⟩
def cd_L_after : Nat → g_T := g_chk [(6, cd_L_after_0)]
theorem ok_L_after : ∀ pc, g_S (J_L_after) pc (cd_L_after pc) := g_chk_ok <|
  List.forall_mem_cons.mpr ⟨ok_L_after_0,
  fun _ h => absurd h List.not_mem_nil⟩
abbrev J_L_last : g_J := (y_L_last, prog_8_method_5_code, 1, (some .int), (0, 0), [], none)
theorem d_L_last_0 : decode prog_8_method_5_code 0 = .ok (.aload_n 0, 1) := by decide +kernel
theorem d_L_last_1 : decode prog_8_method_5_code 1 = .ok (.getfield 7, 3) := by decide +kernel
theorem d_L_last_4 : decode prog_8_method_5_code 4 = .ok (.ireturn, 1) := by decide +kernel
def cd_L_last_0 : Nat → g_T := g_tab [(0, tr_ald 0 1), (1, tr_get 1 0 4), (4, tr_ri)]
set_option maxRecDepth 100000 in
theorem ok_L_last_0 : ∀ pc, g_S (J_L_last) pc (cd_L_last_0 pc) := g_tab_ok <|
  List.forall_mem_cons.mpr ⟨so_aload_n d_L_last_0 rfl rfl,
  List.forall_mem_cons.mpr ⟨so_get d_L_last_1 (rfl : vwCl[1]? = some (R_L, F_L, 2)) (Nat.le_of_ble_eq_true rfl) i_L w_1_92 rfl,
  List.forall_mem_cons.mpr ⟨so_iret d_L_last_4 rfl,
  fun _ h => absurd h List.not_mem_nil⟩⟩⟩
def cd_L_last : Nat → g_T := g_chk [(4, cd_L_last_0)]
theorem ok_L_last : ∀ pc, g_S (J_L_last) pc (cd_L_last pc) := g_chk_ok <|
  List.forall_mem_cons.mpr ⟨ok_L_last_0,
  fun _ h => absurd h List.not_mem_nil⟩
abbrev J_V_at : g_J := (y_V_at, prog_5_method_4_code, 2, (some .int), (1, 21), [], none)
theorem d_V_at_0 : decode prog_5_method_4_code 0 = .ok (.aload_n 0, 1) := by decide +kernel
theorem d_V_at_1 : decode prog_5_method_4_code 1 = .ok (.getfield 14, 3) := by decide +kernel
theorem d_V_at_4 : decode prog_5_method_4_code 4 = .ok (.iload_n 1, 1) := by decide +kernel
theorem d_V_at_5 : decode prog_5_method_4_code 5 = .ok (.invokevirtual 27, 3) := by decide +kernel
theorem d_V_at_8 : decode prog_5_method_4_code 8 = .ok (.ireturn, 1) := by decide +kernel
def cd_V_at_0 : Nat → g_T := g_tab [(0, tr_ald 0 1), (1, tr_get 3 0 4), (4, tr_ild 1 5), (5, tr_cV J_I_at 0 1 8), (8, tr_ri)]
set_option maxRecDepth 100000 in
theorem ok_V_at_0 : ∀ pc, g_S (J_V_at) pc (cd_V_at_0 pc) := g_tab_ok <|
  List.forall_mem_cons.mpr ⟨so_aload_n d_V_at_0 rfl rfl,
  List.forall_mem_cons.mpr ⟨so_get d_V_at_1 (rfl : vwCl[3]? = some (R_V, F_V, 1)) (Nat.le_of_ble_eq_true rfl) i_V w_1_107 rfl,
  List.forall_mem_cons.mpr ⟨so_iload_n d_V_at_4 rfl rfl,
  List.forall_mem_cons.mpr ⟨so_cV g_good d_V_at_5 ⟨w_2_151, (Nat.le_of_ble_eq_true rfl), (Nat.le_of_ble_eq_true rfl), w_1_2, ⟨by decide, by decide⟩, by decide +kernel⟩ (rfl : vwCl[0]? = some (R_I, F_I, 2)) w_3_32 w_2_149 w_2_150 rfl,
  List.forall_mem_cons.mpr ⟨so_iret d_V_at_8 rfl,
  fun _ h => absurd h List.not_mem_nil⟩⟩⟩⟩⟩
def cd_V_at : Nat → g_T := g_chk [(8, cd_V_at_0)]
theorem ok_V_at : ∀ pc, g_S (J_V_at) pc (cd_V_at pc) := g_chk_ok <|
  List.forall_mem_cons.mpr ⟨ok_V_at_0,
  fun _ h => absurd h List.not_mem_nil⟩
abbrev J_V_has : g_J := (y_V_has, prog_5_method_3_code, 2, (some .boolean), (1, 21), [], none)
theorem d_V_has_0 : decode prog_5_method_3_code 0 = .ok (.aload_n 0, 1) := by decide +kernel
theorem d_V_has_1 : decode prog_5_method_3_code 1 = .ok (.getfield 14, 3) := by decide +kernel
theorem d_V_has_4 : decode prog_5_method_3_code 4 = .ok (.iload_n 1, 1) := by decide +kernel
theorem d_V_has_5 : decode prog_5_method_3_code 5 = .ok (.invokevirtual 23, 3) := by decide +kernel
theorem d_V_has_8 : decode prog_5_method_3_code 8 = .ok (.ireturn, 1) := by decide +kernel
def cd_V_has_0 : Nat → g_T := g_tab [(0, tr_ald 0 1), (1, tr_get 3 0 4), (4, tr_ild 1 5), (5, tr_cV J_I_has 0 1 8), (8, tr_rz)]
set_option maxRecDepth 100000 in
theorem ok_V_has_0 : ∀ pc, g_S (J_V_has) pc (cd_V_has_0 pc) := g_tab_ok <|
  List.forall_mem_cons.mpr ⟨so_aload_n d_V_has_0 rfl rfl,
  List.forall_mem_cons.mpr ⟨so_get d_V_has_1 (rfl : vwCl[3]? = some (R_V, F_V, 1)) (Nat.le_of_ble_eq_true rfl) i_V w_1_107 rfl,
  List.forall_mem_cons.mpr ⟨so_iload_n d_V_has_4 rfl rfl,
  List.forall_mem_cons.mpr ⟨so_cV g_good d_V_has_5 ⟨w_3_107, (Nat.le_of_ble_eq_true rfl), (Nat.le_of_ble_eq_true rfl), w_1_2, ⟨by decide, by decide⟩, by decide +kernel⟩ (rfl : vwCl[0]? = some (R_I, F_I, 2)) w_4_14 w_3_105 w_3_106 rfl,
  List.forall_mem_cons.mpr ⟨so_zret d_V_has_8 rfl,
  fun _ h => absurd h List.not_mem_nil⟩⟩⟩⟩⟩
def cd_V_has : Nat → g_T := g_chk [(8, cd_V_has_0)]
theorem ok_V_has : ∀ pc, g_S (J_V_has) pc (cd_V_has pc) := g_chk_ok <|
  List.forall_mem_cons.mpr ⟨ok_V_has_0,
  fun _ h => absurd h List.not_mem_nil⟩
end
