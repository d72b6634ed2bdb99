section
-- ===== PART A: goes FIRST, ahead of the names: the tables' words, and 'selects' of the private methods out of them =====
/-- a private method of a class that the tables say can be made, by its rows of tables_1 -/
def lw_okq (q : MethodName × Nat) : Prop := (q.1.cls ≠ "java/lang/invoke/MethodHandle" ∧ q.1.cls ≠ "java/lang/invoke/VarHandle") ∧ Cond.instantiable q.1.cls q.2 ∈ tables_1 ∧ Cond.privateMethod q.1 ∈ tables_1 ∧ Cond.instanceMethod q.1 ∈ tables_1
theorem lw_p0 : lw_okq (⟨"MeshLodger", "draft", "()LMeshLodger$Request;"⟩, 8) := ⟨⟨by decide +kernel, by decide +kernel⟩, List.mem_of_getElem? (i := 19) (by decide +kernel), List.mem_of_getElem? (i := 309) (by decide +kernel), List.mem_of_getElem? (i := 310) (by decide +kernel)⟩
theorem lw_p1 : lw_okq (⟨"MeshLodger$Search", "findFloors", "(LMeshLodger$Request;)Z"⟩, 9) := ⟨⟨by decide +kernel, by decide +kernel⟩, List.mem_of_getElem? (i := 100) (by decide +kernel), List.mem_of_getElem? (i := 341) (by decide +kernel), List.mem_of_getElem? (i := 342) (by decide +kernel)⟩
theorem lw_p2 : lw_okq (⟨"MeshLodger$Search", "isCut", "(I)Z"⟩, 9) := ⟨⟨by decide +kernel, by decide +kernel⟩, List.mem_of_getElem? (i := 100) (by decide +kernel), List.mem_of_getElem? (i := 383) (by decide +kernel), List.mem_of_getElem? (i := 384) (by decide +kernel)⟩
theorem lw_p3 : lw_okq (⟨"MeshLodger$Search", "keepLeast", "(LMeshLodger$Request;I)V"⟩, 9) := ⟨⟨by decide +kernel, by decide +kernel⟩, List.mem_of_getElem? (i := 100) (by decide +kernel), List.mem_of_getElem? (i := 390) (by decide +kernel), List.mem_of_getElem? (i := 391) (by decide +kernel)⟩
theorem lw_p4 : lw_okq (⟨"MeshLodger", "freeingNode", "(LMeshLodger$Request;II)I"⟩, 8) := ⟨⟨by decide +kernel, by decide +kernel⟩, List.mem_of_getElem? (i := 19) (by decide +kernel), List.mem_of_getElem? (i := 408) (by decide +kernel), List.mem_of_getElem? (i := 409) (by decide +kernel)⟩
theorem lw_p5 : lw_okq (⟨"MeshLodger$Mover", "putAt", "(LMeshLodger$Request;II)V"⟩, 4) := ⟨⟨by decide +kernel, by decide +kernel⟩, List.mem_of_getElem? (i := 171) (by decide +kernel), List.mem_of_getElem? (i := 426) (by decide +kernel), List.mem_of_getElem? (i := 427) (by decide +kernel)⟩
theorem lw_p6 : lw_okq (⟨"MeshLodger$Mover", "giveWay", "(LMeshLodger$Request;II)V"⟩, 4) := ⟨⟨by decide +kernel, by decide +kernel⟩, List.mem_of_getElem? (i := 171) (by decide +kernel), List.mem_of_getElem? (i := 442) (by decide +kernel), List.mem_of_getElem? (i := 443) (by decide +kernel)⟩
theorem lw_p7 : lw_okq (⟨"MeshLodger$Mover", "findWay", "(LMeshLodger$Request;I)Z"⟩, 4) := ⟨⟨by decide +kernel, by decide +kernel⟩, List.mem_of_getElem? (i := 171) (by decide +kernel), List.mem_of_getElem? (i := 447) (by decide +kernel), List.mem_of_getElem? (i := 448) (by decide +kernel)⟩
theorem lw_p8 : lw_okq (⟨"java/lang/Throwable", "fillInStackTrace", "(I)Ljava/lang/Throwable;"⟩, 6) := ⟨⟨by decide +kernel, by decide +kernel⟩, List.mem_of_getElem? (i := 506) (by decide +kernel), List.mem_of_getElem? (i := 504) (by decide +kernel), List.mem_of_getElem? (i := 505) (by decide +kernel)⟩
theorem lw_p9 : lw_okq (⟨"MeshLodger$Ground", "findWays", "()V"⟩, 9) := ⟨⟨by decide +kernel, by decide +kernel⟩, List.mem_of_getElem? (i := 27) (by decide +kernel), List.mem_of_getElem? (i := 595) (by decide +kernel), List.mem_of_getElem? (i := 596) (by decide +kernel)⟩
theorem lw_p10 : lw_okq (⟨"MeshLodger$Ground", "keepWay", "(II)V"⟩, 9) := ⟨⟨by decide +kernel, by decide +kernel⟩, List.mem_of_getElem? (i := 27) (by decide +kernel), List.mem_of_getElem? (i := 603) (by decide +kernel), List.mem_of_getElem? (i := 604) (by decide +kernel)⟩
theorem lw_p11 : lw_okq (⟨"MeshLodger$Request", "isHit", "(II)Z"⟩, 15) := ⟨⟨by decide +kernel, by decide +kernel⟩, List.mem_of_getElem? (i := 191) (by decide +kernel), List.mem_of_getElem? (i := 627) (by decide +kernel), List.mem_of_getElem? (i := 628) (by decide +kernel)⟩
theorem lw_p12 : lw_okq (⟨"MeshLodger$Request", "runsOnSecondWay", "(II)Z"⟩, 15) := ⟨⟨by decide +kernel, by decide +kernel⟩, List.mem_of_getElem? (i := 191) (by decide +kernel), List.mem_of_getElem? (i := 631) (by decide +kernel), List.mem_of_getElem? (i := 632) (by decide +kernel)⟩
theorem lw_p13 : lw_okq (⟨"MeshLodger$Placer", "mapSplit", "(LMeshLodger$Request;)Z"⟩, 4) := ⟨⟨by decide +kernel, by decide +kernel⟩, List.mem_of_getElem? (i := 150) (by decide +kernel), List.mem_of_getElem? (i := 693) (by decide +kernel), List.mem_of_getElem? (i := 694) (by decide +kernel)⟩
theorem lw_p14 : lw_okq (⟨"MeshLodger$Placer", "splitLines", "(LMeshLodger$Request;)Z"⟩, 4) := ⟨⟨by decide +kernel, by decide +kernel⟩, List.mem_of_getElem? (i := 150) (by decide +kernel), List.mem_of_getElem? (i := 699) (by decide +kernel), List.mem_of_getElem? (i := 700) (by decide +kernel)⟩
theorem lw_p15 : lw_okq (⟨"MeshLodger$Placer", "splitLine", "(LMeshLodger$Request;I)Z"⟩, 4) := ⟨⟨by decide +kernel, by decide +kernel⟩, List.mem_of_getElem? (i := 150) (by decide +kernel), List.mem_of_getElem? (i := 703) (by decide +kernel), List.mem_of_getElem? (i := 704) (by decide +kernel)⟩
def lw_privs_1 : List (MethodName × Nat) := [(⟨"MeshLodger", "draft", "()LMeshLodger$Request;"⟩, 8), (⟨"MeshLodger$Search", "findFloors", "(LMeshLodger$Request;)Z"⟩, 9), (⟨"MeshLodger$Search", "isCut", "(I)Z"⟩, 9), (⟨"MeshLodger$Search", "keepLeast", "(LMeshLodger$Request;I)V"⟩, 9), (⟨"MeshLodger", "freeingNode", "(LMeshLodger$Request;II)I"⟩, 8), (⟨"MeshLodger$Mover", "putAt", "(LMeshLodger$Request;II)V"⟩, 4), (⟨"MeshLodger$Mover", "giveWay", "(LMeshLodger$Request;II)V"⟩, 4), (⟨"MeshLodger$Mover", "findWay", "(LMeshLodger$Request;I)Z"⟩, 4), (⟨"java/lang/Throwable", "fillInStackTrace", "(I)Ljava/lang/Throwable;"⟩, 6), (⟨"MeshLodger$Ground", "findWays", "()V"⟩, 9), (⟨"MeshLodger$Ground", "keepWay", "(II)V"⟩, 9), (⟨"MeshLodger$Request", "isHit", "(II)Z"⟩, 15), (⟨"MeshLodger$Request", "runsOnSecondWay", "(II)Z"⟩, 15), (⟨"MeshLodger$Placer", "mapSplit", "(LMeshLodger$Request;)Z"⟩, 4), (⟨"MeshLodger$Placer", "splitLines", "(LMeshLodger$Request;)Z"⟩, 4), (⟨"MeshLodger$Placer", "splitLine", "(LMeshLodger$Request;I)Z"⟩, 4)]
theorem lw_r1 : ∀ q ∈ lw_privs_1, lw_okq q := List.forall_mem_cons.mpr ⟨lw_p0, List.forall_mem_cons.mpr ⟨lw_p1, List.forall_mem_cons.mpr ⟨lw_p2, List.forall_mem_cons.mpr ⟨lw_p3, List.forall_mem_cons.mpr ⟨lw_p4, List.forall_mem_cons.mpr ⟨lw_p5, List.forall_mem_cons.mpr ⟨lw_p6, List.forall_mem_cons.mpr ⟨lw_p7, List.forall_mem_cons.mpr ⟨lw_p8, List.forall_mem_cons.mpr ⟨lw_p9, List.forall_mem_cons.mpr ⟨lw_p10, List.forall_mem_cons.mpr ⟨lw_p11, List.forall_mem_cons.mpr ⟨lw_p12, List.forall_mem_cons.mpr ⟨lw_p13, List.forall_mem_cons.mpr ⟨lw_p14, List.forall_mem_cons.mpr ⟨lw_p15, fun _ h => absurd h List.not_mem_nil⟩⟩⟩⟩⟩⟩⟩⟩⟩⟩⟩⟩⟩⟩⟩⟩
theorem lw_p16 : lw_okq (⟨"MeshLodger$Books", "reserve", "(III)V"⟩, 6) := ⟨⟨by decide +kernel, by decide +kernel⟩, List.mem_of_getElem? (i := 71) (by decide +kernel), List.mem_of_getElem? (i := 732) (by decide +kernel), List.mem_of_getElem? (i := 733) (by decide +kernel)⟩
theorem lw_p17 : lw_okq (⟨"MeshLodger$Placer", "secure", "(LMeshLodger$Request;)Z"⟩, 4) := ⟨⟨by decide +kernel, by decide +kernel⟩, List.mem_of_getElem? (i := 150) (by decide +kernel), List.mem_of_getElem? (i := 739) (by decide +kernel), List.mem_of_getElem? (i := 740) (by decide +kernel)⟩
theorem lw_p18 : lw_okq (⟨"MeshLodger", "isPlaced", "(I)Z"⟩, 8) := ⟨⟨by decide +kernel, by decide +kernel⟩, List.mem_of_getElem? (i := 19) (by decide +kernel), List.mem_of_getElem? (i := 755) (by decide +kernel), List.mem_of_getElem? (i := 756) (by decide +kernel)⟩
theorem lw_p19 : lw_okq (⟨"MeshLodger", "dismiss", "(LMeshLodger$Request;)V"⟩, 8) := ⟨⟨by decide +kernel, by decide +kernel⟩, List.mem_of_getElem? (i := 19) (by decide +kernel), List.mem_of_getElem? (i := 761) (by decide +kernel), List.mem_of_getElem? (i := 762) (by decide +kernel)⟩
theorem lw_p20 : lw_okq (⟨"MeshLodgerModel", "can", "(I)Z"⟩, 36) := ⟨⟨by decide +kernel, by decide +kernel⟩, List.mem_of_getElem? (i := 855) (by decide +kernel), List.mem_of_getElem? (i := 982) (by decide +kernel), List.mem_of_getElem? (i := 983) (by decide +kernel)⟩
theorem lw_p21 : lw_okq (⟨"MeshLodgerModel", "isNode", "(I)Z"⟩, 36) := ⟨⟨by decide +kernel, by decide +kernel⟩, List.mem_of_getElem? (i := 855) (by decide +kernel), List.mem_of_getElem? (i := 990) (by decide +kernel), List.mem_of_getElem? (i := 991) (by decide +kernel)⟩
theorem lw_p22 : lw_okq (⟨"MeshLodgerModel", "areLinked", "(II)Z"⟩, 36) := ⟨⟨by decide +kernel, by decide +kernel⟩, List.mem_of_getElem? (i := 855) (by decide +kernel), List.mem_of_getElem? (i := 994) (by decide +kernel), List.mem_of_getElem? (i := 995) (by decide +kernel)⟩
theorem lw_p23 : lw_okq (⟨"MeshLodgerModel", "areLined", "(II)Z"⟩, 36) := ⟨⟨by decide +kernel, by decide +kernel⟩, List.mem_of_getElem? (i := 855) (by decide +kernel), List.mem_of_getElem? (i := 1006) (by decide +kernel), List.mem_of_getElem? (i := 1007) (by decide +kernel)⟩
theorem lw_p24 : lw_okq (⟨"MeshLodgerModel", "sumsRooms", "()V"⟩, 36) := ⟨⟨by decide +kernel, by decide +kernel⟩, List.mem_of_getElem? (i := 855) (by decide +kernel), List.mem_of_getElem? (i := 1018) (by decide +kernel), List.mem_of_getElem? (i := 1019) (by decide +kernel)⟩
theorem lw_p25 : lw_okq (⟨"MeshLodgerModel", "needsAt", "(I)I"⟩, 36) := ⟨⟨by decide +kernel, by decide +kernel⟩, List.mem_of_getElem? (i := 855) (by decide +kernel), List.mem_of_getElem? (i := 1022) (by decide +kernel), List.mem_of_getElem? (i := 1023) (by decide +kernel)⟩
theorem lw_p26 : lw_okq (⟨"MeshLodgerModel", "needs", "(I)I"⟩, 36) := ⟨⟨by decide +kernel, by decide +kernel⟩, List.mem_of_getElem? (i := 855) (by decide +kernel), List.mem_of_getElem? (i := 1026) (by decide +kernel), List.mem_of_getElem? (i := 1027) (by decide +kernel)⟩
theorem lw_p27 : lw_okq (⟨"MeshLodgerModel", "reserved", "(II)I"⟩, 36) := ⟨⟨by decide +kernel, by decide +kernel⟩, List.mem_of_getElem? (i := 855) (by decide +kernel), List.mem_of_getElem? (i := 1033) (by decide +kernel), List.mem_of_getElem? (i := 1034) (by decide +kernel)⟩
theorem lw_p28 : lw_okq (⟨"MeshLodgerModel", "shared", "(III)I"⟩, 36) := ⟨⟨by decide +kernel, by decide +kernel⟩, List.mem_of_getElem? (i := 855) (by decide +kernel), List.mem_of_getElem? (i := 1037) (by decide +kernel), List.mem_of_getElem? (i := 1038) (by decide +kernel)⟩
theorem lw_p29 : lw_okq (⟨"MeshLodgerModel", "leastOf", "(Z)I"⟩, 36) := ⟨⟨by decide +kernel, by decide +kernel⟩, List.mem_of_getElem? (i := 855) (by decide +kernel), List.mem_of_getElem? (i := 1041) (by decide +kernel), List.mem_of_getElem? (i := 1042) (by decide +kernel)⟩
theorem lw_p30 : lw_okq (⟨"MeshLodgerModel", "chooses", "(I)Z"⟩, 36) := ⟨⟨by decide +kernel, by decide +kernel⟩, List.mem_of_getElem? (i := 855) (by decide +kernel), List.mem_of_getElem? (i := 1045) (by decide +kernel), List.mem_of_getElem? (i := 1046) (by decide +kernel)⟩
theorem lw_p31 : lw_okq (⟨"MeshLodgerModel", "isChoice", "()Z"⟩, 36) := ⟨⟨by decide +kernel, by decide +kernel⟩, List.mem_of_getElem? (i := 855) (by decide +kernel), List.mem_of_getElem? (i := 1049) (by decide +kernel), List.mem_of_getElem? (i := 1050) (by decide +kernel)⟩
def lw_privs_2 : List (MethodName × Nat) := [(⟨"MeshLodger$Books", "reserve", "(III)V"⟩, 6), (⟨"MeshLodger$Placer", "secure", "(LMeshLodger$Request;)Z"⟩, 4), (⟨"MeshLodger", "isPlaced", "(I)Z"⟩, 8), (⟨"MeshLodger", "dismiss", "(LMeshLodger$Request;)V"⟩, 8), (⟨"MeshLodgerModel", "can", "(I)Z"⟩, 36), (⟨"MeshLodgerModel", "isNode", "(I)Z"⟩, 36), (⟨"MeshLodgerModel", "areLinked", "(II)Z"⟩, 36), (⟨"MeshLodgerModel", "areLined", "(II)Z"⟩, 36), (⟨"MeshLodgerModel", "sumsRooms", "()V"⟩, 36), (⟨"MeshLodgerModel", "needsAt", "(I)I"⟩, 36), (⟨"MeshLodgerModel", "needs", "(I)I"⟩, 36), (⟨"MeshLodgerModel", "reserved", "(II)I"⟩, 36), (⟨"MeshLodgerModel", "shared", "(III)I"⟩, 36), (⟨"MeshLodgerModel", "leastOf", "(Z)I"⟩, 36), (⟨"MeshLodgerModel", "chooses", "(I)Z"⟩, 36), (⟨"MeshLodgerModel", "isChoice", "()Z"⟩, 36)]
theorem lw_r2 : ∀ q ∈ lw_privs_2, lw_okq q := List.forall_mem_cons.mpr ⟨lw_p16, List.forall_mem_cons.mpr ⟨lw_p17, List.forall_mem_cons.mpr ⟨lw_p18, List.forall_mem_cons.mpr ⟨lw_p19, List.forall_mem_cons.mpr ⟨lw_p20, List.forall_mem_cons.mpr ⟨lw_p21, List.forall_mem_cons.mpr ⟨lw_p22, List.forall_mem_cons.mpr ⟨lw_p23, List.forall_mem_cons.mpr ⟨lw_p24, List.forall_mem_cons.mpr ⟨lw_p25, List.forall_mem_cons.mpr ⟨lw_p26, List.forall_mem_cons.mpr ⟨lw_p27, List.forall_mem_cons.mpr ⟨lw_p28, List.forall_mem_cons.mpr ⟨lw_p29, List.forall_mem_cons.mpr ⟨lw_p30, List.forall_mem_cons.mpr ⟨lw_p31, fun _ h => absurd h List.not_mem_nil⟩⟩⟩⟩⟩⟩⟩⟩⟩⟩⟩⟩⟩⟩⟩⟩
theorem lw_p32 : lw_okq (⟨"MeshLodgerModel", "findsAll", "()V"⟩, 36) := ⟨⟨by decide +kernel, by decide +kernel⟩, List.mem_of_getElem? (i := 855) (by decide +kernel), List.mem_of_getElem? (i := 1053) (by decide +kernel), List.mem_of_getElem? (i := 1054) (by decide +kernel)⟩
theorem lw_p33 : lw_okq (⟨"MeshLodgerModel", "finds", "(III)V"⟩, 36) := ⟨⟨by decide +kernel, by decide +kernel⟩, List.mem_of_getElem? (i := 855) (by decide +kernel), List.mem_of_getElem? (i := 1057) (by decide +kernel), List.mem_of_getElem? (i := 1058) (by decide +kernel)⟩
theorem lw_p34 : lw_okq (⟨"MeshLodgerModel", "end", "(II)I"⟩, 36) := ⟨⟨by decide +kernel, by decide +kernel⟩, List.mem_of_getElem? (i := 855) (by decide +kernel), List.mem_of_getElem? (i := 1061) (by decide +kernel), List.mem_of_getElem? (i := 1062) (by decide +kernel)⟩
theorem lw_p35 : lw_okq (⟨"MeshLodgerModel", "leastBy", "(I)I"⟩, 36) := ⟨⟨by decide +kernel, by decide +kernel⟩, List.mem_of_getElem? (i := 855) (by decide +kernel), List.mem_of_getElem? (i := 1065) (by decide +kernel), List.mem_of_getElem? (i := 1066) (by decide +kernel)⟩
theorem lw_p36 : lw_okq (⟨"MeshLodgerModel", "cost", "(II)I"⟩, 36) := ⟨⟨by decide +kernel, by decide +kernel⟩, List.mem_of_getElem? (i := 855) (by decide +kernel), List.mem_of_getElem? (i := 1069) (by decide +kernel), List.mem_of_getElem? (i := 1070) (by decide +kernel)⟩
theorem lw_p37 : lw_okq (⟨"MeshLodgerModel", "needOf", "(I)I"⟩, 36) := ⟨⟨by decide +kernel, by decide +kernel⟩, List.mem_of_getElem? (i := 855) (by decide +kernel), List.mem_of_getElem? (i := 1073) (by decide +kernel), List.mem_of_getElem? (i := 1074) (by decide +kernel)⟩
theorem lw_p38 : lw_okq (⟨"MeshLodgerModel", "fits", "(II)Z"⟩, 36) := ⟨⟨by decide +kernel, by decide +kernel⟩, List.mem_of_getElem? (i := 855) (by decide +kernel), List.mem_of_getElem? (i := 1080) (by decide +kernel), List.mem_of_getElem? (i := 1081) (by decide +kernel)⟩
theorem lw_p39 : lw_okq (⟨"MeshLodgerModel", "takes", "(II)V"⟩, 36) := ⟨⟨by decide +kernel, by decide +kernel⟩, List.mem_of_getElem? (i := 855) (by decide +kernel), List.mem_of_getElem? (i := 1084) (by decide +kernel), List.mem_of_getElem? (i := 1085) (by decide +kernel)⟩
theorem lw_p40 : lw_okq (⟨"MeshLodgerModel", "keeps", "(III)V"⟩, 36) := ⟨⟨by decide +kernel, by decide +kernel⟩, List.mem_of_getElem? (i := 855) (by decide +kernel), List.mem_of_getElem? (i := 1088) (by decide +kernel), List.mem_of_getElem? (i := 1089) (by decide +kernel)⟩
theorem lw_p41 : lw_okq (⟨"MeshLodgerModel", "placesLeast", "()V"⟩, 36) := ⟨⟨by decide +kernel, by decide +kernel⟩, List.mem_of_getElem? (i := 855) (by decide +kernel), List.mem_of_getElem? (i := 1092) (by decide +kernel), List.mem_of_getElem? (i := 1093) (by decide +kernel)⟩
theorem lw_p42 : lw_okq (⟨"MeshLodgerModel", "secures", "()Z"⟩, 36) := ⟨⟨by decide +kernel, by decide +kernel⟩, List.mem_of_getElem? (i := 855) (by decide +kernel), List.mem_of_getElem? (i := 1096) (by decide +kernel), List.mem_of_getElem? (i := 1097) (by decide +kernel)⟩
theorem lw_p43 : lw_okq (⟨"MeshLodgerModel", "isWithin", "(I)Z"⟩, 36) := ⟨⟨by decide +kernel, by decide +kernel⟩, List.mem_of_getElem? (i := 855) (by decide +kernel), List.mem_of_getElem? (i := 1100) (by decide +kernel), List.mem_of_getElem? (i := 1101) (by decide +kernel)⟩
theorem lw_p44 : lw_okq (⟨"MeshLodgerModel", "placesSplit", "()Z"⟩, 36) := ⟨⟨by decide +kernel, by decide +kernel⟩, List.mem_of_getElem? (i := 855) (by decide +kernel), List.mem_of_getElem? (i := 1104) (by decide +kernel), List.mem_of_getElem? (i := 1105) (by decide +kernel)⟩
theorem lw_p45 : lw_okq (⟨"MeshLodgerModel", "splits", "()Z"⟩, 36) := ⟨⟨by decide +kernel, by decide +kernel⟩, List.mem_of_getElem? (i := 855) (by decide +kernel), List.mem_of_getElem? (i := 1108) (by decide +kernel), List.mem_of_getElem? (i := 1109) (by decide +kernel)⟩
theorem lw_p46 : lw_okq (⟨"MeshLodgerModel", "fewest", "(II)I"⟩, 36) := ⟨⟨by decide +kernel, by decide +kernel⟩, List.mem_of_getElem? (i := 855) (by decide +kernel), List.mem_of_getElem? (i := 1112) (by decide +kernel), List.mem_of_getElem? (i := 1113) (by decide +kernel)⟩
theorem lw_p47 : lw_okq (⟨"MeshLodgerModel", "widest", "(I)I"⟩, 36) := ⟨⟨by decide +kernel, by decide +kernel⟩, List.mem_of_getElem? (i := 855) (by decide +kernel), List.mem_of_getElem? (i := 1116) (by decide +kernel), List.mem_of_getElem? (i := 1117) (by decide +kernel)⟩
def lw_privs_3 : List (MethodName × Nat) := [(⟨"MeshLodgerModel", "findsAll", "()V"⟩, 36), (⟨"MeshLodgerModel", "finds", "(III)V"⟩, 36), (⟨"MeshLodgerModel", "end", "(II)I"⟩, 36), (⟨"MeshLodgerModel", "leastBy", "(I)I"⟩, 36), (⟨"MeshLodgerModel", "cost", "(II)I"⟩, 36), (⟨"MeshLodgerModel", "needOf", "(I)I"⟩, 36), (⟨"MeshLodgerModel", "fits", "(II)Z"⟩, 36), (⟨"MeshLodgerModel", "takes", "(II)V"⟩, 36), (⟨"MeshLodgerModel", "keeps", "(III)V"⟩, 36), (⟨"MeshLodgerModel", "placesLeast", "()V"⟩, 36), (⟨"MeshLodgerModel", "secures", "()Z"⟩, 36), (⟨"MeshLodgerModel", "isWithin", "(I)Z"⟩, 36), (⟨"MeshLodgerModel", "placesSplit", "()Z"⟩, 36), (⟨"MeshLodgerModel", "splits", "()Z"⟩, 36), (⟨"MeshLodgerModel", "fewest", "(II)I"⟩, 36), (⟨"MeshLodgerModel", "widest", "(I)I"⟩, 36)]
theorem lw_r3 : ∀ q ∈ lw_privs_3, lw_okq q := List.forall_mem_cons.mpr ⟨lw_p32, List.forall_mem_cons.mpr ⟨lw_p33, List.forall_mem_cons.mpr ⟨lw_p34, List.forall_mem_cons.mpr ⟨lw_p35, List.forall_mem_cons.mpr ⟨lw_p36, List.forall_mem_cons.mpr ⟨lw_p37, List.forall_mem_cons.mpr ⟨lw_p38, List.forall_mem_cons.mpr ⟨lw_p39, List.forall_mem_cons.mpr ⟨lw_p40, List.forall_mem_cons.mpr ⟨lw_p41, List.forall_mem_cons.mpr ⟨lw_p42, List.forall_mem_cons.mpr ⟨lw_p43, List.forall_mem_cons.mpr ⟨lw_p44, List.forall_mem_cons.mpr ⟨lw_p45, List.forall_mem_cons.mpr ⟨lw_p46, List.forall_mem_cons.mpr ⟨lw_p47, fun _ h => absurd h List.not_mem_nil⟩⟩⟩⟩⟩⟩⟩⟩⟩⟩⟩⟩⟩⟩⟩⟩
theorem lw_p48 : lw_okq (⟨"MeshLodgerModel", "roomOf", "(I)I"⟩, 36) := ⟨⟨by decide +kernel, by decide +kernel⟩, List.mem_of_getElem? (i := 855) (by decide +kernel), List.mem_of_getElem? (i := 1120) (by decide +kernel), List.mem_of_getElem? (i := 1121) (by decide +kernel)⟩
theorem lw_p49 : lw_okq (⟨"MeshLodgerModel", "isRequest", "(I)Z"⟩, 36) := ⟨⟨by decide +kernel, by decide +kernel⟩, List.mem_of_getElem? (i := 855) (by decide +kernel), List.mem_of_getElem? (i := 1128) (by decide +kernel), List.mem_of_getElem? (i := 1129) (by decide +kernel)⟩
theorem lw_p50 : lw_okq (⟨"MeshLodgerModel", "canMove", "(I)Z"⟩, 36) := ⟨⟨by decide +kernel, by decide +kernel⟩, List.mem_of_getElem? (i := 855) (by decide +kernel), List.mem_of_getElem? (i := 1140) (by decide +kernel), List.mem_of_getElem? (i := 1141) (by decide +kernel)⟩
theorem lw_p51 : lw_okq (⟨"MeshLodgerModel", "isSplit", "(I)Z"⟩, 36) := ⟨⟨by decide +kernel, by decide +kernel⟩, List.mem_of_getElem? (i := 855) (by decide +kernel), List.mem_of_getElem? (i := 1144) (by decide +kernel), List.mem_of_getElem? (i := 1145) (by decide +kernel)⟩
theorem lw_p52 : lw_okq (⟨"MeshLodgerModel", "moves", "(III)I"⟩, 36) := ⟨⟨by decide +kernel, by decide +kernel⟩, List.mem_of_getElem? (i := 855) (by decide +kernel), List.mem_of_getElem? (i := 1148) (by decide +kernel), List.mem_of_getElem? (i := 1149) (by decide +kernel)⟩
theorem lw_p53 : lw_okq (⟨"MeshLodgerModel", "isOf", "(II)Z"⟩, 36) := ⟨⟨by decide +kernel, by decide +kernel⟩, List.mem_of_getElem? (i := 855) (by decide +kernel), List.mem_of_getElem? (i := 1152) (by decide +kernel), List.mem_of_getElem? (i := 1153) (by decide +kernel)⟩
theorem lw_p54 : lw_okq (⟨"MeshLodgerModel", "back", "(III)V"⟩, 36) := ⟨⟨by decide +kernel, by decide +kernel⟩, List.mem_of_getElem? (i := 855) (by decide +kernel), List.mem_of_getElem? (i := 1156) (by decide +kernel), List.mem_of_getElem? (i := 1157) (by decide +kernel)⟩
theorem lw_p55 : lw_okq (⟨"MeshLodgerModel", "letsIn", "(III)Z"⟩, 36) := ⟨⟨by decide +kernel, by decide +kernel⟩, List.mem_of_getElem? (i := 855) (by decide +kernel), List.mem_of_getElem? (i := 1164) (by decide +kernel), List.mem_of_getElem? (i := 1165) (by decide +kernel)⟩
theorem lw_p56 : lw_okq (⟨"MeshLodgerModel", "isLink", "(I)Z"⟩, 36) := ⟨⟨by decide +kernel, by decide +kernel⟩, List.mem_of_getElem? (i := 855) (by decide +kernel), List.mem_of_getElem? (i := 1172) (by decide +kernel), List.mem_of_getElem? (i := 1173) (by decide +kernel)⟩
theorem lw_p57 : lw_okq (⟨"MeshLodgerModel", "running", "(II)I"⟩, 36) := ⟨⟨by decide +kernel, by decide +kernel⟩, List.mem_of_getElem? (i := 855) (by decide +kernel), List.mem_of_getElem? (i := 1176) (by decide +kernel), List.mem_of_getElem? (i := 1177) (by decide +kernel)⟩
theorem lw_p58 : lw_okq (⟨"MeshLodgerModel", "runs", "(I)I"⟩, 36) := ⟨⟨by decide +kernel, by decide +kernel⟩, List.mem_of_getElem? (i := 855) (by decide +kernel), List.mem_of_getElem? (i := 1180) (by decide +kernel), List.mem_of_getElem? (i := 1181) (by decide +kernel)⟩
theorem lw_p59 : lw_okq (⟨"MeshLodgerModel", "failed", "(I)Z"⟩, 36) := ⟨⟨by decide +kernel, by decide +kernel⟩, List.mem_of_getElem? (i := 855) (by decide +kernel), List.mem_of_getElem? (i := 1184) (by decide +kernel), List.mem_of_getElem? (i := 1185) (by decide +kernel)⟩
theorem lw_p60 : lw_okq (⟨"MeshLodgerModel", "costOf", "(I)I"⟩, 36) := ⟨⟨by decide +kernel, by decide +kernel⟩, List.mem_of_getElem? (i := 855) (by decide +kernel), List.mem_of_getElem? (i := 1208) (by decide +kernel), List.mem_of_getElem? (i := 1209) (by decide +kernel)⟩
theorem lw_p61 : lw_okq (⟨"MeshLodgerModel", "leastNow", "()I"⟩, 36) := ⟨⟨by decide +kernel, by decide +kernel⟩, List.mem_of_getElem? (i := 855) (by decide +kernel), List.mem_of_getElem? (i := 1224) (by decide +kernel), List.mem_of_getElem? (i := 1225) (by decide +kernel)⟩
def lw_privs_4 : List (MethodName × Nat) := [(⟨"MeshLodgerModel", "roomOf", "(I)I"⟩, 36), (⟨"MeshLodgerModel", "isRequest", "(I)Z"⟩, 36), (⟨"MeshLodgerModel", "canMove", "(I)Z"⟩, 36), (⟨"MeshLodgerModel", "isSplit", "(I)Z"⟩, 36), (⟨"MeshLodgerModel", "moves", "(III)I"⟩, 36), (⟨"MeshLodgerModel", "isOf", "(II)Z"⟩, 36), (⟨"MeshLodgerModel", "back", "(III)V"⟩, 36), (⟨"MeshLodgerModel", "letsIn", "(III)Z"⟩, 36), (⟨"MeshLodgerModel", "isLink", "(I)Z"⟩, 36), (⟨"MeshLodgerModel", "running", "(II)I"⟩, 36), (⟨"MeshLodgerModel", "runs", "(I)I"⟩, 36), (⟨"MeshLodgerModel", "failed", "(I)Z"⟩, 36), (⟨"MeshLodgerModel", "costOf", "(I)I"⟩, 36), (⟨"MeshLodgerModel", "leastNow", "()I"⟩, 36)]
theorem lw_r4 : ∀ q ∈ lw_privs_4, lw_okq q := List.forall_mem_cons.mpr ⟨lw_p48, List.forall_mem_cons.mpr ⟨lw_p49, List.forall_mem_cons.mpr ⟨lw_p50, List.forall_mem_cons.mpr ⟨lw_p51, List.forall_mem_cons.mpr ⟨lw_p52, List.forall_mem_cons.mpr ⟨lw_p53, List.forall_mem_cons.mpr ⟨lw_p54, List.forall_mem_cons.mpr ⟨lw_p55, List.forall_mem_cons.mpr ⟨lw_p56, List.forall_mem_cons.mpr ⟨lw_p57, List.forall_mem_cons.mpr ⟨lw_p58, List.forall_mem_cons.mpr ⟨lw_p59, List.forall_mem_cons.mpr ⟨lw_p60, List.forall_mem_cons.mpr ⟨lw_p61, fun _ h => absurd h List.not_mem_nil⟩⟩⟩⟩⟩⟩⟩⟩⟩⟩⟩⟩⟩⟩
def lw_privs : List (MethodName × Nat) := lw_privs_1 ++ (lw_privs_2 ++ (lw_privs_3 ++ (lw_privs_4)))
def lw_tbl : List Cond := k2_sels lw_privs ++ tables_1
theorem lw_privs_ok : ∀ q ∈ lw_privs, lw_okq q := by
  show ∀ q ∈ lw_privs_1 ++ (lw_privs_2 ++ (lw_privs_3 ++ (lw_privs_4))), lw_okq q
  exact List.forall_mem_append.mpr ⟨lw_r1, List.forall_mem_append.mpr ⟨lw_r2, List.forall_mem_append.mpr ⟨lw_r3, lw_r4⟩⟩⟩
end
section
def RX0 : String := "MeshLodger$Books"
def TX0 : u_T := fun k => match k with
  | 0 => ("MeshLodger$Books", "ground", "LMeshLodger$Ground;", true)
  | 1 => ("MeshLodger$Books", "nodeNeeds", "[I", true)
  | 2 => ("MeshLodger$Books", "nodeParts", "[I", true)
  | 3 => ("MeshLodger$Books", "linkNeeds", "[I", true)
  | 4 => ("MeshLodger$Books", "reserved", "[I", true)
  | _ => ("MeshLodger$Books", "behind", "[[I", true)
def tyX0 : Nat → FieldType := fun k => match k with
  | 0 => .object "MeshLodger$Ground"
  | 1 => .array .int
  | 2 => .array .int
  | 3 => .array .int
  | 4 => .array .int
  | _ => .array (.array .int)
abbrev wsX00 : List Cond := u_ws RX0 TX0 6
theorem nmX0 : ∀ a, a < 6 → ∀ b, b < 6 → a ≠ b → (TX0 a).2.1 ≠ (TX0 b).2.1 := by decide +kernel
theorem tyX0_ok : ∀ k, k < 6 → parseFieldDescriptor (TX0 k).2.2.1 = some (tyX0 k) := by decide +kernel
abbrev cX0_init : ByteArray := prog_2_method_1_code
def yX0_init : MethodName := ⟨RX0, "<init>", "(LMeshLodger$Ground;)V"⟩
abbrev cX0_leftAtNode : ByteArray := prog_2_method_2_code
def yX0_leftAtNode : MethodName := ⟨RX0, "leftAtNode", "(I)I"⟩
abbrev cX0_leftOnLink : ByteArray := prog_2_method_3_code
def yX0_leftOnLink : MethodName := ⟨RX0, "leftOnLink", "(I)I"⟩
abbrev cX0_openFor : ByteArray := prog_2_method_4_code
def yX0_openFor : MethodName := ⟨RX0, "openFor", "(I)I"⟩
abbrev cX0_openBehind : ByteArray := prog_2_method_5_code
def yX0_openBehind : MethodName := ⟨RX0, "openBehind", "(II)I"⟩
abbrev cX0_enter : ByteArray := prog_2_method_6_code
def yX0_enter : MethodName := ⟨RX0, "enter", "(LMeshLodger$Request;I)V"⟩
abbrev cX0_enterPart : ByteArray := prog_2_method_7_code
def yX0_enterPart : MethodName := ⟨RX0, "enterPart", "(III)V"⟩
abbrev cX0_enterWays : ByteArray := prog_2_method_8_code
def yX0_enterWays : MethodName := ⟨RX0, "enterWays", "(LMeshLodger$Request;II)V"⟩
abbrev cX0_carry : ByteArray := prog_2_method_9_code
def yX0_carry : MethodName := ⟨RX0, "carry", "(II)V"⟩
abbrev cX0_enterSecondWay : ByteArray := prog_2_method_10_code
def yX0_enterSecondWay : MethodName := ⟨RX0, "enterSecondWay", "(LMeshLodger$Request;II)V"⟩
abbrev cX0_reserve : ByteArray := prog_2_method_11_code
def yX0_reserve : MethodName := ⟨RX0, "reserve", "(III)V"⟩
def RX1 : String := "MeshLodger$Choices"
def TX1 : u_T := fun k => match k with
  | 0 => ("MeshLodger$Choices", "ground", "LMeshLodger$Ground;", true)
  | 1 => ("MeshLodger$Choices", "books", "LMeshLodger$Books;", true)
  | _ => ("MeshLodger$Choices", "fitting", "[I", true)
def tyX1 : Nat → FieldType := fun k => match k with
  | 0 => .object "MeshLodger$Ground"
  | 1 => .object "MeshLodger$Books"
  | _ => .array .int
abbrev wsX10 : List Cond := u_ws RX1 TX1 3
theorem nmX1 : ∀ a, a < 3 → ∀ b, b < 3 → a ≠ b → (TX1 a).2.1 ≠ (TX1 b).2.1 := by decide +kernel
theorem tyX1_ok : ∀ k, k < 3 → parseFieldDescriptor (TX1 k).2.2.1 = some (tyX1 k) := by decide +kernel
abbrev cX1_init : ByteArray := prog_3_method_1_code
def yX1_init : MethodName := ⟨RX1, "<init>", "(LMeshLodger$Ground;LMeshLodger$Books;)V"⟩
abbrev cX1_prepare : ByteArray := prog_3_method_2_code
def yX1_prepare : MethodName := ⟨RX1, "prepare", "(LMeshLodger$Request;)I"⟩
abbrev cX1_take : ByteArray := prog_3_method_3_code
def yX1_take : MethodName := ⟨RX1, "take", "(LMeshLodger$Request;I)Z"⟩
def RX2 : String := "MeshLodger$Ground"
def TX2 : u_T := fun k => match k with
  | 0 => ("MeshLodger$Ground", "nodeRooms", "[I", true)
  | 1 => ("MeshLodger$Ground", "linkRooms", "[I", true)
  | 2 => ("MeshLodger$Ground", "linkStarts", "[I", true)
  | 3 => ("MeshLodger$Ground", "linkEnds", "[I", true)
  | 4 => ("MeshLodger$Ground", "ways", "[[I", true)
  | 5 => ("MeshLodger$Ground", "wayCounts", "[I", true)
  | 6 => ("MeshLodger$Ground", "nodes", "I", false)
  | 7 => ("MeshLodger$Ground", "links", "I", false)
  | _ => ("MeshLodger$Ground", "failed", "I", false)
def tyX2 : Nat → FieldType := fun k => match k with
  | 0 => .array .int
  | 1 => .array .int
  | 2 => .array .int
  | 3 => .array .int
  | 4 => .array (.array .int)
  | 5 => .array .int
  | 6 => .int
  | 7 => .int
  | _ => .int
abbrev wsX20 : List Cond := u_ws RX2 TX2 9
theorem nmX2 : ∀ a, a < 9 → ∀ b, b < 9 → a ≠ b → (TX2 a).2.1 ≠ (TX2 b).2.1 := by decide +kernel
theorem tyX2_ok : ∀ k, k < 9 → parseFieldDescriptor (TX2 k).2.2.1 = some (tyX2 k) := by decide +kernel
abbrev cX2_init : ByteArray := prog_4_method_1_code
def yX2_init : MethodName := ⟨RX2, "<init>", "()V"⟩
abbrev cX2_hasNode : ByteArray := prog_4_method_2_code
def yX2_hasNode : MethodName := ⟨RX2, "hasNode", "(I)Z"⟩
abbrev cX2_hasLink : ByteArray := prog_4_method_3_code
def yX2_hasLink : MethodName := ⟨RX2, "hasLink", "(I)Z"⟩
abbrev cX2_addNode : ByteArray := prog_4_method_4_code
def yX2_addNode : MethodName := ⟨RX2, "addNode", "(I)I"⟩
abbrev cX2_addLink : ByteArray := prog_4_method_5_code
def yX2_addLink : MethodName := ⟨RX2, "addLink", "(III)I"⟩
abbrev cX2_areLinked : ByteArray := prog_4_method_6_code
def yX2_areLinked : MethodName := ⟨RX2, "areLinked", "(II)Z"⟩
abbrev cX2_beyond : ByteArray := prog_4_method_7_code
def yX2_beyond : MethodName := ⟨RX2, "beyond", "(II)I"⟩
abbrev cX2_setFailed : ByteArray := prog_4_method_8_code
def yX2_setFailed : MethodName := ⟨RX2, "setFailed", "(IZ)V"⟩
abbrev cX2_findWays : ByteArray := prog_4_method_9_code
def yX2_findWays : MethodName := ⟨RX2, "findWays", "()V"⟩
abbrev cX2_walk : ByteArray := prog_4_method_10_code
def yX2_walk : MethodName := ⟨RX2, "walk", "(LMeshLodger$Ground;IIII)V"⟩
abbrev cX2_keepWay : ByteArray := prog_4_method_11_code
def yX2_keepWay : MethodName := ⟨RX2, "keepWay", "(II)V"⟩
abbrev cX2_pairOf : ByteArray := prog_4_method_12_code
def yX2_pairOf : MethodName := ⟨RX2, "pairOf", "(II)I"⟩
abbrev cX2_countOfWays : ByteArray := prog_4_method_13_code
def yX2_countOfWays : MethodName := ⟨RX2, "countOfWays", "(I)I"⟩
abbrev cX2_wayOf : ByteArray := prog_4_method_14_code
def yX2_wayOf : MethodName := ⟨RX2, "wayOf", "(II)I"⟩
abbrev cX2_shortest : ByteArray := prog_4_method_15_code
def yX2_shortest : MethodName := ⟨RX2, "shortest", "(II)I"⟩
def RX3 : String := "MeshLodger$Mover"
def TX3 : u_T := fun k => match k with
  | 0 => ("MeshLodger$Mover", "ground", "LMeshLodger$Ground;", true)
  | 1 => ("MeshLodger$Mover", "books", "LMeshLodger$Books;", true)
  | 2 => ("MeshLodger$Mover", "waysBefore", "[I", true)
  | _ => ("MeshLodger$Mover", "nodeBefore", "I", false)
def tyX3 : Nat → FieldType := fun k => match k with
  | 0 => .object "MeshLodger$Ground"
  | 1 => .object "MeshLodger$Books"
  | 2 => .array .int
  | _ => .int
abbrev wsX30 : List Cond := u_ws RX3 TX3 4
theorem nmX3 : ∀ a, a < 4 → ∀ b, b < 4 → a ≠ b → (TX3 a).2.1 ≠ (TX3 b).2.1 := by decide +kernel
theorem tyX3_ok : ∀ k, k < 4 → parseFieldDescriptor (TX3 k).2.2.1 = some (tyX3 k) := by decide +kernel
abbrev cX3_init : ByteArray := prog_5_method_1_code
def yX3_init : MethodName := ⟨RX3, "<init>", "(LMeshLodger$Ground;LMeshLodger$Books;)V"⟩
abbrev cX3_shift : ByteArray := prog_5_method_2_code
def yX3_shift : MethodName := ⟨RX3, "shift", "(LMeshLodger$Request;II)Z"⟩
abbrev cX3_takeBack : ByteArray := prog_5_method_3_code
def yX3_takeBack : MethodName := ⟨RX3, "takeBack", "(LMeshLodger$Request;I)V"⟩
abbrev cX3_findWay : ByteArray := prog_5_method_4_code
def yX3_findWay : MethodName := ⟨RX3, "findWay", "(LMeshLodger$Request;I)Z"⟩
abbrev cX3_putAt : ByteArray := prog_5_method_5_code
def yX3_putAt : MethodName := ⟨RX3, "putAt", "(LMeshLodger$Request;II)V"⟩
abbrev cX3_giveWay : ByteArray := prog_5_method_6_code
def yX3_giveWay : MethodName := ⟨RX3, "giveWay", "(LMeshLodger$Request;II)V"⟩
def RX4 : String := "MeshLodger$Placer"
def TX4 : u_T := fun k => match k with
  | 0 => ("MeshLodger$Placer", "ground", "LMeshLodger$Ground;", true)
  | 1 => ("MeshLodger$Placer", "books", "LMeshLodger$Books;", true)
  | 2 => ("MeshLodger$Placer", "search", "LMeshLodger$Search;", true)
  | _ => ("MeshLodger$Placer", "choices", "LMeshLodger$Choices;", true)
def tyX4 : Nat → FieldType := fun k => match k with
  | 0 => .object "MeshLodger$Ground"
  | 1 => .object "MeshLodger$Books"
  | 2 => .object "MeshLodger$Search"
  | _ => .object "MeshLodger$Choices"
abbrev wsX40 : List Cond := u_ws RX4 TX4 4
theorem nmX4 : ∀ a, a < 4 → ∀ b, b < 4 → a ≠ b → (TX4 a).2.1 ≠ (TX4 b).2.1 := by decide +kernel
theorem tyX4_ok : ∀ k, k < 4 → parseFieldDescriptor (TX4 k).2.2.1 = some (tyX4 k) := by decide +kernel
abbrev cX4_init : ByteArray := prog_6_method_1_code
def yX4_init : MethodName := ⟨RX4, "<init>", "(LMeshLodger$Ground;LMeshLodger$Books;LMeshLodger$Search;)V"⟩
abbrev cX4_lodge : ByteArray := prog_6_method_2_code
def yX4_lodge : MethodName := ⟨RX4, "lodge", "(LMeshLodger$Request;I)Z"⟩
abbrev cX4_mapSplit : ByteArray := prog_6_method_3_code
def yX4_mapSplit : MethodName := ⟨RX4, "mapSplit", "(LMeshLodger$Request;)Z"⟩
abbrev cX4_splitLines : ByteArray := prog_6_method_4_code
def yX4_splitLines : MethodName := ⟨RX4, "splitLines", "(LMeshLodger$Request;)Z"⟩
abbrev cX4_splitLine : ByteArray := prog_6_method_5_code
def yX4_splitLine : MethodName := ⟨RX4, "splitLine", "(LMeshLodger$Request;I)Z"⟩
abbrev cX4_secure : ByteArray := prog_6_method_6_code
def yX4_secure : MethodName := ⟨RX4, "secure", "(LMeshLodger$Request;)Z"⟩
def RX5 : String := "MeshLodger$Request"
def TX5 : u_T := fun k => match k with
  | 0 => ("MeshLodger$Request", "partNeeds", "[I", true)
  | 1 => ("MeshLodger$Request", "partNodes", "[I", true)
  | 2 => ("MeshLodger$Request", "places", "[I", true)
  | 3 => ("MeshLodger$Request", "firstParts", "[I", true)
  | 4 => ("MeshLodger$Request", "otherParts", "[I", true)
  | 5 => ("MeshLodger$Request", "lineNeeds", "[I", true)
  | 6 => ("MeshLodger$Request", "ways", "[I", true)
  | 7 => ("MeshLodger$Request", "shares", "[I", true)
  | 8 => ("MeshLodger$Request", "otherWays", "[I", true)
  | 9 => ("MeshLodger$Request", "secondWays", "[I", true)
  | 10 => ("MeshLodger$Request", "parts", "I", false)
  | 11 => ("MeshLodger$Request", "lines", "I", false)
  | 12 => ("MeshLodger$Request", "manner", "I", false)
  | 13 => ("MeshLodger$Request", "time", "I", false)
  | _ => ("MeshLodger$Request", "ended", "Z", false)
def tyX5 : Nat → FieldType := fun k => match k with
  | 0 => .array .int
  | 1 => .array .int
  | 2 => .array .int
  | 3 => .array .int
  | 4 => .array .int
  | 5 => .array .int
  | 6 => .array .int
  | 7 => .array .int
  | 8 => .array .int
  | 9 => .array .int
  | 10 => .int
  | 11 => .int
  | 12 => .int
  | 13 => .int
  | _ => .boolean
abbrev wsX50 : List Cond := u_ws RX5 TX5 15
theorem nmX5 : ∀ a, a < 15 → ∀ b, b < 15 → a ≠ b → (TX5 a).2.1 ≠ (TX5 b).2.1 := by decide +kernel
theorem tyX5_ok : ∀ k, k < 15 → parseFieldDescriptor (TX5 k).2.2.1 = some (tyX5 k) := by decide +kernel
abbrev cX5_init : ByteArray := prog_7_method_1_code
def yX5_init : MethodName := ⟨RX5, "<init>", "()V"⟩
abbrev cX5_hasPart : ByteArray := prog_7_method_2_code
def yX5_hasPart : MethodName := ⟨RX5, "hasPart", "(I)Z"⟩
abbrev cX5_hasLine : ByteArray := prog_7_method_3_code
def yX5_hasLine : MethodName := ⟨RX5, "hasLine", "(I)Z"⟩
abbrev cX5_addPart : ByteArray := prog_7_method_4_code
def yX5_addPart : MethodName := ⟨RX5, "addPart", "(II)I"⟩
abbrev cX5_addLine : ByteArray := prog_7_method_5_code
def yX5_addLine : MethodName := ⟨RX5, "addLine", "(III)I"⟩
abbrev cX5_hasLineFor : ByteArray := prog_7_method_6_code
def yX5_hasLineFor : MethodName := ⟨RX5, "hasLineFor", "(II)Z"⟩
abbrev cX5_isLineOf : ByteArray := prog_7_method_7_code
def yX5_isLineOf : MethodName := ⟨RX5, "isLineOf", "(II)Z"⟩
abbrev cX5_empty : ByteArray := prog_7_method_8_code
def yX5_empty : MethodName := ⟨RX5, "empty", "()I"⟩
abbrev cX5_nodeOf : ByteArray := prog_7_method_9_code
def yX5_nodeOf : MethodName := ⟨RX5, "nodeOf", "(I)I"⟩
abbrev cX5_pairOf : ByteArray := prog_7_method_10_code
def yX5_pairOf : MethodName := ⟨RX5, "pairOf", "(I)I"⟩
abbrev cX5_isAt : ByteArray := prog_7_method_11_code
def yX5_isAt : MethodName := ⟨RX5, "isAt", "(I)Z"⟩
abbrev cX5_setWay : ByteArray := prog_7_method_12_code
def yX5_setWay : MethodName := ⟨RX5, "setWay", "(II)V"⟩
abbrev cX5_restOf : ByteArray := prog_7_method_13_code
def yX5_restOf : MethodName := ⟨RX5, "restOf", "(I)I"⟩
abbrev cX5_isMovable : ByteArray := prog_7_method_14_code
def yX5_isMovable : MethodName := ⟨RX5, "isMovable", "()Z"⟩
abbrev cX5_isHit : ByteArray := prog_7_method_15_code
def yX5_isHit : MethodName := ⟨RX5, "isHit", "(II)Z"⟩
abbrev cX5_runsOnSecondWay : ByteArray := prog_7_method_16_code
def yX5_runsOnSecondWay : MethodName := ⟨RX5, "runsOnSecondWay", "(II)Z"⟩
abbrev cX5_linesOnSecondWay : ByteArray := prog_7_method_17_code
def yX5_linesOnSecondWay : MethodName := ⟨RX5, "linesOnSecondWay", "(I)I"⟩
abbrev cX5_stoppedLines : ByteArray := prog_7_method_18_code
def yX5_stoppedLines : MethodName := ⟨RX5, "stoppedLines", "(I)I"⟩
abbrev cX5_loadOn : ByteArray := prog_7_method_19_code
def yX5_loadOn : MethodName := ⟨RX5, "loadOn", "(II)I"⟩
abbrev cX5_cost : ByteArray := prog_7_method_20_code
def yX5_cost : MethodName := ⟨RX5, "cost", "()I"⟩
abbrev cX5_linksOfPart : ByteArray := prog_7_method_21_code
def yX5_linksOfPart : MethodName := ⟨RX5, "linksOfPart", "(I)I"⟩
def RX6 : String := "MeshLodger$Search"
def TX6 : u_T := fun k => match k with
  | 0 => ("MeshLodger$Search", "ground", "LMeshLodger$Ground;", true)
  | 1 => ("MeshLodger$Search", "books", "LMeshLodger$Books;", true)
  | 2 => ("MeshLodger$Search", "choices", "LMeshLodger$Choices;", true)
  | 3 => ("MeshLodger$Search", "tried", "[I", true)
  | 4 => ("MeshLodger$Search", "floors", "[I", true)
  | 5 => ("MeshLodger$Search", "leastPlaces", "[I", true)
  | 6 => ("MeshLodger$Search", "leastWays", "[I", true)
  | 7 => ("MeshLodger$Search", "thoroughness", "I", false)
  | _ => ("MeshLodger$Search", "leastCost", "I", false)
def tyX6 : Nat → FieldType := fun k => match k with
  | 0 => .object "MeshLodger$Ground"
  | 1 => .object "MeshLodger$Books"
  | 2 => .object "MeshLodger$Choices"
  | 3 => .array .int
  | 4 => .array .int
  | 5 => .array .int
  | 6 => .array .int
  | 7 => .int
  | _ => .int
abbrev wsX60 : List Cond := u_ws RX6 TX6 9
theorem nmX6 : ∀ a, a < 9 → ∀ b, b < 9 → a ≠ b → (TX6 a).2.1 ≠ (TX6 b).2.1 := by decide +kernel
theorem tyX6_ok : ∀ k, k < 9 → parseFieldDescriptor (TX6 k).2.2.1 = some (tyX6 k) := by decide +kernel
abbrev cX6_init : ByteArray := prog_8_method_1_code
def yX6_init : MethodName := ⟨RX6, "<init>", "(LMeshLodger$Ground;LMeshLodger$Books;)V"⟩
abbrev cX6_run : ByteArray := prog_8_method_2_code
def yX6_run : MethodName := ⟨RX6, "run", "(LMeshLodger$Request;I)I"⟩
abbrev cX6_handOver : ByteArray := prog_8_method_3_code
def yX6_handOver : MethodName := ⟨RX6, "handOver", "(LMeshLodger$Request;)V"⟩
abbrev cX6_findFloors : ByteArray := prog_8_method_4_code
def yX6_findFloors : MethodName := ⟨RX6, "findFloors", "(LMeshLodger$Request;)Z"⟩
abbrev cX6_isCut : ByteArray := prog_8_method_5_code
def yX6_isCut : MethodName := ⟨RX6, "isCut", "(I)Z"⟩
abbrev cX6_chooseWays : ByteArray := prog_8_method_6_code
def yX6_chooseWays : MethodName := ⟨RX6, "chooseWays", "(LMeshLodger$Search;LMeshLodger$Request;II)V"⟩
abbrev cX6_keepLeast : ByteArray := prog_8_method_7_code
def yX6_keepLeast : MethodName := ⟨RX6, "keepLeast", "(LMeshLodger$Request;I)V"⟩
def RX7 : String := "MeshLodger"
def TX7 : u_T := fun k => match k with
  | 0 => ("MeshLodger", "ground", "LMeshLodger$Ground;", true)
  | 1 => ("MeshLodger", "books", "LMeshLodger$Books;", true)
  | 2 => ("MeshLodger", "search", "LMeshLodger$Search;", true)
  | 3 => ("MeshLodger", "placer", "LMeshLodger$Placer;", true)
  | 4 => ("MeshLodger", "mover", "LMeshLodger$Mover;", true)
  | 5 => ("MeshLodger", "requests", "[LMeshLodger$Request;", true)
  | 6 => ("MeshLodger", "placed", "I", false)
  | _ => ("MeshLodger", "tick", "I", false)
def tyX7 : Nat → FieldType := fun k => match k with
  | 0 => .object "MeshLodger$Ground"
  | 1 => .object "MeshLodger$Books"
  | 2 => .object "MeshLodger$Search"
  | 3 => .object "MeshLodger$Placer"
  | 4 => .object "MeshLodger$Mover"
  | 5 => .array (.object "MeshLodger$Request")
  | 6 => .int
  | _ => .int
abbrev wsX70 : List Cond := u_ws RX7 TX7 8
theorem nmX7 : ∀ a, a < 8 → ∀ b, b < 8 → a ≠ b → (TX7 a).2.1 ≠ (TX7 b).2.1 := by decide +kernel
theorem tyX7_ok : ∀ k, k < 8 → parseFieldDescriptor (TX7 k).2.2.1 = some (tyX7 k) := by decide +kernel
abbrev cX7_init : ByteArray := prog_1_method_1_code
def yX7_init : MethodName := ⟨RX7, "<init>", "()V"⟩
abbrev cX7_node : ByteArray := prog_1_method_2_code
def yX7_node : MethodName := ⟨RX7, "node", "(I)I"⟩
abbrev cX7_link : ByteArray := prog_1_method_3_code
def yX7_link : MethodName := ⟨RX7, "link", "(III)I"⟩
abbrev cX7_fail : ByteArray := prog_1_method_4_code
def yX7_fail : MethodName := ⟨RX7, "fail", "(IZ)I"⟩
abbrev cX7_part : ByteArray := prog_1_method_5_code
def yX7_part : MethodName := ⟨RX7, "part", "(II)I"⟩
abbrev cX7_line : ByteArray := prog_1_method_6_code
def yX7_line : MethodName := ⟨RX7, "line", "(III)I"⟩
abbrev cX7_clear : ByteArray := prog_1_method_7_code
def yX7_clear : MethodName := ⟨RX7, "clear", "()I"⟩
abbrev cX7_place : ByteArray := prog_1_method_8_code
def yX7_place : MethodName := ⟨RX7, "place", "(II)I"⟩
abbrev cX7_end : ByteArray := prog_1_method_9_code
def yX7_end : MethodName := ⟨RX7, "end", "(I)V"⟩
abbrev cX7_move : ByteArray := prog_1_method_10_code
def yX7_move : MethodName := ⟨RX7, "move", "(III)I"⟩
abbrev cX7_pass : ByteArray := prog_1_method_11_code
def yX7_pass : MethodName := ⟨RX7, "pass", "(I)I"⟩
abbrev cX7_now : ByteArray := prog_1_method_12_code
def yX7_now : MethodName := ⟨RX7, "now", "()I"⟩
abbrev cX7_ofNode : ByteArray := prog_1_method_13_code
def yX7_ofNode : MethodName := ⟨RX7, "ofNode", "(II)I"⟩
abbrev cX7_ofLink : ByteArray := prog_1_method_14_code
def yX7_ofLink : MethodName := ⟨RX7, "ofLink", "(II)I"⟩
abbrev cX7_load : ByteArray := prog_1_method_15_code
def yX7_load : MethodName := ⟨RX7, "load", "(II)I"⟩
abbrev cX7_told : ByteArray := prog_1_method_16_code
def yX7_told : MethodName := ⟨RX7, "told", "(II)I"⟩
abbrev cX7_at : ByteArray := prog_1_method_17_code
def yX7_at : MethodName := ⟨RX7, "at", "(II)I"⟩
abbrev cX7_way : ByteArray := prog_1_method_18_code
def yX7_way : MethodName := ⟨RX7, "way", "(III)I"⟩
abbrev cX7_least : ByteArray := prog_1_method_19_code
def yX7_least : MethodName := ⟨RX7, "least", "()I"⟩
abbrev cX7_leastAnew : ByteArray := prog_1_method_20_code
def yX7_leastAnew : MethodName := ⟨RX7, "leastAnew", "()I"⟩
abbrev cX7_freeing : ByteArray := prog_1_method_21_code
def yX7_freeing : MethodName := ⟨RX7, "freeing", "()I"⟩
abbrev cX7_freeingNode : ByteArray := prog_1_method_22_code
def yX7_freeingNode : MethodName := ⟨RX7, "freeingNode", "(LMeshLodger$Request;II)I"⟩
abbrev cX7_draft : ByteArray := prog_1_method_23_code
def yX7_draft : MethodName := ⟨RX7, "draft", "()LMeshLodger$Request;"⟩
abbrev cX7_isPlaced : ByteArray := prog_1_method_24_code
def yX7_isPlaced : MethodName := ⟨RX7, "isPlaced", "(I)Z"⟩
abbrev cX7_dismiss : ByteArray := prog_1_method_25_code
def yX7_dismiss : MethodName := ⟨RX7, "dismiss", "(LMeshLodger$Request;)V"⟩
def RX8 : String := "MeshLodgerModel"
def TX8 : u_T := fun k => match k with
  | 0 => ("MeshLodgerModel", "now", "I", false)
  | 1 => ("MeshLodgerModel", "nodes", "I", false)
  | 2 => ("MeshLodgerModel", "nodeRoom", "[I", true)
  | 3 => ("MeshLodgerModel", "links", "I", false)
  | 4 => ("MeshLodgerModel", "one", "[I", true)
  | 5 => ("MeshLodgerModel", "other", "[I", true)
  | 6 => ("MeshLodgerModel", "linkRoom", "[I", true)
  | 7 => ("MeshLodgerModel", "hasFailed", "[Z", true)
  | 8 => ("MeshLodgerModel", "requests", "I", false)
  | 9 => ("MeshLodgerModel", "parts", "[I", true)
  | 10 => ("MeshLodgerModel", "lines", "[I", true)
  | 11 => ("MeshLodgerModel", "partNeed", "[I", true)
  | 12 => ("MeshLodgerModel", "partSet", "[I", true)
  | 13 => ("MeshLodgerModel", "at", "[I", true)
  | 14 => ("MeshLodgerModel", "lineFrom", "[I", true)
  | 15 => ("MeshLodgerModel", "lineTo", "[I", true)
  | 16 => ("MeshLodgerModel", "lineNeed", "[I", true)
  | 17 => ("MeshLodgerModel", "amount", "[I", true)
  | 18 => ("MeshLodgerModel", "way", "[I", true)
  | 19 => ("MeshLodgerModel", "rest", "[I", true)
  | 20 => ("MeshLodgerModel", "second", "[I", true)
  | 21 => ("MeshLodgerModel", "hasEnded", "[Z", true)
  | 22 => ("MeshLodgerModel", "manner", "[I", true)
  | 23 => ("MeshLodgerModel", "time", "[I", true)
  | 24 => ("MeshLodgerModel", "left", "[I", true)
  | 25 => ("MeshLodgerModel", "free", "[I", true)
  | 26 => ("MeshLodgerModel", "found", "[I", true)
  | 27 => ("MeshLodgerModel", "many", "[I", true)
  | 28 => ("MeshLodgerModel", "spot", "[I", true)
  | 29 => ("MeshLodgerModel", "next", "[I", true)
  | 30 => ("MeshLodgerModel", "gone", "[I", true)
  | 31 => ("MeshLodgerModel", "tries", "[I", true)
  | 32 => ("MeshLodgerModel", "bestAt", "[I", true)
  | 33 => ("MeshLodgerModel", "bestWay", "[I", true)
  | 34 => ("MeshLodgerModel", "oldWay", "[I", true)
  | _ => ("MeshLodgerModel", "thrown", "I", false)
def tyX8 : Nat → FieldType := fun k => match k with
  | 0 => .int
  | 1 => .int
  | 2 => .array .int
  | 3 => .int
  | 4 => .array .int
  | 5 => .array .int
  | 6 => .array .int
  | 7 => .array .boolean
  | 8 => .int
  | 9 => .array .int
  | 10 => .array .int
  | 11 => .array .int
  | 12 => .array .int
  | 13 => .array .int
  | 14 => .array .int
  | 15 => .array .int
  | 16 => .array .int
  | 17 => .array .int
  | 18 => .array .int
  | 19 => .array .int
  | 20 => .array .int
  | 21 => .array .boolean
  | 22 => .array .int
  | 23 => .array .int
  | 24 => .array .int
  | 25 => .array .int
  | 26 => .array .int
  | 27 => .array .int
  | 28 => .array .int
  | 29 => .array .int
  | 30 => .array .int
  | 31 => .array .int
  | 32 => .array .int
  | 33 => .array .int
  | 34 => .array .int
  | _ => .int
abbrev wsX80 : List Cond := u_ws RX8 TX8 36
theorem nmX8 : ∀ a, a < 36 → ∀ b, b < 36 → a ≠ b → (TX8 a).2.1 ≠ (TX8 b).2.1 := by decide +kernel
theorem tyX8_ok : ∀ k, k < 36 → parseFieldDescriptor (TX8 k).2.2.1 = some (tyX8 k) := by decide +kernel
abbrev cX8_init : ByteArray := prog_10_method_1_code
def yX8_init : MethodName := ⟨RX8, "<init>", "()V"⟩
abbrev cX8_thrown : ByteArray := prog_10_method_2_code
def yX8_thrown : MethodName := ⟨RX8, "thrown", "()I"⟩
abbrev cX8_can : ByteArray := prog_10_method_3_code
def yX8_can : MethodName := ⟨RX8, "can", "(I)Z"⟩
abbrev cX8_isIn : ByteArray := prog_10_method_4_code
def yX8_isIn : MethodName := ⟨RX8, "isIn", "(III)Z"⟩
abbrev cX8_isNode : ByteArray := prog_10_method_5_code
def yX8_isNode : MethodName := ⟨RX8, "isNode", "(I)Z"⟩
abbrev cX8_isLink : ByteArray := prog_10_method_6_code
def yX8_isLink : MethodName := ⟨RX8, "isLink", "(I)Z"⟩
abbrev cX8_isRequest : ByteArray := prog_10_method_7_code
def yX8_isRequest : MethodName := ⟨RX8, "isRequest", "(I)Z"⟩
abbrev cX8_has : ByteArray := prog_10_method_8_code
def yX8_has : MethodName := ⟨RX8, "has", "(II)Z"⟩
abbrev cX8_bits : ByteArray := prog_10_method_9_code
def yX8_bits : MethodName := ⟨RX8, "bits", "(I)I"⟩
abbrev cX8_node : ByteArray := prog_10_method_10_code
def yX8_node : MethodName := ⟨RX8, "node", "(I)I"⟩
abbrev cX8_areLinked : ByteArray := prog_10_method_11_code
def yX8_areLinked : MethodName := ⟨RX8, "areLinked", "(II)Z"⟩
abbrev cX8_link : ByteArray := prog_10_method_12_code
def yX8_link : MethodName := ⟨RX8, "link", "(III)I"⟩
abbrev cX8_end : ByteArray := prog_10_method_13_code
def yX8_end : MethodName := ⟨RX8, "end", "(II)I"⟩
abbrev cX8_finds : ByteArray := prog_10_method_14_code
def yX8_finds : MethodName := ⟨RX8, "finds", "(III)V"⟩
abbrev cX8_needs : ByteArray := prog_10_method_15_code
def yX8_needs : MethodName := ⟨RX8, "needs", "(I)I"⟩
abbrev cX8_shared : ByteArray := prog_10_method_16_code
def yX8_shared : MethodName := ⟨RX8, "shared", "(III)I"⟩
abbrev cX8_reserved : ByteArray := prog_10_method_17_code
def yX8_reserved : MethodName := ⟨RX8, "reserved", "(II)I"⟩
abbrev cX8_sumsRooms : ByteArray := prog_10_method_18_code
def yX8_sumsRooms : MethodName := ⟨RX8, "sumsRooms", "()V"⟩
abbrev cX8_needsAt : ByteArray := prog_10_method_19_code
def yX8_needsAt : MethodName := ⟨RX8, "needsAt", "(I)I"⟩
abbrev cX8_fits : ByteArray := prog_10_method_20_code
def yX8_fits : MethodName := ⟨RX8, "fits", "(II)Z"⟩
abbrev cX8_takes : ByteArray := prog_10_method_21_code
def yX8_takes : MethodName := ⟨RX8, "takes", "(II)V"⟩
abbrev cX8_part : ByteArray := prog_10_method_22_code
def yX8_part : MethodName := ⟨RX8, "part", "(II)I"⟩
abbrev cX8_areLined : ByteArray := prog_10_method_23_code
def yX8_areLined : MethodName := ⟨RX8, "areLined", "(II)Z"⟩
abbrev cX8_line : ByteArray := prog_10_method_24_code
def yX8_line : MethodName := ⟨RX8, "line", "(III)I"⟩
abbrev cX8_clear : ByteArray := prog_10_method_25_code
def yX8_clear : MethodName := ⟨RX8, "clear", "()I"⟩
abbrev cX8_isChoice : ByteArray := prog_10_method_26_code
def yX8_isChoice : MethodName := ⟨RX8, "isChoice", "()Z"⟩
abbrev cX8_chooses : ByteArray := prog_10_method_27_code
def yX8_chooses : MethodName := ⟨RX8, "chooses", "(I)Z"⟩
abbrev cX8_needOf : ByteArray := prog_10_method_28_code
def yX8_needOf : MethodName := ⟨RX8, "needOf", "(I)I"⟩
abbrev cX8_findsAll : ByteArray := prog_10_method_29_code
def yX8_findsAll : MethodName := ⟨RX8, "findsAll", "()V"⟩
abbrev cX8_cost : ByteArray := prog_10_method_30_code
def yX8_cost : MethodName := ⟨RX8, "cost", "(II)I"⟩
abbrev cX8_leastBy : ByteArray := prog_10_method_31_code
def yX8_leastBy : MethodName := ⟨RX8, "leastBy", "(I)I"⟩
abbrev cX8_keeps : ByteArray := prog_10_method_32_code
def yX8_keeps : MethodName := ⟨RX8, "keeps", "(III)V"⟩
abbrev cX8_leastOf : ByteArray := prog_10_method_33_code
def yX8_leastOf : MethodName := ⟨RX8, "leastOf", "(Z)I"⟩
abbrev cX8_fewest : ByteArray := prog_10_method_34_code
def yX8_fewest : MethodName := ⟨RX8, "fewest", "(II)I"⟩
abbrev cX8_roomOf : ByteArray := prog_10_method_35_code
def yX8_roomOf : MethodName := ⟨RX8, "roomOf", "(I)I"⟩
abbrev cX8_widest : ByteArray := prog_10_method_36_code
def yX8_widest : MethodName := ⟨RX8, "widest", "(I)I"⟩
abbrev cX8_splits : ByteArray := prog_10_method_37_code
def yX8_splits : MethodName := ⟨RX8, "splits", "()Z"⟩
abbrev cX8_placesSplit : ByteArray := prog_10_method_38_code
def yX8_placesSplit : MethodName := ⟨RX8, "placesSplit", "()Z"⟩
abbrev cX8_placesLeast : ByteArray := prog_10_method_39_code
def yX8_placesLeast : MethodName := ⟨RX8, "placesLeast", "()V"⟩
abbrev cX8_isWithin : ByteArray := prog_10_method_40_code
def yX8_isWithin : MethodName := ⟨RX8, "isWithin", "(I)Z"⟩
abbrev cX8_secures : ByteArray := prog_10_method_41_code
def yX8_secures : MethodName := ⟨RX8, "secures", "()Z"⟩
abbrev cX8_place : ByteArray := prog_10_method_42_code
def yX8_place : MethodName := ⟨RX8, "place", "(II)I"⟩
abbrev cX8_end_ : ByteArray := prog_10_method_43_code
def yX8_end_ : MethodName := ⟨RX8, "end", "(I)V"⟩
abbrev cX8_pass : ByteArray := prog_10_method_44_code
def yX8_pass : MethodName := ⟨RX8, "pass", "(I)I"⟩
abbrev cX8_isSplit : ByteArray := prog_10_method_45_code
def yX8_isSplit : MethodName := ⟨RX8, "isSplit", "(I)Z"⟩
abbrev cX8_isOf : ByteArray := prog_10_method_46_code
def yX8_isOf : MethodName := ⟨RX8, "isOf", "(II)Z"⟩
abbrev cX8_moves : ByteArray := prog_10_method_47_code
def yX8_moves : MethodName := ⟨RX8, "moves", "(III)I"⟩
abbrev cX8_back : ByteArray := prog_10_method_48_code
def yX8_back : MethodName := ⟨RX8, "back", "(III)V"⟩
abbrev cX8_canMove : ByteArray := prog_10_method_49_code
def yX8_canMove : MethodName := ⟨RX8, "canMove", "(I)Z"⟩
abbrev cX8_move : ByteArray := prog_10_method_50_code
def yX8_move : MethodName := ⟨RX8, "move", "(III)I"⟩
abbrev cX8_letsIn : ByteArray := prog_10_method_51_code
def yX8_letsIn : MethodName := ⟨RX8, "letsIn", "(III)Z"⟩
abbrev cX8_freeing : ByteArray := prog_10_method_52_code
def yX8_freeing : MethodName := ⟨RX8, "freeing", "()I"⟩
abbrev cX8_failed : ByteArray := prog_10_method_53_code
def yX8_failed : MethodName := ⟨RX8, "failed", "(I)Z"⟩
abbrev cX8_runs : ByteArray := prog_10_method_54_code
def yX8_runs : MethodName := ⟨RX8, "runs", "(I)I"⟩
abbrev cX8_running : ByteArray := prog_10_method_55_code
def yX8_running : MethodName := ⟨RX8, "running", "(II)I"⟩
abbrev cX8_fail : ByteArray := prog_10_method_56_code
def yX8_fail : MethodName := ⟨RX8, "fail", "(IZ)I"⟩
abbrev cX8_now : ByteArray := prog_10_method_57_code
def yX8_now : MethodName := ⟨RX8, "now", "()I"⟩
abbrev cX8_ofNode : ByteArray := prog_10_method_58_code
def yX8_ofNode : MethodName := ⟨RX8, "ofNode", "(II)I"⟩
abbrev cX8_ofLink : ByteArray := prog_10_method_59_code
def yX8_ofLink : MethodName := ⟨RX8, "ofLink", "(II)I"⟩
abbrev cX8_load : ByteArray := prog_10_method_60_code
def yX8_load : MethodName := ⟨RX8, "load", "(II)I"⟩
abbrev cX8_costOf : ByteArray := prog_10_method_61_code
def yX8_costOf : MethodName := ⟨RX8, "costOf", "(I)I"⟩
abbrev cX8_told : ByteArray := prog_10_method_62_code
def yX8_told : MethodName := ⟨RX8, "told", "(II)I"⟩
abbrev cX8_at : ByteArray := prog_10_method_63_code
def yX8_at : MethodName := ⟨RX8, "at", "(II)I"⟩
abbrev cX8_way : ByteArray := prog_10_method_64_code
def yX8_way : MethodName := ⟨RX8, "way", "(III)I"⟩
abbrev cX8_leastNow : ByteArray := prog_10_method_65_code
def yX8_leastNow : MethodName := ⟨RX8, "leastNow", "()I"⟩
abbrev cX8_least : ByteArray := prog_10_method_66_code
def yX8_least : MethodName := ⟨RX8, "least", "()I"⟩
abbrev cX8_leastAnew : ByteArray := prog_10_method_67_code
def yX8_leastAnew : MethodName := ⟨RX8, "leastAnew", "()I"⟩
def RJ6 : String := "java/lang/Integer"
abbrev cJ6_bitCount_0f7a4 : ByteArray := prog_15_method_49_code
def yJ6_bitCount_0f7a4 : MethodName := ⟨RJ6, "bitCount", "(I)I"⟩
def RJ9 : String := "java/lang/Math"
abbrev cJ9_max_7cf53 : ByteArray := prog_16_method_65_code
def yJ9_max_7cf53 : MethodName := ⟨RJ9, "max", "(II)I"⟩
def RJ0 : String := "java/lang/String"
def RL : String := "MeshLodgerLaw"
abbrev cL_node : ByteArray := method_3_code
def yL_node : MethodName := ⟨RL, "node", "(LMeshLodger;I[J)I"⟩
abbrev cL_link : ByteArray := method_4_code
def yL_link : MethodName := ⟨RL, "link", "(LMeshLodger;III[J)I"⟩
abbrev cL_fail : ByteArray := method_5_code
def yL_fail : MethodName := ⟨RL, "fail", "(LMeshLodger;IZ[J)I"⟩
abbrev cL_part : ByteArray := method_6_code
def yL_part : MethodName := ⟨RL, "part", "(LMeshLodger;II[J)I"⟩
abbrev cL_line : ByteArray := method_7_code
def yL_line : MethodName := ⟨RL, "line", "(LMeshLodger;III[J)I"⟩
abbrev cL_place : ByteArray := method_8_code
def yL_place : MethodName := ⟨RL, "place", "(LMeshLodger;II[J)I"⟩
abbrev cL_end : ByteArray := method_9_code
def yL_end : MethodName := ⟨RL, "end", "(LMeshLodger;I)I"⟩
abbrev cL_move : ByteArray := method_10_code
def yL_move : MethodName := ⟨RL, "move", "(LMeshLodger;III[J)I"⟩
abbrev cL_pass : ByteArray := method_11_code
def yL_pass : MethodName := ⟨RL, "pass", "(LMeshLodger;I[J)I"⟩
abbrev cL_ofNode : ByteArray := method_12_code
def yL_ofNode : MethodName := ⟨RL, "ofNode", "(LMeshLodger;II[J)I"⟩
abbrev cL_ofLink : ByteArray := method_13_code
def yL_ofLink : MethodName := ⟨RL, "ofLink", "(LMeshLodger;II[J)I"⟩
abbrev cL_load : ByteArray := method_14_code
def yL_load : MethodName := ⟨RL, "load", "(LMeshLodger;II[J)I"⟩
abbrev cL_told : ByteArray := method_15_code
def yL_told : MethodName := ⟨RL, "told", "(LMeshLodger;II[J)I"⟩
abbrev cL_at : ByteArray := method_16_code
def yL_at : MethodName := ⟨RL, "at", "(LMeshLodger;II[J)I"⟩
abbrev cL_way : ByteArray := method_17_code
def yL_way : MethodName := ⟨RL, "way", "(LMeshLodger;III[J)I"⟩
abbrev cL_law : ByteArray := code
def yL_law : MethodName := ⟨RL, "law", "([I)Z"⟩
abbrev vwCl : List vw_C := [(RX0, TX0, 6), (RX1, TX1, 3), (RX2, TX2, 9), (RX3, TX3, 4), (RX4, TX4, 4), (RX5, TX5, 15), (RX6, TX6, 9), (RX7, TX7, 8), (RX8, TX8, 36)]
end
section
/-! the world: numbered cells; an int at each (cell, place) -/
abbrev Mm : Type := Nat → Nat → Int32
def up2 (μ : Mm) (c k : Nat) (v : Int32) : Mm := fun c2 => if c2 = c then upd (μ c) k v else μ c2
/-- a cell: an array (type, length); an array of references (type, which cells); an object (class, fields: none an int, some a reference) -/
abbrev LE : Type := (Nat × Nat) ⊕ ((Nat × List (Option Nat)) ⊕ (Nat × List (Option Nat)))
def lays : List LE := [
  .inr (.inr (7, [some 1, some 2, some 3, some 4, some 5, some 59, none, none])),
  .inr (.inr (2, [some 7, some 8, some 9, some 10, some 57, some 11, none, none, none])),
  .inr (.inr (0, [some 1, some 12, some 13, some 14, some 15, some 58])),
  .inr (.inr (6, [some 1, some 2, some 52, some 16, some 17, some 18, some 19, none, none])),
  .inr (.inr (4, [some 1, some 2, some 3, some 54])),
  .inr (.inr (3, [some 1, some 2, some 20, none])),
  .inr (.inr (8, [none, none, some 21, none, some 22, some 23, some 24, some 25, none, some 26, some 27, some 28, some 29, some 30, some 31, some 32, some 33, some 34, some 35, some 36, some 37, some 38, some 39, some 40, some 41, some 42, some 43, some 44, some 45, some 46, some 47, some 48, some 49, some 50, some 51, none])),
  .inl (0, 6),
  .inl (0, 9),
  .inl (0, 9),
  .inl (0, 9),
  .inl (0, 36),
  .inl (0, 6),
  .inl (0, 6),
  .inl (0, 9),
  .inl (0, 9),
  .inl (0, 3),
  .inl (0, 4),
  .inl (0, 3),
  .inl (0, 3),
  .inl (0, 3),
  .inl (0, 6),
  .inl (0, 9),
  .inl (0, 9),
  .inl (0, 9),
  .inl (1, 9),
  .inl (0, 13),
  .inl (0, 13),
  .inl (0, 39),
  .inl (0, 39),
  .inl (0, 39),
  .inl (0, 39),
  .inl (0, 39),
  .inl (0, 39),
  .inl (0, 39),
  .inl (0, 39),
  .inl (0, 39),
  .inl (0, 39),
  .inl (1, 13),
  .inl (0, 13),
  .inl (0, 13),
  .inl (0, 6),
  .inl (0, 9),
  .inl (0, 192),
  .inl (0, 3),
  .inl (0, 7),
  .inl (0, 7),
  .inl (0, 7),
  .inl (0, 3),
  .inl (0, 3),
  .inl (0, 3),
  .inl (0, 3),
  .inr (.inr (1, [some 1, some 2, some 53])),
  .inl (0, 3),
  .inr (.inr (1, [some 1, some 2, some 55])),
  .inl (0, 3),
  .inl (2, 1),
  .inr (.inl (3, [some 60, some 61, some 62, some 63, some 64, some 65, some 66, some 67, some 68, some 69, some 70, some 71, some 72, some 73, some 74, some 75, some 76, some 77, some 78, some 79, some 80, some 81, some 82, some 83, some 84, some 85, some 86, some 87, some 88, some 89, some 90, some 91, some 92, some 93, some 94, some 95])),
  .inr (.inl (3, [some 96, some 97, some 98, some 99, some 100, some 101, some 102, some 103, some 104])),
  .inr (.inl (4, [some 105, some 116, some 127, some 138, some 149, some 160, some 171, some 182, some 193, some 204, some 215, some 226, some 237])),
  .inl (0, 15),
  .inl (0, 15),
  .inl (0, 15),
  .inl (0, 15),
  .inl (0, 15),
  .inl (0, 15),
  .inl (0, 15),
  .inl (0, 15),
  .inl (0, 15),
  .inl (0, 15),
  .inl (0, 15),
  .inl (0, 15),
  .inl (0, 15),
  .inl (0, 15),
  .inl (0, 15),
  .inl (0, 15),
  .inl (0, 15),
  .inl (0, 15),
  .inl (0, 15),
  .inl (0, 15),
  .inl (0, 15),
  .inl (0, 15),
  .inl (0, 15),
  .inl (0, 15),
  .inl (0, 15),
  .inl (0, 15),
  .inl (0, 15),
  .inl (0, 15),
  .inl (0, 15),
  .inl (0, 15),
  .inl (0, 15),
  .inl (0, 15),
  .inl (0, 15),
  .inl (0, 15),
  .inl (0, 15),
  .inl (0, 15),
  .inl (0, 9),
  .inl (0, 9),
  .inl (0, 9),
  .inl (0, 9),
  .inl (0, 9),
  .inl (0, 9),
  .inl (0, 9),
  .inl (0, 9),
  .inl (0, 9),
  .inr (.inr (5, [some 106, some 107, some 108, some 109, some 110, some 111, some 112, some 113, some 114, some 115, none, none, none, none, none])),
  .inl (0, 3),
  .inl (0, 3),
  .inl (0, 3),
  .inl (0, 3),
  .inl (0, 3),
  .inl (0, 3),
  .inl (0, 3),
  .inl (0, 3),
  .inl (0, 3),
  .inl (0, 3),
  .inr (.inr (5, [some 117, some 118, some 119, some 120, some 121, some 122, some 123, some 124, some 125, some 126, none, none, none, none, none])),
  .inl (0, 3),
  .inl (0, 3),
  .inl (0, 3),
  .inl (0, 3),
  .inl (0, 3),
  .inl (0, 3),
  .inl (0, 3),
  .inl (0, 3),
  .inl (0, 3),
  .inl (0, 3),
  .inr (.inr (5, [some 128, some 129, some 130, some 131, some 132, some 133, some 134, some 135, some 136, some 137, none, none, none, none, none])),
  .inl (0, 3),
  .inl (0, 3),
  .inl (0, 3),
  .inl (0, 3),
  .inl (0, 3),
  .inl (0, 3),
  .inl (0, 3),
  .inl (0, 3),
  .inl (0, 3),
  .inl (0, 3),
  .inr (.inr (5, [some 139, some 140, some 141, some 142, some 143, some 144, some 145, some 146, some 147, some 148, none, none, none, none, none])),
  .inl (0, 3),
  .inl (0, 3),
  .inl (0, 3),
  .inl (0, 3),
  .inl (0, 3),
  .inl (0, 3),
  .inl (0, 3),
  .inl (0, 3),
  .inl (0, 3),
  .inl (0, 3),
  .inr (.inr (5, [some 150, some 151, some 152, some 153, some 154, some 155, some 156, some 157, some 158, some 159, none, none, none, none, none])),
  .inl (0, 3),
  .inl (0, 3),
  .inl (0, 3),
  .inl (0, 3),
  .inl (0, 3),
  .inl (0, 3),
  .inl (0, 3),
  .inl (0, 3),
  .inl (0, 3),
  .inl (0, 3),
  .inr (.inr (5, [some 161, some 162, some 163, some 164, some 165, some 166, some 167, some 168, some 169, some 170, none, none, none, none, none])),
  .inl (0, 3),
  .inl (0, 3),
  .inl (0, 3),
  .inl (0, 3),
  .inl (0, 3),
  .inl (0, 3),
  .inl (0, 3),
  .inl (0, 3),
  .inl (0, 3),
  .inl (0, 3),
  .inr (.inr (5, [some 172, some 173, some 174, some 175, some 176, some 177, some 178, some 179, some 180, some 181, none, none, none, none, none])),
  .inl (0, 3),
  .inl (0, 3),
  .inl (0, 3),
  .inl (0, 3),
  .inl (0, 3),
  .inl (0, 3),
  .inl (0, 3),
  .inl (0, 3),
  .inl (0, 3),
  .inl (0, 3),
  .inr (.inr (5, [some 183, some 184, some 185, some 186, some 187, some 188, some 189, some 190, some 191, some 192, none, none, none, none, none])),
  .inl (0, 3),
  .inl (0, 3),
  .inl (0, 3),
  .inl (0, 3),
  .inl (0, 3),
  .inl (0, 3),
  .inl (0, 3),
  .inl (0, 3),
  .inl (0, 3),
  .inl (0, 3),
  .inr (.inr (5, [some 194, some 195, some 196, some 197, some 198, some 199, some 200, some 201, some 202, some 203, none, none, none, none, none])),
  .inl (0, 3),
  .inl (0, 3),
  .inl (0, 3),
  .inl (0, 3),
  .inl (0, 3),
  .inl (0, 3),
  .inl (0, 3),
  .inl (0, 3),
  .inl (0, 3),
  .inl (0, 3),
  .inr (.inr (5, [some 205, some 206, some 207, some 208, some 209, some 210, some 211, some 212, some 213, some 214, none, none, none, none, none])),
  .inl (0, 3),
  .inl (0, 3),
  .inl (0, 3),
  .inl (0, 3),
  .inl (0, 3),
  .inl (0, 3),
  .inl (0, 3),
  .inl (0, 3),
  .inl (0, 3),
  .inl (0, 3),
  .inr (.inr (5, [some 216, some 217, some 218, some 219, some 220, some 221, some 222, some 223, some 224, some 225, none, none, none, none, none])),
  .inl (0, 3),
  .inl (0, 3),
  .inl (0, 3),
  .inl (0, 3),
  .inl (0, 3),
  .inl (0, 3),
  .inl (0, 3),
  .inl (0, 3),
  .inl (0, 3),
  .inl (0, 3),
  .inr (.inr (5, [some 227, some 228, some 229, some 230, some 231, some 232, some 233, some 234, some 235, some 236, none, none, none, none, none])),
  .inl (0, 3),
  .inl (0, 3),
  .inl (0, 3),
  .inl (0, 3),
  .inl (0, 3),
  .inl (0, 3),
  .inl (0, 3),
  .inl (0, 3),
  .inl (0, 3),
  .inl (0, 3),
  .inr (.inr (5, [some 238, some 239, some 240, some 241, some 242, some 243, some 244, some 245, some 246, some 247, none, none, none, none, none])),
  .inl (0, 3),
  .inl (0, 3),
  .inl (0, 3),
  .inl (0, 3),
  .inl (0, 3),
  .inl (0, 3),
  .inl (0, 3),
  .inl (0, 3),
  .inl (0, 3),
  .inl (0, 3)]
abbrev p_ML : Nat := 0
abbrev p_GR : Nat := 1
abbrev p_BK : Nat := 2
abbrev p_SE : Nat := 3
abbrev p_PL : Nat := 4
abbrev p_MV : Nat := 5
abbrev p_MO : Nat := 6
abbrev p_GR_nodeRooms : Nat := 7
abbrev p_GR_linkRooms : Nat := 8
abbrev p_GR_linkStarts : Nat := 9
abbrev p_GR_linkEnds : Nat := 10
abbrev p_GR_wayCounts : Nat := 11
abbrev p_BK_nodeNeeds : Nat := 12
abbrev p_BK_nodeParts : Nat := 13
abbrev p_BK_linkNeeds : Nat := 14
abbrev p_BK_reserved : Nat := 15
abbrev p_SE_tried : Nat := 16
abbrev p_SE_floors : Nat := 17
abbrev p_SE_leastPlaces : Nat := 18
abbrev p_SE_leastWays : Nat := 19
abbrev p_MV_waysBefore : Nat := 20
abbrev p_MO_nodeRoom : Nat := 21
abbrev p_MO_one : Nat := 22
abbrev p_MO_other : Nat := 23
abbrev p_MO_linkRoom : Nat := 24
abbrev p_MO_hasFailed : Nat := 25
abbrev p_MO_parts : Nat := 26
abbrev p_MO_lines : Nat := 27
abbrev p_MO_partNeed : Nat := 28
abbrev p_MO_partSet : Nat := 29
abbrev p_MO_at : Nat := 30
abbrev p_MO_lineFrom : Nat := 31
abbrev p_MO_lineTo : Nat := 32
abbrev p_MO_lineNeed : Nat := 33
abbrev p_MO_amount : Nat := 34
abbrev p_MO_way : Nat := 35
abbrev p_MO_rest : Nat := 36
abbrev p_MO_second : Nat := 37
abbrev p_MO_hasEnded : Nat := 38
abbrev p_MO_manner : Nat := 39
abbrev p_MO_time : Nat := 40
abbrev p_MO_left : Nat := 41
abbrev p_MO_free : Nat := 42
abbrev p_MO_found : Nat := 43
abbrev p_MO_many : Nat := 44
abbrev p_MO_spot : Nat := 45
abbrev p_MO_next : Nat := 46
abbrev p_MO_gone : Nat := 47
abbrev p_MO_tries : Nat := 48
abbrev p_MO_bestAt : Nat := 49
abbrev p_MO_bestWay : Nat := 50
abbrev p_MO_oldWay : Nat := 51
abbrev p_CS : Nat := 52
abbrev p_CS_fitting : Nat := 53
abbrev p_CP : Nat := 54
abbrev p_CP_fitting : Nat := 55
abbrev p_OUT : Nat := 56
abbrev p_GR_ways : Nat := 57
abbrev p_BK_behind : Nat := 58
abbrev p_ML_requests : Nat := 59
abbrev p_WY : Nat := 60
abbrev p_BH : Nat := 96
abbrev p_RQ : Nat := 105
end
section
/-! what a method needs of the tables: every good word; the nest's words beside them -/
def Om : List Cond := lw_tbl.filter goodWord
def isNest : Cond → Bool
  | .fieldLinkNest _ _ _ _ _ _ => true
  | .methodLinkNest _ _ _ _ => true
  | _ => false
def nestL : List Cond := tables_1.filter isNest
def NW (s : State) : Prop := ∀ w ∈ nestL, va_Nw w s
theorem NW.warm {s U : State} (hW : s.WarmedH U.vm) (h : NW s) : NW U := by
  intro w hw
  have h1 := h w hw
  have h2 := (List.mem_filter.mp hw).2
  cases w <;> first | exact va_Nw.warmF hW h1 | exact va_Nw.warmM hW h1 | (simp [isNest] at h2)
theorem NW.same {s U : State} (hW : s.vm = U.vm) (h : NW s) : NW U := by
  intro w hw
  have h1 := h w hw
  have h2 := (List.mem_filter.mp hw).2
  cases w <;> first | exact va_Nw.same rfl hW h1 | (simp [isNest] at h2)
theorem om_tbl {w : Cond} (i : Nat) (h : lw_tbl[i]? = some w) (hg : goodWord w = true) : w ∈ Om := List.mem_filter.mpr ⟨List.mem_of_getElem? h, hg⟩
theorem om_good {x y : Cond} (hy : y ∈ Om) : GoodIn (x :: Om) (y :: Om) := by
  intro w hw
  rcases List.mem_cons.mp hw with rfl | hw
  · exact ⟨List.mem_cons_of_mem _ hy, good_of_word (List.mem_filter.mp hy).2⟩
  · exact ⟨List.mem_cons_of_mem _ hw, good_of_word (List.mem_filter.mp hw).2⟩
theorem om_good0 {y : Cond} (hy : y ∈ Om) : GoodIn lw_tbl (y :: Om) := by
  intro w hw
  rcases List.mem_cons.mp hw with rfl | hw
  · exact ⟨(List.mem_filter.mp hy).1, good_of_word (List.mem_filter.mp hy).2⟩
  · exact ⟨(List.mem_filter.mp hw).1, good_of_word (List.mem_filter.mp hw).2⟩
abbrev GE : Type := va_G × (Nat → ClassId) × (Nat → Nat) × Nat
def ren (ad : Nat → Nat) : Value → Value := fun v => match v with
  | .ref p => .ref (ad p)
  | w => w
theorem ren_cat (ad : Nat → Nat) (v : Value) : (ren ad v).category = v.category := by cases v <;> rfl
def en (g : GE) (e : LE) (f : Nat → Int32) : va_E := match e with
  | .inl (t, n) => if t = 2 then .inl (g.2.1 t, n, .inr (.inl (fun j => (f j).toInt64))) else .inl (g.2.1 t, n, .inl f)
  | .inr (.inl (t, ts)) => .inl (g.2.1 t, ts.length, .inr (.inr (.inr (.inr (fun j => (ts.getD j none).map g.2.2.1)))))
  | .inr (.inr (ci, fs)) => .inr (ci, fs.mapIdx (fun k o => match o with | none => Value.int (f k) | some q => .ref (g.2.2.1 q)))
def Wd (g : GE) (μ : Mm) : va_W := lays.mapIdx (fun p e => (g.2.2.1 p, en g e (μ p)))
theorem Wd_at {g : GE} {μ : Mm} {p : Nat} {e : LE} (h : lays[p]? = some e) : (Wd g μ)[p]? = some (g.2.2.1 p, en g e (μ p)) := by
  simp [Wd, List.getElem?_mapIdx, h]
def tysW (g : GE) : List (ClassId × FieldType) := [(g.2.1 0, .int), (g.2.1 1, .boolean), (g.2.1 2, .long), (g.2.1 3, .array .int), (g.2.1 4, .object "MeshLodger$Request")]
theorem Wd_up {g : GE} {μ : Mm} {p k : Nat} {v : Int32} {e : LE} (h : lays[p]? = some e) : Wd g (up2 μ p k v) = (Wd g μ).set p (g.2.2.1 p, en g e (upd (μ p) k v)) := by
  apply List.ext_getElem?
  intro i
  rw [List.getElem?_set]
  by_cases hi : p = i
  · subst hi
    have hl : p < lays.length := (List.getElem?_eq_some_iff.mp h).1
    rw [Wd_at h]
    simp [Wd, hl, up2]
  · rw [if_neg hi]
    simp [Wd, List.getElem?_mapIdx, up2, Ne.symm hi]
abbrev FE : Type := Program × Launch × Env × Room × State × MethodId × Array Value × List Frame × Method × Code × (State → Prop)
abbrev f_p (f : FE) : Program := f.1
abbrev f_l (f : FE) : Launch := f.2.1
abbrev f_e (f : FE) : Env := f.2.2.1
abbrev f_R (f : FE) : Room := f.2.2.2.1
abbrev f_s (f : FE) : State := f.2.2.2.2.1
abbrev f_m (f : FE) : MethodId := f.2.2.2.2.2.1
abbrev f_a (f : FE) : Array Value := f.2.2.2.2.2.2.1
abbrev f_b (f : FE) : List Frame := f.2.2.2.2.2.2.2.1
abbrev f_M (f : FE) : Method := f.2.2.2.2.2.2.2.2.1
abbrev f_c (f : FE) : Code := f.2.2.2.2.2.2.2.2.2.1
abbrev f_Q (f : FE) : State → Prop := f.2.2.2.2.2.2.2.2.2.2
def lz (ad : Nat → Nat) (la : Array Slot) (nL : Nat) (ls : List (Option Value)) : Prop := la.size = nL ∧ lv_wf la ∧ ∀ (i : Nat) (v : Value), ls[i]? = some (some v) → la[i]? = some (.val (ren ad v)) ∧ v.category = 1
def tl (ad : Nat → Nat) (ls : List (Option Value)) : List (Nat × Value) := (List.range ls.length).filterMap (fun i => (ls[i]?).bind (fun o => o.map (fun v => (i, ren ad v))))
theorem tl_mem {ad : Nat → Nat} {ls : List (Option Value)} {q : Nat × Value} : q ∈ tl ad ls ↔ ∃ v, ls[q.1]? = some (some v) ∧ q.2 = ren ad v := by
  obtain ⟨i, w⟩ := q
  simp only [tl, List.mem_filterMap, List.mem_range]
  constructor
  · rintro ⟨j, hj, h⟩
    cases hl : ls[j]? with
    | none => rw [hl] at h; cases h
    | some o =>
      rw [hl] at h
      cases o with
      | none => cases h
      | some v =>
        have h : (j, ren ad v) = (i, w) := Option.some.inj h
        cases h
        exact ⟨v, hl, rfl⟩
  · rintro ⟨v, h, rfl⟩
    exact ⟨i, (List.getElem?_eq_some_iff.mp h).1, by rw [h]; rfl⟩
theorem lz_has {ad : Nat → Nat} {la : Array Slot} {nL : Nat} {ls : List (Option Value)} (h : lz ad la nL ls) : lv_has la nL (tl ad ls) := by
  refine ⟨h.1, h.2.1, fun q hq => ?_⟩
  obtain ⟨v, hv, e⟩ := tl_mem.mp hq
  rw [e]
  exact (h.2.2 _ _ hv).1
theorem lz_set {ad : Nat → Nat} {la la2 : Array Slot} {nL i : Nat} {w : Value} {ls : List (Option Value)} (hw : w.category = 1) (h : lz ad la nL ls)
    (h2 : lv_has la2 nL ((i, ren ad w) :: (tl ad ls).filter (fun q => !(q.1 == i) && !(q.1 + 1 == i && q.2.category == 2)))) : lz ad la2 nL (ls.set i (some w)) := by
  refine ⟨h2.1, h2.2.1, fun j v hj => ?_⟩
  rw [List.getElem?_set] at hj
  by_cases hij : i = j
  · subst hij
    rw [if_pos rfl] at hj
    split at hj
    · cases hj
      exact ⟨h2.2.2 (i, ren ad w) List.mem_cons_self, hw⟩
    · cases hj
  · rw [if_neg hij] at hj
    have hc := (h.2.2 _ _ hj).2
    refine ⟨h2.2.2 (j, ren ad v) (List.mem_cons_of_mem _ (List.mem_filter.mpr ⟨tl_mem.mpr ⟨v, hj, rfl⟩, ?_⟩)), hc⟩
    simp [Ne.symm hij, ren_cat, hc]
theorem lz_args_aux (ad : Nat → Nat) (As : List Value) (hc : ∀ v ∈ As, v.category = 1) : ∀ (i0 i : Nat) (v : Value), As[i]? = some v → (i0 + i, ren ad v) ∈ lv_args i0 (As.map (ren ad)) := by
  induction As with
  | nil => intro i0 i v h; simp at h
  | cons a as ih =>
    intro i0 i v h
    have ha : (ren ad a).category = 1 := by rw [ren_cat]; exact hc a List.mem_cons_self
    simp only [List.map_cons, lv_args, ha]
    cases i with
    | zero =>
      simp at h
      subst h
      exact List.mem_cons_self
    | succ i =>
      have h' : as[i]? = some v := by simpa using h
      have := ih (fun v hv => hc v (List.mem_cons_of_mem _ hv)) (i0 + 1) i v h'
      rw [show i0 + (i + 1) = i0 + 1 + i by omega]
      exact List.mem_cons_of_mem _ (by simpa using this)
theorem lz_entry (ad : Nat → Nat) (As : List Value) {n : Nat} (hn : As.length ≤ n) (hc : ∀ v ∈ As, v.category = 1) :
    lz ad ((lg_sl (As.map (ren ad)) ++ List.replicate (n - (lg_sl (As.map (ren ad))).length) Slot.unset).toArray) n (As.map some ++ List.replicate (n - As.length) none) := by
  have hlen : ∀ (l : List Value), (∀ v ∈ l, v.category = 1) → (lg_sl (l.map (ren ad))).length = l.length := by
    intro l
    induction l with
    | nil => intro _; rfl
    | cons a as ih =>
      intro h
      have ha : (ren ad a).category = 1 := by rw [ren_cat]; exact h a List.mem_cons_self
      have := ih (fun v hv => h v (List.mem_cons_of_mem _ hv))
      simp only [lg_sl] at this ⊢
      simp [ha, this]
  have h0 := lv_entry (As.map (ren ad)) (n := n) (by rw [hlen As hc]; exact hn)
  refine ⟨h0.1, h0.2.1, fun i v hi => ?_⟩
  rw [List.getElem?_append] at hi
  split at hi
  · rw [List.getElem?_map] at hi
    cases hv : As[i]? with
    | none => rw [hv] at hi; cases hi
    | some w =>
      rw [hv] at hi
      have hi : some (some w) = some (some v) := hi
      cases hi
      have := h0.2.2 _ (lz_args_aux ad As hc 0 i v hv)
      rw [Nat.zero_add] at this
      exact ⟨this, hc v (List.mem_of_getElem? hv)⟩
  · have := List.mem_of_getElem? hi
    rw [List.mem_replicate] at this
    cases this.2
/-- at this place, with these locals, this stack, this memory, the machine comes to an end with f_Q -/
def KW (g : GE) (f : FE) (nL kc ks pc : Nat) (ls : List (Option Value)) (st : List Value) (μ : Mm) : Prop :=
  ∀ (H : Heap) (locs : List Loc) (la : Array Slot), va_P g.1 vwCl (Wd g μ) H → va_S (fun q => g.2.2.2 ≤ q) (f_s f).heap H locs → lz g.2.2.1 la nL ls →
    W (f_p f) (f_l f) (f_e f) (f_R f) (f_s f) (f_m f) (f_a f) (f_b f) (f_M f) (f_c f) H locs kc ks (f_Q f) (F0 (f_m f) pc la (st.map (ren g.2.2.1)))
/-- what stands of a method's frame: the machine, its code, its class, the words, the world's classes, its room -/
def Cx (g : GE) (f : FE) (cc : ByteArray) (nL : Nat) (own : String) (fr lo kc ks : Nat) : Prop :=
  ((f_p f).tables.exec = Jvm.exec ∧ (f_c f).code = cc ∧ (f_c f).maxLocals = nL ∧ (f_s f).vm.findClass own = some (f_m f).cls ∧ ∀ w ∈ Om, w.before (f_a f) (f_s f) = true) ∧
  NW (f_s f) ∧ va_K g.1 vwCl (tysW g) (f_s f) ∧ (∀ μ, va_D (fun q => g.2.2.2 ≤ q) (Wd g μ)) ∧ g.2.2.2 ≤ (f_s f).heap.size ∧ fr ≤ (f_R f).frames ∧ lo ≤ (f_R f).locals ∧ kc ≤ (f_R f).cells ∧ ks ≤ (f_R f).slots
section K0
variable {g : GE} {f : FE} {cc : ByteArray} {nL : Nat} {own : String} {fr lo kc ks pc : Nat} {ls : List (Option Value)} {st : List Value} {μ : Mm}
theorem k_aload_n {k : Fin 4} {i x : Nat} (cx : Cx g f cc nL own fr lo kc ks) (d : decode cc pc = .ok (.aload_n k, 1)) (hi : (k : Nat) = i) (hl : ls[i]? = some (some (.ref x))) (kk : KW g f nL kc ks (pc + 1) ls (.ref x :: st) μ) : KW g f nL kc ks pc ls st μ :=
  fun H locs la hP hS hz => lv_aload_n cx.1.1 cx.1.2.1 d hi (hz.2.2 _ _ hl).1 (kk H locs la hP hS hz)
theorem k_aload {i x : Nat} (cx : Cx g f cc nL own fr lo kc ks) (d : decode cc pc = .ok (.aload i, 2)) (hl : ls[i]? = some (some (.ref x))) (kk : KW g f nL kc ks (pc + 2) ls (.ref x :: st) μ) : KW g f nL kc ks pc ls st μ :=
  fun H locs la hP hS hz => lv_aload cx.1.1 cx.1.2.1 d (hz.2.2 _ _ hl).1 (kk H locs la hP hS hz)
theorem k_iload_n {k : Fin 4} {i : Nat} {x : Int32} (cx : Cx g f cc nL own fr lo kc ks) (d : decode cc pc = .ok (.iload_n k, 1)) (hi : (k : Nat) = i) (hl : ls[i]? = some (some (.int x))) (kk : KW g f nL kc ks (pc + 1) ls (.int x :: st) μ) : KW g f nL kc ks pc ls st μ :=
  fun H locs la hP hS hz => lv_iload_n cx.1.1 cx.1.2.1 d hi (hz.2.2 _ _ hl).1 (kk H locs la hP hS hz)
theorem k_iload {i : Nat} {x : Int32} (cx : Cx g f cc nL own fr lo kc ks) (d : decode cc pc = .ok (.iload i, 2)) (hl : ls[i]? = some (some (.int x))) (kk : KW g f nL kc ks (pc + 2) ls (.int x :: st) μ) : KW g f nL kc ks pc ls st μ :=
  fun H locs la hP hS hz => lv_iload cx.1.1 cx.1.2.1 d (hz.2.2 _ _ hl).1 (kk H locs la hP hS hz)
theorem k_istore_n {k : Fin 4} {i : Nat} {x : Int32} (cx : Cx g f cc nL own fr lo kc ks) (d : decode cc pc = .ok (.istore_n k, 1)) (hi : (k : Nat) = i) (hn : i < nL) (kk : KW g f nL kc ks (pc + 1) (ls.set i (some (.int x))) st μ) : KW g f nL kc ks pc ls (.int x :: st) μ :=
  fun H locs _ hP hS hz => lv_istore_n cx.1.1 cx.1.2.1 d hi (lz_has hz) hn rfl (fun la h => kk H locs la hP hS (lz_set (w := .int x) rfl hz h))
theorem k_istore {i : Nat} {x : Int32} (cx : Cx g f cc nL own fr lo kc ks) (d : decode cc pc = .ok (.istore i, 2)) (hn : i < nL) (kk : KW g f nL kc ks (pc + 2) (ls.set i (some (.int x))) st μ) : KW g f nL kc ks pc ls (.int x :: st) μ :=
  fun H locs _ hP hS hz => lv_istore cx.1.1 cx.1.2.1 d (lz_has hz) hn rfl (fun la h => kk H locs la hP hS (lz_set (w := .int x) rfl hz h))
theorem k_astore_n {k : Fin 4} {i : Nat} {x : Nat} (cx : Cx g f cc nL own fr lo kc ks) (d : decode cc pc = .ok (.astore_n k, 1)) (hi : (k : Nat) = i) (hn : i < nL) (kk : KW g f nL kc ks (pc + 1) (ls.set i (some (.ref x))) st μ) : KW g f nL kc ks pc ls (.ref x :: st) μ :=
  fun H locs _ hP hS hz => lv_astore_n cx.1.1 cx.1.2.1 d hi (lz_has hz) hn rfl (fun la h => kk H locs la hP hS (lz_set (w := .ref x) rfl hz h))
theorem k_astore {i : Nat} {x : Nat} (cx : Cx g f cc nL own fr lo kc ks) (d : decode cc pc = .ok (.astore i, 2)) (hn : i < nL) (kk : KW g f nL kc ks (pc + 2) (ls.set i (some (.ref x))) st μ) : KW g f nL kc ks pc ls (.ref x :: st) μ :=
  fun H locs _ hP hS hz => lv_astore cx.1.1 cx.1.2.1 d (lz_has hz) hn rfl (fun la h => kk H locs la hP hS (lz_set (w := .ref x) rfl hz h))
theorem k_iinc {i : Nat} {n : Int} {x v : Int32} (cx : Cx g f cc nL own fr lo kc ks) (d : decode cc pc = .ok (.iinc i n, 3)) (hl : ls[i]? = some (some (.int x))) (hv : x + Int32.ofInt n = v) (hn : i < nL) (kk : KW g f nL kc ks (pc + 3) (ls.set i (some (.int v))) st μ) : KW g f nL kc ks pc ls st μ := by
  intro H locs la hP hS hz
  have hm : (i, Value.int x) ∈ tl g.2.2.1 ls := tl_mem.mpr ⟨.int x, hl, rfl⟩
  obtain ⟨k, hk⟩ := List.getElem?_of_mem hm
  exact lv_iinc cx.1.1 cx.1.2.1 d (lz_has hz) hk hv hn rfl (fun la h => kk H locs la hP hS (lz_set (w := .int v) rfl hz h))
theorem k_iconst {n : Int} {v : Int32} (cx : Cx g f cc nL own fr lo kc ks) (d : decode cc pc = .ok (.iconst n, 1)) (hv : Int32.ofInt n = v) (kk : KW g f nL kc ks (pc + 1) ls (.int v :: st) μ) : KW g f nL kc ks pc ls st μ :=
  fun H locs la hP hS hz => lv_iconst cx.1.1 cx.1.2.1 d hv (kk H locs la hP hS hz)
theorem k_bipush {n : Int} {v : Int32} (cx : Cx g f cc nL own fr lo kc ks) (d : decode cc pc = .ok (.bipush n, 2)) (hv : (Int8.ofInt n).toInt32 = v) (kk : KW g f nL kc ks (pc + 2) ls (.int v :: st) μ) : KW g f nL kc ks pc ls st μ :=
  fun H locs la hP hS hz => lv_bipush cx.1.1 cx.1.2.1 d hv (kk H locs la hP hS hz)
theorem k_sipush {n : Int} {v : Int32} (cx : Cx g f cc nL own fr lo kc ks) (d : decode cc pc = .ok (.sipush n, 3)) (hv : (Int16.ofInt n).toInt32 = v) (kk : KW g f nL kc ks (pc + 3) ls (.int v :: st) μ) : KW g f nL kc ks pc ls st μ :=
  fun H locs la hP hS hz => lv_sipush cx.1.1 cx.1.2.1 d hv (kk H locs la hP hS hz)
theorem k_iadd {x y : Int32} (cx : Cx g f cc nL own fr lo kc ks) (d : decode cc pc = .ok (.iadd, 1)) (kk : KW g f nL kc ks (pc + 1) ls (.int (x + y) :: st) μ) : KW g f nL kc ks pc ls (.int y :: .int x :: st) μ :=
  fun H locs la hP hS hz => lv_iadd cx.1.1 cx.1.2.1 d (kk H locs la hP hS hz)
theorem k_isub {x y : Int32} (cx : Cx g f cc nL own fr lo kc ks) (d : decode cc pc = .ok (.isub, 1)) (kk : KW g f nL kc ks (pc + 1) ls (.int (x - y) :: st) μ) : KW g f nL kc ks pc ls (.int y :: .int x :: st) μ :=
  fun H locs la hP hS hz => lv_isub cx.1.1 cx.1.2.1 d (kk H locs la hP hS hz)
theorem k_imul {x y : Int32} (cx : Cx g f cc nL own fr lo kc ks) (d : decode cc pc = .ok (.imul, 1)) (kk : KW g f nL kc ks (pc + 1) ls (.int (x * y) :: st) μ) : KW g f nL kc ks pc ls (.int y :: .int x :: st) μ :=
  fun H locs la hP hS hz => lv_imul cx.1.1 cx.1.2.1 d (kk H locs la hP hS hz)
theorem k_ineg {x : Int32} (cx : Cx g f cc nL own fr lo kc ks) (d : decode cc pc = .ok (.ineg, 1)) (kk : KW g f nL kc ks (pc + 1) ls (.int (-x) :: st) μ) : KW g f nL kc ks pc ls (.int x :: st) μ :=
  fun H locs la hP hS hz => lv_ineg cx.1.1 cx.1.2.1 d (kk H locs la hP hS hz)
theorem k_idiv {x y : Int32} (cx : Cx g f cc nL own fr lo kc ks) (d : decode cc pc = .ok (.idiv, 1)) (h0 : ¬ y = 0) (kk : KW g f nL kc ks (pc + 1) ls (.int (x / y) :: st) μ) : KW g f nL kc ks pc ls (.int y :: .int x :: st) μ :=
  fun H locs la hP hS hz => lv_idiv cx.1.1 cx.1.2.1 d h0 (kk H locs la hP hS hz)
theorem k_irem {x y : Int32} (cx : Cx g f cc nL own fr lo kc ks) (d : decode cc pc = .ok (.irem, 1)) (h0 : ¬ y = 0) (kk : KW g f nL kc ks (pc + 1) ls (.int (x - x / y * y) :: st) μ) : KW g f nL kc ks pc ls (.int y :: .int x :: st) μ :=
  fun H locs la hP hS hz => lv_irem cx.1.1 cx.1.2.1 d h0 (kk H locs la hP hS hz)
theorem k_ishl {x y : Int32} (cx : Cx g f cc nL own fr lo kc ks) (d : decode cc pc = .ok (.ishl, 1)) (kk : KW g f nL kc ks (pc + 1) ls (.int (x <<< (y &&& 31)) :: st) μ) : KW g f nL kc ks pc ls (.int y :: .int x :: st) μ :=
  fun H locs la hP hS hz => lv_ishl cx.1.1 cx.1.2.1 d (kk H locs la hP hS hz)
theorem k_ishr {x y : Int32} (cx : Cx g f cc nL own fr lo kc ks) (d : decode cc pc = .ok (.ishr, 1)) (kk : KW g f nL kc ks (pc + 1) ls (.int (x >>> (y &&& 31)) :: st) μ) : KW g f nL kc ks pc ls (.int y :: .int x :: st) μ :=
  fun H locs la hP hS hz => lv_ishr cx.1.1 cx.1.2.1 d (kk H locs la hP hS hz)
theorem k_iushr {x y v : Int32} (cx : Cx g f cc nL own fr lo kc ks) (d : decode cc pc = .ok (.iushr, 1)) (hv : (x.toUInt32 >>> (y.toUInt32 &&& Int32.toUInt32 31)).toInt32 = v) (kk : KW g f nL kc ks (pc + 1) ls (.int v :: st) μ) : KW g f nL kc ks pc ls (.int y :: .int x :: st) μ :=
  fun H locs la hP hS hz => lv_iushr cx.1.1 cx.1.2.1 d hv (kk H locs la hP hS hz)
theorem k_iand {x y : Int32} (cx : Cx g f cc nL own fr lo kc ks) (d : decode cc pc = .ok (.iand, 1)) (kk : KW g f nL kc ks (pc + 1) ls (.int (x &&& y) :: st) μ) : KW g f nL kc ks pc ls (.int y :: .int x :: st) μ :=
  fun H locs la hP hS hz => lv_iand cx.1.1 cx.1.2.1 d (kk H locs la hP hS hz)
theorem k_ior {x y : Int32} (cx : Cx g f cc nL own fr lo kc ks) (d : decode cc pc = .ok (.ior, 1)) (kk : KW g f nL kc ks (pc + 1) ls (.int (x ||| y) :: st) μ) : KW g f nL kc ks pc ls (.int y :: .int x :: st) μ :=
  fun H locs la hP hS hz => lv_ior cx.1.1 cx.1.2.1 d (kk H locs la hP hS hz)
theorem k_ixor {x y : Int32} (cx : Cx g f cc nL own fr lo kc ks) (d : decode cc pc = .ok (.ixor, 1)) (kk : KW g f nL kc ks (pc + 1) ls (.int (x ^^^ y) :: st) μ) : KW g f nL kc ks pc ls (.int y :: .int x :: st) μ :=
  fun H locs la hP hS hz => lv_ixor cx.1.1 cx.1.2.1 d (kk H locs la hP hS hz)
theorem k_dup {v : Value} (cx : Cx g f cc nL own fr lo kc ks) (d : decode cc pc = .ok (.dup, 1)) (hv : v.category = 1) (kk : KW g f nL kc ks (pc + 1) ls (v :: v :: st) μ) : KW g f nL kc ks pc ls (v :: st) μ :=
  fun H locs la hP hS hz => lv_dup cx.1.1 cx.1.2.1 d (by rw [ren_cat]; exact hv) (kk H locs la hP hS hz)
theorem k_pop {v : Value} (cx : Cx g f cc nL own fr lo kc ks) (d : decode cc pc = .ok (.pop, 1)) (hv : v.category = 1) (kk : KW g f nL kc ks (pc + 1) ls st μ) : KW g f nL kc ks pc ls (v :: st) μ :=
  fun H locs la hP hS hz => lv_pop cx.1.1 cx.1.2.1 d (by rw [ren_cat]; exact hv) (kk H locs la hP hS hz)
theorem k_goto {off : Int} {tgt : Nat} (cx : Cx g f cc nL own fr lo kc ks) (d : decode cc pc = .ok (.goto off, 3)) (ht : (pc : Int) + off = (tgt : Int)) (kk : KW g f nL kc ks tgt ls st μ) : KW g f nL kc ks pc ls st μ :=
  fun H locs la hP hS hz => lv_goto cx.1.1 cx.1.2.1 d ht (kk H locs la hP hS hz)
end K0
end
section
section K1
variable {g : GE} {f : FE} {cc : ByteArray} {nL : Nat} {own : String} {fr lo kc ks pc : Nat} {ls : List (Option Value)} {st : List Value} {μ : Mm}
theorem k_if_eq {x : Int32} {off : Int} {tgt : Nat} (cx : Cx g f cc nL own fr lo kc ks) (d : decode cc pc = .ok (.ifCond .eq off, 3)) (ht : (pc : Int) + off = (tgt : Int)) (kt : x = 0 → KW g f nL kc ks tgt ls st μ) (kf : ¬ x = 0 → KW g f nL kc ks (pc + 3) ls st μ) : KW g f nL kc ks pc ls (.int x :: st) μ :=
  fun H locs la hP hS hz => lv_if_eq cx.1.1 cx.1.2.1 d ht (fun h => kt h H locs la hP hS hz) (fun h => kf h H locs la hP hS hz)
theorem k_icmp_eq {x y : Int32} {off : Int} {tgt : Nat} (cx : Cx g f cc nL own fr lo kc ks) (d : decode cc pc = .ok (.if_icmp .eq off, 3)) (ht : (pc : Int) + off = (tgt : Int)) (kt : x = y → KW g f nL kc ks tgt ls st μ) (kf : ¬ x = y → KW g f nL kc ks (pc + 3) ls st μ) : KW g f nL kc ks pc ls (.int y :: .int x :: st) μ :=
  fun H locs la hP hS hz => lv_icmp_eq cx.1.1 cx.1.2.1 d ht (fun h => kt h H locs la hP hS hz) (fun h => kf h H locs la hP hS hz)
theorem k_if_ne {x : Int32} {off : Int} {tgt : Nat} (cx : Cx g f cc nL own fr lo kc ks) (d : decode cc pc = .ok (.ifCond .ne off, 3)) (ht : (pc : Int) + off = (tgt : Int)) (kt : ¬ x = 0 → KW g f nL kc ks tgt ls st μ) (kf : x = 0 → KW g f nL kc ks (pc + 3) ls st μ) : KW g f nL kc ks pc ls (.int x :: st) μ :=
  fun H locs la hP hS hz => lv_if_ne cx.1.1 cx.1.2.1 d ht (fun h => kt h H locs la hP hS hz) (fun h => kf h H locs la hP hS hz)
theorem k_icmp_ne {x y : Int32} {off : Int} {tgt : Nat} (cx : Cx g f cc nL own fr lo kc ks) (d : decode cc pc = .ok (.if_icmp .ne off, 3)) (ht : (pc : Int) + off = (tgt : Int)) (kt : ¬ x = y → KW g f nL kc ks tgt ls st μ) (kf : x = y → KW g f nL kc ks (pc + 3) ls st μ) : KW g f nL kc ks pc ls (.int y :: .int x :: st) μ :=
  fun H locs la hP hS hz => lv_icmp_ne cx.1.1 cx.1.2.1 d ht (fun h => kt h H locs la hP hS hz) (fun h => kf h H locs la hP hS hz)
theorem k_if_lt {x : Int32} {off : Int} {tgt : Nat} (cx : Cx g f cc nL own fr lo kc ks) (d : decode cc pc = .ok (.ifCond .lt off, 3)) (ht : (pc : Int) + off = (tgt : Int)) (kt : x < 0 → KW g f nL kc ks tgt ls st μ) (kf : ¬ x < 0 → KW g f nL kc ks (pc + 3) ls st μ) : KW g f nL kc ks pc ls (.int x :: st) μ :=
  fun H locs la hP hS hz => lv_if_lt cx.1.1 cx.1.2.1 d ht (fun h => kt h H locs la hP hS hz) (fun h => kf h H locs la hP hS hz)
theorem k_icmp_lt {x y : Int32} {off : Int} {tgt : Nat} (cx : Cx g f cc nL own fr lo kc ks) (d : decode cc pc = .ok (.if_icmp .lt off, 3)) (ht : (pc : Int) + off = (tgt : Int)) (kt : x < y → KW g f nL kc ks tgt ls st μ) (kf : ¬ x < y → KW g f nL kc ks (pc + 3) ls st μ) : KW g f nL kc ks pc ls (.int y :: .int x :: st) μ :=
  fun H locs la hP hS hz => lv_icmp_lt cx.1.1 cx.1.2.1 d ht (fun h => kt h H locs la hP hS hz) (fun h => kf h H locs la hP hS hz)
theorem k_if_ge {x : Int32} {off : Int} {tgt : Nat} (cx : Cx g f cc nL own fr lo kc ks) (d : decode cc pc = .ok (.ifCond .ge off, 3)) (ht : (pc : Int) + off = (tgt : Int)) (kt : 0 ≤ x → KW g f nL kc ks tgt ls st μ) (kf : ¬ 0 ≤ x → KW g f nL kc ks (pc + 3) ls st μ) : KW g f nL kc ks pc ls (.int x :: st) μ :=
  fun H locs la hP hS hz => lv_if_ge cx.1.1 cx.1.2.1 d ht (fun h => kt h H locs la hP hS hz) (fun h => kf h H locs la hP hS hz)
theorem k_icmp_ge {x y : Int32} {off : Int} {tgt : Nat} (cx : Cx g f cc nL own fr lo kc ks) (d : decode cc pc = .ok (.if_icmp .ge off, 3)) (ht : (pc : Int) + off = (tgt : Int)) (kt : y ≤ x → KW g f nL kc ks tgt ls st μ) (kf : ¬ y ≤ x → KW g f nL kc ks (pc + 3) ls st μ) : KW g f nL kc ks pc ls (.int y :: .int x :: st) μ :=
  fun H locs la hP hS hz => lv_icmp_ge cx.1.1 cx.1.2.1 d ht (fun h => kt h H locs la hP hS hz) (fun h => kf h H locs la hP hS hz)
theorem k_if_gt {x : Int32} {off : Int} {tgt : Nat} (cx : Cx g f cc nL own fr lo kc ks) (d : decode cc pc = .ok (.ifCond .gt off, 3)) (ht : (pc : Int) + off = (tgt : Int)) (kt : 0 < x → KW g f nL kc ks tgt ls st μ) (kf : ¬ 0 < x → KW g f nL kc ks (pc + 3) ls st μ) : KW g f nL kc ks pc ls (.int x :: st) μ :=
  fun H locs la hP hS hz => lv_if_gt cx.1.1 cx.1.2.1 d ht (fun h => kt h H locs la hP hS hz) (fun h => kf h H locs la hP hS hz)
theorem k_icmp_gt {x y : Int32} {off : Int} {tgt : Nat} (cx : Cx g f cc nL own fr lo kc ks) (d : decode cc pc = .ok (.if_icmp .gt off, 3)) (ht : (pc : Int) + off = (tgt : Int)) (kt : y < x → KW g f nL kc ks tgt ls st μ) (kf : ¬ y < x → KW g f nL kc ks (pc + 3) ls st μ) : KW g f nL kc ks pc ls (.int y :: .int x :: st) μ :=
  fun H locs la hP hS hz => lv_icmp_gt cx.1.1 cx.1.2.1 d ht (fun h => kt h H locs la hP hS hz) (fun h => kf h H locs la hP hS hz)
theorem k_if_le {x : Int32} {off : Int} {tgt : Nat} (cx : Cx g f cc nL own fr lo kc ks) (d : decode cc pc = .ok (.ifCond .le off, 3)) (ht : (pc : Int) + off = (tgt : Int)) (kt : x ≤ 0 → KW g f nL kc ks tgt ls st μ) (kf : ¬ x ≤ 0 → KW g f nL kc ks (pc + 3) ls st μ) : KW g f nL kc ks pc ls (.int x :: st) μ :=
  fun H locs la hP hS hz => lv_if_le cx.1.1 cx.1.2.1 d ht (fun h => kt h H locs la hP hS hz) (fun h => kf h H locs la hP hS hz)
theorem k_icmp_le {x y : Int32} {off : Int} {tgt : Nat} (cx : Cx g f cc nL own fr lo kc ks) (d : decode cc pc = .ok (.if_icmp .le off, 3)) (ht : (pc : Int) + off = (tgt : Int)) (kt : x ≤ y → KW g f nL kc ks tgt ls st μ) (kf : ¬ x ≤ y → KW g f nL kc ks (pc + 3) ls st μ) : KW g f nL kc ks pc ls (.int y :: .int x :: st) μ :=
  fun H locs la hP hS hz => lv_icmp_le cx.1.1 cx.1.2.1 d ht (fun h => kt h H locs la hP hS hz) (fun h => kf h H locs la hP hS hz)
theorem k_tableIn {dflt lw hi : Int} {offs : Array Int} {len : Nat} {x : Int32} {off : Int} {tgt : Nat} (cx : Cx g f cc nL own fr lo kc ks) (d : decode cc pc = .ok (.tableswitch dflt lw hi offs, len)) (h1 : ¬ x.toInt < lw) (h2 : ¬ hi < x.toInt) (ho : offs[(x.toInt - lw).toNat]? = some off) (ht : (pc : Int) + off = (tgt : Int)) (kk : KW g f nL kc ks tgt ls st μ) : KW g f nL kc ks pc ls (.int x :: st) μ :=
  fun H locs la hP hS hz => lv_tableIn cx.1.1 cx.1.2.1 d h1 h2 ho ht (kk H locs la hP hS hz)
theorem k_tableOut {dflt lw hi : Int} {offs : Array Int} {len : Nat} {x : Int32} {tgt : Nat} (cx : Cx g f cc nL own fr lo kc ks) (d : decode cc pc = .ok (.tableswitch dflt lw hi offs, len)) (h : x.toInt < lw ∨ hi < x.toInt) (ht : (pc : Int) + dflt = (tgt : Int)) (kk : KW g f nL kc ks tgt ls st μ) : KW g f nL kc ks pc ls (.int x :: st) μ :=
  fun H locs la hP hS hz => lv_tableOut cx.1.1 cx.1.2.1 d h ht (kk H locs la hP hS hz)
theorem k_lookup {dflt : Int} {ps : Array (Int × Int)} {len : Nat} {x : Int32} {off : Int} {tgt : Nat} (cx : Cx g f cc nL own fr lo kc ks) (d : decode cc pc = .ok (.lookupswitch dflt ps, len)) (hp : (ps.toList.zip (ps.toList.drop 1)).all (fun (a, next) => a.1 < next.1) = true) (ho : Op.lookupswitch.offset ps.toList dflt x.toInt = off) (ht : (pc : Int) + off = (tgt : Int)) (kk : KW g f nL kc ks tgt ls st μ) : KW g f nL kc ks pc ls (.int x :: st) μ :=
  fun H locs la hP hS hz => lv_lookup cx.1.1 cx.1.2.1 d hp ho ht (kk H locs la hP hS hz)
/-- fewer locals known -/
def lsLe (l2 l1 : List (Option Value)) : Prop := ∀ (i : Nat) (v : Value), l2[i]? = some (some v) → l1[i]? = some (some v)
theorem lsLe.nil {l1 : List (Option Value)} : lsLe [] l1 := fun i v h => by simp at h
theorem lsLe.keep {o : Option Value} {l2 l1 : List (Option Value)} (h : lsLe l2 l1) : lsLe (o :: l2) (o :: l1) := by
  intro i v hi
  cases i with
  | zero => exact hi
  | succ i => exact h i v hi
theorem lsLe.drop {o : Option Value} {l2 l1 : List (Option Value)} (h : lsLe l2 l1) : lsLe (none :: l2) (o :: l1) := by
  intro i v hi
  cases i with
  | zero => simp at hi
  | succ i => exact h i v hi
theorem k_weak {l2 : List (Option Value)} (kk : KW g f nL kc ks pc l2 st μ) (h : lsLe l2 ls) : KW g f nL kc ks pc ls st μ :=
  fun H locs la hP hS hz => kk H locs la hP hS ⟨hz.1, hz.2.1, fun i v hi => hz.2.2 i v (h i v hi)⟩
/-- getfield at this index of a class reads field k of class ci -/
def FL (own : String) (index ci k : Nat) : Prop := ∃ (C : String) (T : u_T) (N : Nat), vwCl[ci]? = some (C, T, N) ∧ k < N ∧ (T k).1 = C ∧ (∀ w ∈ u_ws C T N, w ∈ Om) ∧ (Cond.fieldLink own index C (T k).2.1 (T k).2.2.1 ∈ Om ∨ ∃ host, Cond.fieldLinkNest own index C (T k).2.1 (T k).2.2.1 host ∈ nestL)
def fv (μ : Mm) (p k : Nat) (o : Option Nat) : Value := match o with
  | none => .int (μ p k)
  | some q => .ref q
theorem k_get {index ci k p : Nat} {fs : List (Option Nat)} {o : Option Nat} {v : Value} (cx : Cx g f cc nL own fr lo kc ks) (h : FL own index ci k) (hp : lays[p]? = some (.inr (.inr (ci, fs)))) (ho : fs[k]? = some o) (hv : v = fv μ p k o) (d : decode cc pc = .ok (.getfield index, 3)) (kk : KW g f nL kc ks (pc + 3) ls (v :: st) μ) : KW g f nL kc ks pc ls (.ref p :: st) μ := by
  subst hv
  intro H locs la hP hS hz
  obtain ⟨C, T, N, h1, h2, h3, h4, h5⟩ := h
  obtain ⟨⟨c1, c2, c3, c4, c5⟩, c6, c7, c8, c9⟩ := cx
  have hv : (fs.mapIdx (fun k o => match o with | none => Value.int (μ p k) | some q => .ref (g.2.2.1 q)))[k]? = some (ren g.2.2.1 (fv μ p k o)) := by
    rw [List.getElem?_mapIdx, ho]
    cases o <;> rfl
  rcases h5 with h5 | ⟨host, h5⟩
  · exact va_get c1 c2 c5 h4 c4 c7 hP p (Wd_at hp) h1 k h2 (c5 _ h5) (fun x hx => by rw [h3] at hx; exact hx) hv d (kk H locs la hP hS hz)
  · exact va_getN c1 c2 c5 h4 c4 c7 hP p (Wd_at hp) h1 k h2 (va_Nw.use rfl (c6 _ h5)) (fun x hx => by rw [h3] at hx; exact hx) hv d (kk H locs la hP hS hz)
/-- putfield at this index of a class writes field k of class ci, of this type -/
def FP (own : String) (index ci k : Nat) (ty : FieldType) : Prop := FL own index ci k ∧ ∃ (C : String) (T : u_T) (N : Nat) (ty0 : Nat → FieldType), vwCl[ci]? = some (C, T, N) ∧ (∀ k, k < N → parseFieldDescriptor (T k).2.2.1 = some (ty0 k)) ∧ (∀ a, a < N → ∀ b, b < N → a ≠ b → (T a).2.1 ≠ (T b).2.1) ∧ (T k).2.2.2 = false ∧ parseFieldDescriptor (T k).2.2.1 = some ty
theorem k_put {index ci k p : Nat} {fs : List (Option Nat)} {x : Int32} {ty : FieldType} (cx : Cx g f cc nL own fr lo kc ks) (h : FP own index ci k ty) (hp : lays[p]? = some (.inr (.inr (ci, fs)))) (ho : fs[k]? = some none) (hn : narrow ty (.int x) = .int x) (hfit : fits ty (.int x) = true) (d : decode cc pc = .ok (.putfield index, 3)) (kk : KW g f nL kc ks (pc + 3) ls st (up2 μ p k x)) : KW g f nL kc ks pc ls (.int x :: .ref p :: st) μ := by
  intro H locs la hP hS hz
  obtain ⟨⟨C, T, N, h1, h2, h3, h4, h5⟩, C2, T2, N2, ty0, g1, g2, g3, g4, g5⟩ := h
  obtain ⟨⟨c1, c2, c3, c4, c5⟩, c6, c7, c8, c9⟩ := cx
  have e := h1.symm.trans g1
  cases e
  have hl : k < (fs.mapIdx (fun k o => match o with | none => Value.int (μ p k) | some q => .ref (g.2.2.1 q))).length := by
    rw [List.length_mapIdx]
    exact (List.getElem?_eq_some_iff.mp ho).1
  have hW : Wd g (up2 μ p k x) = (Wd g μ).set p (g.2.2.1 p, .inr (ci, (fs.mapIdx (fun k o => match o with | none => Value.int (μ p k) | some q => .ref (g.2.2.1 q))).set k (.int x))) := by
    rw [Wd_up hp]
    congr 2
    show Sum.inr _ = Sum.inr _
    congr 2
    apply List.ext_getElem?
    intro i
    rw [List.getElem?_set]
    by_cases hi : k = i
    · subst hi
      rw [if_pos rfl, if_pos hl, List.getElem?_mapIdx, ho]
      simp [upd]
    · rw [if_neg hi, List.getElem?_mapIdx, List.getElem?_mapIdx]
      cases hh : fs[i]? with
      | none => rfl
      | some o => cases o <;> simp [upd, Ne.symm hi]
  rcases h5 with h5 | ⟨host, h5⟩
  · exact va_put c1 c2 c5 h4 ty0 g2 g3 c4 c7 hP (c8 μ) hS p (Wd_at hp) h1 k h2 (c5 _ h5) (fun x hx => by rw [h3] at hx; exact hx) g4 g5 hn hfit hl d (fun H1 locs1 hP1 _ hS1 => kk H1 locs1 la (by rw [hW]; exact hP1) hS1 hz)
  · exact va_putN c1 c2 c5 h4 ty0 g2 g3 c4 c7 hP (c8 μ) hS p (Wd_at hp) h1 k h2 (va_Nw.use rfl (c6 _ h5)) (fun x hx => by rw [h3] at hx; exact hx) g4 g5 hn hfit hl d (fun H1 locs1 hP1 _ hS1 => kk H1 locs1 la (by rw [hW]; exact hP1) hS1 hz)
theorem k_iald {p n : Nat} {i : Int32} (cx : Cx g f cc nL own fr lo kc ks) (hp : lays[p]? = some (.inl (0, n))) (hi : vp_in i n) (d : decode cc pc = .ok (.iaload, 1)) (kk : KW g f nL kc ks (pc + 1) ls (.int (μ p i.toNatClampNeg) :: st) μ) : KW g f nL kc ks pc ls (.int i :: .ref p :: st) μ :=
  fun H locs la hP hS hz => va_iald cx.1.1 cx.1.2.1 cx.2.2.1 hP p 0 (Wd_at (μ := μ) hp) rfl hi d (kk H locs la hP hS hz)
theorem k_zald {p n : Nat} {i : Int32} (cx : Cx g f cc nL own fr lo kc ks) (hp : lays[p]? = some (.inl (1, n))) (hi : vp_in i n) (d : decode cc pc = .ok (.baload, 1)) (kk : KW g f nL kc ks (pc + 1) ls (.int (μ p i.toNatClampNeg) :: st) μ) : KW g f nL kc ks pc ls (.int i :: .ref p :: st) μ :=
  fun H locs la hP hS hz => va_zald cx.1.1 cx.1.2.1 cx.2.2.1 hP p 1 (Wd_at (μ := μ) hp) rfl hi d (kk H locs la hP hS hz)
theorem k_iast {p n : Nat} {i x : Int32} (cx : Cx g f cc nL own fr lo kc ks) (hp : lays[p]? = some (.inl (0, n))) (hi : vp_in i n) (d : decode cc pc = .ok (.iastore, 1)) (kk : KW g f nL kc ks (pc + 1) ls st (up2 μ p i.toNatClampNeg x)) : KW g f nL kc ks pc ls (.int x :: .int i :: .ref p :: st) μ :=
  fun H locs la hP hS hz => va_iast cx.1.1 cx.1.2.1 cx.2.2.1 hP (cx.2.2.2.1 μ) hS p 0 (Wd_at (μ := μ) hp) rfl hi d (fun H1 locs1 hP1 _ hS1 => kk H1 locs1 la (by rw [Wd_up hp]; exact hP1) hS1 hz)
theorem k_zast {p n : Nat} {i x : Int32} (cx : Cx g f cc nL own fr lo kc ks) (hp : lays[p]? = some (.inl (1, n))) (hi : vp_in i n) (d : decode cc pc = .ok (.bastore, 1)) (kk : KW g f nL kc ks (pc + 1) ls st (up2 μ p i.toNatClampNeg (vp_nar .boolean x))) : KW g f nL kc ks pc ls (.int x :: .int i :: .ref p :: st) μ :=
  fun H locs la hP hS hz => va_zast cx.1.1 cx.1.2.1 cx.2.2.1 hP (cx.2.2.2.1 μ) hS p 1 (Wd_at (μ := μ) hp) rfl hi d (fun H1 locs1 hP1 _ hS1 => kk H1 locs1 la (by rw [Wd_up hp]; exact hP1) hS1 hz)
theorem k_aald {p t q : Nat} {ts : List (Option Nat)} {ty : FieldType} {i : Int32} (cx : Cx g f cc nL own fr lo kc ks) (hp : lays[p]? = some (.inr (.inl (t, ts)))) (ht : (tysW g)[t]? = some (g.2.1 t, ty)) (hr : ty.isReference = true) (hi : vp_in i ts.length) (hq : ts[i.toNatClampNeg]? = some (some q)) (d : decode cc pc = .ok (.aaload, 1)) (kk : KW g f nL kc ks (pc + 1) ls (.ref q :: st) μ) : KW g f nL kc ks pc ls (.int i :: .ref p :: st) μ := by
  intro H locs la hP hS hz
  have hlt : i.toNatClampNeg < ts.length := Nat.not_le.mp fun q => hi (Or.inr q)
  have hv : va_rf (((ts.getD i.toNatClampNeg none)).map g.2.2.1) = ren g.2.2.1 (.ref q) := by
    rw [List.getD_eq_getElem?_getD, hq]
    rfl
  refine W.aald (v := ren g.2.2.1 (.ref q)) (ty := ty) cx.1.1 cx.1.2.1 (hP p _ (Wd_at (μ := μ) hp)) ((cx.2.2.1.2 t _ ht).1 ts.length (fun j => va_rf ((ts.getD j none).map g.2.2.1))) hr (fun q => by cases q) (by show ¬ (i < 0 ∨ (arrV _ _ _).slots.size ≤ _); rw [arrV_size]; exact hi) (by show (arrV _ _ _).slots[_]? = _; rw [arrV_read _ _ hlt, hv]) rfl rfl d (kk H locs la hP hS hz)
theorem k_alen {p t n : Nat} {v : Int32} {ty : FieldType} (cx : Cx g f cc nL own fr lo kc ks) (hp : lays[p]? = some (.inl (t, n))) (ht2 : t ≠ 2) (ht : (tysW g)[t]? = some (g.2.1 t, ty)) (hv : Int32.ofNat n = v) (d : decode cc pc = .ok (.arraylength, 1)) (kk : KW g f nL kc ks (pc + 1) ls (.int v :: st) μ) : KW g f nL kc ks pc ls (.ref p :: st) μ := by
  intro H locs la hP hS hz
  have h1 := Wd_at (g := g) (μ := μ) hp
  simp only [en, if_neg ht2] at h1
  exact va_alen cx.1.1 cx.1.2.1 cx.2.2.1 hP p t h1 ht hv d (kk H locs la hP hS hz)
theorem k_alenR {p t : Nat} {ts : List (Option Nat)} {v : Int32} {ty : FieldType} (cx : Cx g f cc nL own fr lo kc ks) (hp : lays[p]? = some (.inr (.inl (t, ts)))) (ht : (tysW g)[t]? = some (g.2.1 t, ty)) (hv : Int32.ofNat ts.length = v) (d : decode cc pc = .ok (.arraylength, 1)) (kk : KW g f nL kc ks (pc + 1) ls (.int v :: st) μ) : KW g f nL kc ks pc ls (.ref p :: st) μ := by
  intro H locs la hP hS hz
  exact va_alen cx.1.1 cx.1.2.1 cx.2.2.1 hP p t (Wd_at (μ := μ) hp) ht hv d (kk H locs la hP hS hz)
/-! methods: from these arguments and this memory it returns, and q of the answer and the new memory -/
abbrev Qo : Type := Option Value → Mm → Prop
def bI (b : Bool) : Int32 := if b then 1 else 0
def isReq (p : Nat) : Prop := ∃ i, i < 13 ∧ p = p_RQ + 11 * i
def qV (q : Mm → Prop) : Qo := fun v μ => v = none ∧ q μ
def qI (q : Int32 → Mm → Prop) : Qo := fun v μ => ∃ x, v = some (.int x) ∧ q x μ
def qZ (q : Bool → Mm → Prop) : Qo := fun v μ => ∃ b, v = some (.int (bI b)) ∧ q b μ
def qR (q : Nat → Mm → Prop) : Qo := fun v μ => ∃ p, v = some (.ref p) ∧ isReq p ∧ q p μ
def PW (g : GE) (μ : Mm) (U : State) : Prop := va_P g.1 vwCl (Wd g μ) U.heap ∧ va_K g.1 vwCl (tysW g) U ∧ NW U ∧ (∀ μ, va_D (fun q => g.2.2.2 ≤ q) (Wd g μ)) ∧ g.2.2.2 ≤ U.heap.size
def QW (g : GE) (q : Qo) : Array Value → State → Outcome → State → Prop := fun _ st oc t => (∃ v μ, oc = .returned (v.map (ren g.2.2.1)) ∧ q v μ ∧ va_P g.1 vwCl (Wd g μ) t.heap) ∧ va_F (fun q => g.2.2.2 ≤ q) st t
def MW (g : GE) (l : Launch) (y : MethodName) (b : ByteArray) (mL : Nat) (ret : Option FieldType) (fr lo : Nat) (As : List Value) (μ : Mm) (q : Qo) : Prop :=
  Met l y (Cond.code y b mL ret :: Om) { frames := fr, cells := 0, slots := 0, locals := lo } (va_Pc (As.map (ren g.2.2.1)) (PW g μ)) (QW g q) 0 0 (fun q => g.2.2.2 ≤ q)
/-- a method whose body, from its entry, is as KW has it -/
theorem met_of {l : Launch} {y : MethodName} {b : ByteArray} {mL fr lo : Nat} {ret : Option FieldType} {As : List Value} {q : Qo} (hy : plainName y.cls = true) (hn : As.length ≤ mL) (hc : ∀ v ∈ As, v.category = 1)
    (h : ∀ f : FE, f_l f = l → Cx g f b mL y.cls fr lo 0 0 → (f_M f).sig.returnType = ret → (f_M f).locks = false → f_Q f = MQ (f_b f) (QW g q) (f_a f) (f_s f) 0 0 (fun q => g.2.2.2 ≤ q) → KW g f mL 0 0 0 (As.map some ++ List.replicate (mL - As.length) none) [] μ) : MW g l y b mL ret fr lo As μ q := by
  refine Met.ofW (cc := b) (maxL := mL) (ret := ret) hy rfl ?_
  intro p e s m args below meth c s₁ B hml hv
  obtain ⟨rfl, hP, hK, hN, hD, hz⟩ := hv
  have hts := atoms_spec (ws := Cond.code y b mL ret :: Om) B.pre
  have hown : s.vm.findClass y.cls = some m.cls := findClass_of_methodNamed B.named
  have h1 := h (p, l, e, (headSpec (Cond.code y b mL ret :: Om) { frames := fr, cells := 0, slots := 0, locals := lo }).room, s, m, (As.map (ren g.2.2.1)).toArray, below, meth, c, MQ below (QW g q) (As.map (ren g.2.2.1)).toArray s 0 0 (fun q => g.2.2.2 ≤ q)) rfl
    ⟨⟨B.exec, B.bytes, hml, hown, fun w hw => hts w (List.mem_cons_of_mem _ hw)⟩, hN, hK, hD, hz, Nat.le_refl _, Nat.le_refl _, Nat.le_refl _, Nat.le_refl _⟩ B.returns B.notSynchronized rfl
  rw [lg_entry_eq]
  exact h1 s.heap [] _ hP va_S.rf (lz_entry g.2.2.1 As hn hc)
theorem pw_blind (a : Array Value) (U : State) (gf : JFrame) (mk : MethodId) {As : List Value} (h : va_Pc As (PW g μ) a U) : va_Pc As (PW g μ) a (U.calling gf mk a) :=
  ⟨h.1, h.2.1, va_K.moved (u := U) (U := U.calling gf mk a) (Vm.Alike.refl U.vm) h.2.2.1, NW.same (s := U) (U := U.calling gf mk a) rfl h.2.2.2.1, h.2.2.2.2.1, h.2.2.2.2.2⟩
theorem k_ret_I {q : Int32 → Mm → Prop} {x : Int32} (cx : Cx g f cc nL own fr lo 0 0) (hr : (f_M f).sig.returnType = some .int) (hl : (f_M f).locks = false) (hQ : f_Q f = MQ (f_b f) (QW g (qI q)) (f_a f) (f_s f) 0 0 (fun q => g.2.2.2 ≤ q)) (d : decode cc pc = .ok (.ireturn, 1)) (hq : q x μ) : KW g f nL 0 0 pc ls [.int x] μ := by
  intro H locs la hP hS hz
  rw [hQ]
  exact W.iret (hlocks := hl) cx.1.1 cx.1.2.1 hr (fun t ht hW => ⟨⟨some (.int x), μ, rfl, ⟨x, rfl, hq⟩, by rw [ht]; exact hP⟩, hS.F ht⟩) hS.2.2 d
theorem k_ret_Z {q : Bool → Mm → Prop} {x : Int32} {b : Bool} (cx : Cx g f cc nL own fr lo 0 0) (hr : (f_M f).sig.returnType = some .boolean) (hl : (f_M f).locks = false) (hQ : f_Q f = MQ (f_b f) (QW g (qZ q)) (f_a f) (f_s f) 0 0 (fun q => g.2.2.2 ≤ q)) (d : decode cc pc = .ok (.ireturn, 1)) (hx : x = bI b) (hq : q b μ) : KW g f nL 0 0 pc ls [.int x] μ := by
  subst hx
  intro H locs la hP hS hz
  rw [hQ]
  exact W.zret (hlocks := hl) cx.1.1 cx.1.2.1 hr (by cases b <;> rfl) (fun t ht hW => ⟨⟨some (.int (bI b)), μ, rfl, ⟨b, rfl, hq⟩, by rw [ht]; exact hP⟩, hS.F ht⟩) hS.2.2 d
theorem k_ret_V {q : Mm → Prop} (cx : Cx g f cc nL own fr lo 0 0) (hr : (f_M f).sig.returnType = none) (hl : (f_M f).locks = false) (hQ : f_Q f = MQ (f_b f) (QW g (qV q)) (f_a f) (f_s f) 0 0 (fun q => g.2.2.2 ≤ q)) (d : decode cc pc = .ok (.return_, 1)) (hq : q μ) : KW g f nL 0 0 pc ls [] μ := by
  intro H locs la hP hS hz
  rw [hQ]
  exact W.vret (hlocks := hl) cx.1.1 cx.1.2.1 hr (fun t ht hW => ⟨⟨none, μ, rfl, ⟨rfl, hq⟩, by rw [ht]; exact hP⟩, hS.F ht⟩) hS.2.2 d
/-- what the tables say of a call: an instance method by its own name -/
def CV (own : String) (index : Nat) (y : MethodName) (b : ByteArray) (mL : Nat) (ret : Option FieldType) (n : Nat) : Prop :=
  (Cond.methodLink own index y ∈ Om ∨ ∃ host, Cond.methodLinkNest own index y host ∈ nestL) ∧ Cond.instanceMethod y ∈ Om ∧ Cond.selects y.cls y y ∈ Om ∧ Cond.initialized y.cls ∈ Om ∧ Cond.code y b mL ret ∈ Om ∧ (y.cls ≠ "java/lang/invoke/MethodHandle" ∧ y.cls ≠ "java/lang/invoke/VarHandle" ∧ (parseMethodDescriptor y.desc).map (fun d => d.parameters.length) = some n)
def CS_ (own : String) (index : Nat) (y : MethodName) (b : ByteArray) (mL : Nat) (ret : Option FieldType) (n : Nat) : Prop :=
  (Cond.methodLink own index y ∈ Om ∨ ∃ host, Cond.methodLinkNest own index y host ∈ nestL) ∧ Cond.static y ∈ Om ∧ Cond.initialized y.cls ∈ Om ∧ Cond.code y b mL ret ∈ Om ∧ (y.cls ≠ "java/lang/invoke/MethodHandle" ∧ y.cls ≠ "java/lang/invoke/VarHandle" ∧ (parseMethodDescriptor y.desc).map (fun d => d.parameters.length) = some n)
theorem k_run {y : MethodName} {q : Qo} {rest : List Value} {la0 : List Value} {H : Heap} {locs : List Loc} {la : Array Slot} (hz : lz g.2.2.1 la nL ls) (hS : va_S (fun q => g.2.2.2 ≤ q) (f_s f).heap H locs)
    (hr : va_Run (f_p f) (f_l f) (f_e f) (f_R f) (f_s f) (f_m f) (f_a f) (f_b f) (f_M f) (f_c f) H locs kc ks 0 0 (F0 (f_m f) pc la (st.map (ren g.2.2.1))) (rest.map (ren g.2.2.1)) (QW g q (la0.map (ren g.2.2.1)).toArray) (fun q => g.2.2.2 ≤ q))
    (kk : ∀ v μ2, q v μ2 → KW g f nL kc ks (pc + 3) ls (v.toList ++ rest) μ2) :
    W (f_p f) (f_l f) (f_e f) (f_R f) (f_s f) (f_m f) (f_a f) (f_b f) (f_M f) (f_c f) H locs kc ks (f_Q f) (F0 (f_m f) pc la (st.map (ren g.2.2.1))) := by
  intro T hT X
  obtain ⟨v, st₀, t, T', L, h0, X', hL, e1, e2, ⟨⟨v2, μ2, hv, hq, hP1⟩, hz1, hk⟩, stp⟩ := hr T hT X
  rw [h0] at hz1 hk
  have hv2 : v = v2.map (ren g.2.2.1) := by cases hv; rfl
  subst hv2
  obtain ⟨t2, a1, b1⟩ := kk v2 μ2 hq T'.heap (locs ++ L) la (by rw [e1]; exact hP1)
    ⟨Nat.le_trans hS.1 (by rw [e1]; exact hz1), fun q h1 h2 => by rw [e1, hk q (Nat.lt_of_lt_of_le h1 hS.1) h2]; exact hS.2.1 q h1 h2, fun q hq => by
      rcases List.mem_append.mp hq with h | h
      · exact hS.2.2 q h
      · exact hL q h⟩ hz T' rfl X'
  refine ⟨t2, stp t2 ?_, b1⟩
  have e3 : (v2.toList ++ rest).map (ren g.2.2.1) = (v2.map (ren g.2.2.1)).toList ++ rest.map (ren g.2.2.1) := by cases v2 <;> rfl
  rw [e3] at a1
  exact a1
theorem k_pre {As : List Value} {H : Heap} {locs : List Loc} (cx : Cx g f cc nL own fr lo kc ks) (hP : va_P g.1 vwCl (Wd g μ) H) (hS : va_S (fun q => g.2.2.2 ≤ q) (f_s f).heap H locs) (U : State) (hU : U.heap = H) (hW : (f_s f).WarmedH U.vm) : va_Pc (As.map (ren g.2.2.1)) (PW g μ) (As.map (ren g.2.2.1)).toArray U :=
  ⟨rfl, by rw [hU]; exact hP, va_K.moved hW.alike cx.2.2.1, NW.warm hW cx.2.1, cx.2.2.2.1, by rw [hU]; exact Nat.le_trans cx.2.2.2.2.1 hS.1⟩
theorem sum_cat (ad : Nat → Nat) (l : List Value) : (l.map (ren ad)).map (fun v => v.category) = l.map (fun v => v.category) := by
  rw [List.map_map]
  exact List.map_congr_left (fun v _ => ren_cat ad v)
theorem k_callV {index n p mL fr2 lo2 ci : Nat} {C : String} {Tt : u_T} {N : Nat} {y : MethodName} {b : ByteArray} {ret : Option FieldType} {fs : List (Option Nat)} {As rest : List Value} {q : Qo} (cx : Cx g f cc nL own fr lo kc ks) (hM : MW g (f_l f) y b mL ret fr2 lo2 (.ref p :: As) μ q) (cw : CV own index y b mL ret n) (hp : lays[p]? = some (.inr (.inr (ci, fs)))) (hc : vwCl[ci]? = some (C, Tt, N)) (hy : y.cls = C) (hn : As.length = n) (hst : st = As.reverse ++ .ref p :: rest) (hw : (rest.map fun v => v.category).sum ≤ 8) (hR : fr2 + 1 ≤ fr ∧ 8 + (mL + 11) + lo2 ≤ lo) (d : decode cc pc = .ok (.invokevirtual index, 3))
    (kk : ∀ v μ2, q v μ2 → KW g f nL kc ks (pc + 3) ls (v.toList ++ rest) μ2) : KW g f nL kc ks pc ls st μ := by
  subst hst
  intro H locs la hP hS hz
  obtain ⟨w1, w2, w3, w4, w5, w6⟩ := cw
  have hts := cx.1.2.2.2.2
  have hG : GoodIn lw_tbl (Cond.code y b mL ret :: Om) := om_good0 w5
  have hpay : ∀ w ∈ (Cond.code y b mL ret :: Om), ∀ (a2 : Array Value) (U : State), (f_s f).WarmedH U.vm → w.before a2 U = true := by
    intro w hw a2 U hW
    have hm : w ∈ Om := by rcases List.mem_cons.mp hw with rfl | h <;> assumption
    exact word_at hW (hG w hw).2 (hts w hm)
  have e1 : (List.reverse As ++ .ref p :: rest).map (ren g.2.2.1) = (As.map (ren g.2.2.1)).reverse ++ .ref (g.2.2.1 p) :: rest.map (ren g.2.2.1) := by simp [ren]
  have hrm : (8 : Nat) + (mL + 11) + lo2 ≤ (f_R f).locals := Nat.le_trans hR.2 cx.2.2.2.2.2.2.1
  have hrf : fr2 + 1 ≤ (f_R f).frames := Nat.le_trans hR.1 cx.2.2.2.2.2.1
  have hlen : ∀ sig, parseMethodDescriptor y.desc = some sig → n = sig.parameters.length := fun sig h => by
    have h2 := w6.2.2
    rw [h] at h2
    exact (Option.some.inj h2).symm
  have hpre : PreV (f_s f) H y.cls (g.2.2.1 p) (va_Pc (((.ref p :: As) : List Value).map (ren g.2.2.1)) (PW g μ)) (As.map (ren g.2.2.1)) := by
    refine ⟨fun a U gf mk h => pw_blind a U gf mk h, ?_, fun U hU hW => k_pre (As := .ref p :: As) cx hP hS U hU hW⟩
    rw [hy]
    exact va_recv cx.2.2.1 hP hc (Wd_at hp)
  have hwr : 2 * (F0 (f_m f) pc la ((List.reverse As ++ .ref p :: rest).map (ren g.2.2.1))).monitorRoom + ((rest.map (ren g.2.2.1)).map fun v => v.category).sum ≤ 8 := by
    rw [sum_cat]
    exact lv_room hw
  refine k_run (y := y) (la0 := .ref p :: As) hz hS ?_ kk
  rcases w1 with w1 | ⟨host, w1⟩
  · exact va_runV (cc := cc) (nL := nL) (Ts := Om) (own := own) ⟨cx.1.1, cx.1.2.1, cx.1.2.2.1, cx.1.2.2.2.1, hts⟩ hM ⟨⟨rfl, rfl, hrf, hrm, hpay, List.mem_cons_self, hts _ w5, hts _ w4, ⟨w6.1, w6.2.1⟩, hlen, hts _ w1⟩, hts _ w2, hts _ w3⟩ hpre rfl (by rw [List.length_map]; exact hn) hz.1 e1 hwr d ⟨cx.2.2.2.2.2.2.2.1, cx.2.2.2.2.2.2.2.2⟩
  · exact va_runVN (cc := cc) (nL := nL) (Ts := Om) (own := own) (host := host) ⟨cx.1.1, cx.1.2.1, cx.1.2.2.1, cx.1.2.2.2.1, hts⟩ hM ⟨⟨⟨rfl, rfl, hrf, hrm, hpay, List.mem_cons_self⟩, hts _ w5, hts _ w4, ⟨w6.1, w6.2.1⟩, hlen, va_Nw.use rfl (cx.2.1 _ w1)⟩, hts _ w2, hts _ w3⟩ hpre rfl (by rw [List.length_map]; exact hn) hz.1 e1 hwr d ⟨cx.2.2.2.2.2.2.2.1, cx.2.2.2.2.2.2.2.2⟩
theorem k_callS {index n mL fr2 lo2 : Nat} {y : MethodName} {b : ByteArray} {ret : Option FieldType} {As rest : List Value} {q : Qo} (cx : Cx g f cc nL own fr lo kc ks) (hM : MW g (f_l f) y b mL ret fr2 lo2 As μ q) (cw : CS_ own index y b mL ret n) (hn : As.length = n) (hst : st = As.reverse ++ rest) (hw : (rest.map fun v => v.category).sum ≤ 8) (hR : fr2 + 1 ≤ fr ∧ 8 + (mL + 11) + lo2 ≤ lo) (d : decode cc pc = .ok (.invokestatic index, 3))
    (kk : ∀ v μ2, q v μ2 → KW g f nL kc ks (pc + 3) ls (v.toList ++ rest) μ2) : KW g f nL kc ks pc ls st μ := by
  subst hst
  intro H locs la hP hS hz
  obtain ⟨w1, w2, w4, w5, w6⟩ := cw
  have hts := cx.1.2.2.2.2
  have hG : GoodIn lw_tbl (Cond.code y b mL ret :: Om) := om_good0 w5
  have hpay : ∀ w ∈ (Cond.code y b mL ret :: Om), ∀ (a2 : Array Value) (U : State), (f_s f).WarmedH U.vm → w.before a2 U = true := by
    intro w hw a2 U hW
    have hm : w ∈ Om := by rcases List.mem_cons.mp hw with rfl | h <;> assumption
    exact word_at hW (hG w hw).2 (hts w hm)
  have e1 : (List.reverse As ++ rest).map (ren g.2.2.1) = (As.map (ren g.2.2.1)).reverse ++ rest.map (ren g.2.2.1) := by simp
  have hrm : (8 : Nat) + (mL + 11) + lo2 ≤ (f_R f).locals := Nat.le_trans hR.2 cx.2.2.2.2.2.2.1
  have hrf : fr2 + 1 ≤ (f_R f).frames := Nat.le_trans hR.1 cx.2.2.2.2.2.1
  have hlen : ∀ sig, parseMethodDescriptor y.desc = some sig → n = sig.parameters.length := fun sig h => by
    have h2 := w6.2.2
    rw [h] at h2
    exact (Option.some.inj h2).symm
  have hpre : PreS (f_s f) H (va_Pc (As.map (ren g.2.2.1)) (PW g μ)) (As.map (ren g.2.2.1)) :=
    ⟨fun a U gf mk h => pw_blind a U gf mk h, fun U hU hW => k_pre (As := As) cx hP hS U hU hW⟩
  have hwr : 2 * (F0 (f_m f) pc la ((List.reverse As ++ rest).map (ren g.2.2.1))).monitorRoom + ((rest.map (ren g.2.2.1)).map fun v => v.category).sum ≤ 8 := by
    rw [sum_cat]
    exact lv_room hw
  refine k_run (y := y) (la0 := As) hz hS ?_ kk
  rcases w1 with w1 | ⟨host, w1⟩
  · exact va_runS (cc := cc) (nL := nL) (Ts := Om) (own := own) ⟨cx.1.1, cx.1.2.1, cx.1.2.2.1, cx.1.2.2.2.1, hts⟩ hM ⟨⟨rfl, rfl, hrf, hrm, hpay, List.mem_cons_self, hts _ w5, hts _ w4, ⟨w6.1, w6.2.1⟩, hlen, hts _ w1⟩, hts _ w2⟩ hpre rfl (by rw [List.length_map]; exact hn) hz.1 e1 hwr d ⟨cx.2.2.2.2.2.2.2.1, cx.2.2.2.2.2.2.2.2⟩
  · exact va_runSN (cc := cc) (nL := nL) (Ts := Om) (own := own) (host := host) ⟨cx.1.1, cx.1.2.1, cx.1.2.2.1, cx.1.2.2.2.1, hts⟩ hM ⟨⟨⟨rfl, rfl, hrf, hrm, hpay, List.mem_cons_self⟩, hts _ w5, hts _ w4, ⟨w6.1, w6.2.1⟩, hlen, va_Nw.use rfl (cx.2.1 _ w1)⟩, hts _ w2, trivial⟩ hpre rfl (by rw [List.length_map]; exact hn) hz.1 e1 hwr d ⟨cx.2.2.2.2.2.2.2.1, cx.2.2.2.2.2.2.2.2⟩
theorem bI_nar (b : Bool) : narrow .boolean (.int (bI b)) = .int (bI b) := by cases b <;> rfl
theorem bI_fit (b : Bool) : fits .boolean (.int (bI b)) = true := by cases b <;> rfl
end K1
end
section
/-! what the tables say, by their places -/
theorem om_list {ws : List Cond} (ps : List Nat) (hp : ws = ps.filterMap (fun i => lw_tbl[i]?)) (h : ws.all goodWord = true) : ∀ w ∈ ws, w ∈ Om := by
  intro w hw
  have h1 := List.all_eq_true.mp h w hw
  rw [hp] at hw
  obtain ⟨i, -, hi⟩ := List.mem_filterMap.mp hw
  exact om_tbl i hi h1
theorem nest_mem {w : Cond} (i : Nat) (h : tables_1[i]? = some w) (hn : isNest w = true) : w ∈ nestL := List.mem_filter.mpr ⟨List.mem_of_getElem? h, hn⟩
set_option maxRecDepth 20000 in
theorem in_X0 : ∀ w ∈ u_ws RX0 TX0 6, w ∈ Om := om_list [148, 150, 152, 154, 156, 158] (by decide +kernel) (by decide +kernel)
set_option maxRecDepth 20000 in
theorem in_X1 : ∀ w ∈ u_ws RX1 TX1 3, w ∈ Om := om_list [176, 178, 180] (by decide +kernel) (by decide +kernel)
set_option maxRecDepth 20000 in
theorem in_X2 : ∀ w ∈ u_ws RX2 TX2 9, w ∈ Om := om_list [112, 114, 116, 118, 120, 122, 124, 126, 128] (by decide +kernel) (by decide +kernel)
set_option maxRecDepth 20000 in
theorem in_X3 : ∀ w ∈ u_ws RX3 TX3 4, w ∈ Om := om_list [242, 244, 246, 248] (by decide +kernel) (by decide +kernel)
set_option maxRecDepth 20000 in
theorem in_X4 : ∀ w ∈ u_ws RX4 TX4 4, w ∈ Om := om_list [223, 225, 227, 229] (by decide +kernel) (by decide +kernel)
set_option maxRecDepth 20000 in
theorem in_X5 : ∀ w ∈ u_ws RX5 TX5 15, w ∈ Om := om_list [310, 312, 314, 316, 318, 320, 322, 324, 326, 328, 330, 332, 334, 336, 338] (by decide +kernel) (by decide +kernel)
set_option maxRecDepth 20000 in
theorem in_X6 : ∀ w ∈ u_ws RX6 TX6 9, w ∈ Om := om_list [192, 194, 196, 198, 200, 202, 204, 206, 208] (by decide +kernel) (by decide +kernel)
set_option maxRecDepth 20000 in
theorem in_X7 : ∀ w ∈ u_ws RX7 TX7 8, w ∈ Om := om_list [349, 351, 353, 355, 357, 359, 361, 363] (by decide +kernel) (by decide +kernel)
set_option maxRecDepth 20000 in
theorem in_X8 : ∀ w ∈ u_ws RX8 TX8 36, w ∈ Om := om_list [958, 960, 962, 964, 966, 968, 970, 972, 974, 976, 978, 980, 982, 984, 986, 988, 990, 992, 994, 996, 998, 1000, 1002, 1004, 1006, 1008, 1010, 1012, 1014, 1016, 1018, 1020, 1022, 1024, 1026, 1028] (by decide +kernel) (by decide +kernel)
theorem fl_X0_9 : FL RX0 9 0 1 := ⟨RX0, TX0, 6, rfl, by decide, rfl, in_X0, Or.inl (om_tbl 140 (by decide +kernel) rfl)⟩
theorem fl_X0_15 : FL RX0 15 0 2 := ⟨RX0, TX0, 6, rfl, by decide, rfl, in_X0, Or.inl (om_tbl 141 (by decide +kernel) rfl)⟩
theorem fl_X0_18 : FL RX0 18 0 3 := ⟨RX0, TX0, 6, rfl, by decide, rfl, in_X0, Or.inl (om_tbl 143 (by decide +kernel) rfl)⟩
theorem fl_X0_21 : FL RX0 21 0 4 := ⟨RX0, TX0, 6, rfl, by decide, rfl, in_X0, Or.inl (om_tbl 145 (by decide +kernel) rfl)⟩
theorem fl_X0_26 : FL RX0 26 0 5 := ⟨RX0, TX0, 6, rfl, by decide, rfl, in_X0, Or.inl (om_tbl 147 (by decide +kernel) rfl)⟩
theorem fl_X0_29 : FL RX0 29 0 0 := ⟨RX0, TX0, 6, rfl, by decide, rfl, in_X0, Or.inl (om_tbl 139 (by decide +kernel) rfl)⟩
theorem fl_X0_33 : FL RX0 33 2 0 := ⟨RX2, TX2, 9, rfl, by decide, rfl, in_X2, Or.inr ⟨"MeshLodger", (nest_mem 35 (by decide +kernel) rfl)⟩⟩
theorem fl_X0_38 : FL RX0 38 2 1 := ⟨RX2, TX2, 9, rfl, by decide, rfl, in_X2, Or.inr ⟨"MeshLodger", (nest_mem 37 (by decide +kernel) rfl)⟩⟩
theorem fl_X0_41 : FL RX0 41 2 7 := ⟨RX2, TX2, 9, rfl, by decide, rfl, in_X2, Or.inr ⟨"MeshLodger", (nest_mem 47 (by decide +kernel) rfl)⟩⟩
theorem fl_X0_55 : FL RX0 55 5 10 := ⟨RX5, TX5, 15, rfl, by decide, rfl, in_X5, Or.inr ⟨"MeshLodger", (nest_mem 236 (by decide +kernel) rfl)⟩⟩
theorem fl_X0_60 : FL RX0 60 5 2 := ⟨RX5, TX5, 15, rfl, by decide, rfl, in_X5, Or.inr ⟨"MeshLodger", (nest_mem 208 (by decide +kernel) rfl)⟩⟩
theorem fl_X0_63 : FL RX0 63 5 0 := ⟨RX5, TX5, 15, rfl, by decide, rfl, in_X5, Or.inr ⟨"MeshLodger", (nest_mem 199 (by decide +kernel) rfl)⟩⟩
theorem fl_X0_70 : FL RX0 70 5 11 := ⟨RX5, TX5, 15, rfl, by decide, rfl, in_X5, Or.inr ⟨"MeshLodger", (nest_mem 241 (by decide +kernel) rfl)⟩⟩
theorem fl_X0_84 : FL RX0 84 5 6 := ⟨RX5, TX5, 15, rfl, by decide, rfl, in_X5, Or.inr ⟨"MeshLodger", (nest_mem 219 (by decide +kernel) rfl)⟩⟩
theorem fl_X0_87 : FL RX0 87 5 7 := ⟨RX5, TX5, 15, rfl, by decide, rfl, in_X5, Or.inr ⟨"MeshLodger", (nest_mem 223 (by decide +kernel) rfl)⟩⟩
theorem fl_X0_94 : FL RX0 94 5 8 := ⟨RX5, TX5, 15, rfl, by decide, rfl, in_X5, Or.inr ⟨"MeshLodger", (nest_mem 226 (by decide +kernel) rfl)⟩⟩
theorem fl_X0_100 : FL RX0 100 5 9 := ⟨RX5, TX5, 15, rfl, by decide, rfl, in_X5, Or.inr ⟨"MeshLodger", (nest_mem 230 (by decide +kernel) rfl)⟩⟩
theorem fl_X0_103 : FL RX0 103 5 5 := ⟨RX5, TX5, 15, rfl, by decide, rfl, in_X5, Or.inr ⟨"MeshLodger", (nest_mem 215 (by decide +kernel) rfl)⟩⟩
theorem fl_X1_9 : FL RX1 9 1 2 := ⟨RX1, TX1, 3, rfl, by decide, rfl, in_X1, Or.inl (om_tbl 175 (by decide +kernel) rfl)⟩
theorem fl_X1_15 : FL RX1 15 1 0 := ⟨RX1, TX1, 3, rfl, by decide, rfl, in_X1, Or.inl (om_tbl 173 (by decide +kernel) rfl)⟩
theorem fl_X1_19 : FL RX1 19 1 1 := ⟨RX1, TX1, 3, rfl, by decide, rfl, in_X1, Or.inl (om_tbl 174 (by decide +kernel) rfl)⟩
theorem fl_X1_23 : FL RX1 23 5 10 := ⟨RX5, TX5, 15, rfl, by decide, rfl, in_X5, Or.inr ⟨"MeshLodger", (nest_mem 233 (by decide +kernel) rfl)⟩⟩
theorem fl_X1_29 : FL RX1 29 2 6 := ⟨RX2, TX2, 9, rfl, by decide, rfl, in_X2, Or.inr ⟨"MeshLodger", (nest_mem 44 (by decide +kernel) rfl)⟩⟩
theorem fl_X1_40 : FL RX1 40 5 0 := ⟨RX5, TX5, 15, rfl, by decide, rfl, in_X5, Or.inr ⟨"MeshLodger", (nest_mem 198 (by decide +kernel) rfl)⟩⟩
theorem fl_X1_43 : FL RX1 43 5 1 := ⟨RX5, TX5, 15, rfl, by decide, rfl, in_X5, Or.inr ⟨"MeshLodger", (nest_mem 203 (by decide +kernel) rfl)⟩⟩
theorem fl_X1_46 : FL RX1 46 5 2 := ⟨RX5, TX5, 15, rfl, by decide, rfl, in_X5, Or.inr ⟨"MeshLodger", (nest_mem 207 (by decide +kernel) rfl)⟩⟩
theorem fl_X2_9 : FL RX2 9 2 0 := ⟨RX2, TX2, 9, rfl, by decide, rfl, in_X2, Or.inl (om_tbl 96 (by decide +kernel) rfl)⟩
theorem fl_X2_15 : FL RX2 15 2 1 := ⟨RX2, TX2, 9, rfl, by decide, rfl, in_X2, Or.inl (om_tbl 98 (by decide +kernel) rfl)⟩
theorem fl_X2_18 : FL RX2 18 2 2 := ⟨RX2, TX2, 9, rfl, by decide, rfl, in_X2, Or.inl (om_tbl 100 (by decide +kernel) rfl)⟩
theorem fl_X2_21 : FL RX2 21 2 3 := ⟨RX2, TX2, 9, rfl, by decide, rfl, in_X2, Or.inl (om_tbl 101 (by decide +kernel) rfl)⟩
theorem fl_X2_26 : FL RX2 26 2 4 := ⟨RX2, TX2, 9, rfl, by decide, rfl, in_X2, Or.inl (om_tbl 102 (by decide +kernel) rfl)⟩
theorem fl_X2_29 : FL RX2 29 2 5 := ⟨RX2, TX2, 9, rfl, by decide, rfl, in_X2, Or.inl (om_tbl 103 (by decide +kernel) rfl)⟩
theorem fl_X2_32 : FL RX2 32 2 6 := ⟨RX2, TX2, 9, rfl, by decide, rfl, in_X2, Or.inl (om_tbl 104 (by decide +kernel) rfl)⟩
theorem fl_X2_36 : FL RX2 36 2 7 := ⟨RX2, TX2, 9, rfl, by decide, rfl, in_X2, Or.inl (om_tbl 107 (by decide +kernel) rfl)⟩
theorem fl_X2_46 : FL RX2 46 2 8 := ⟨RX2, TX2, 9, rfl, by decide, rfl, in_X2, Or.inl (om_tbl 111 (by decide +kernel) rfl)⟩
theorem fl_X3_9 : FL RX3 9 3 2 := ⟨RX3, TX3, 4, rfl, by decide, rfl, in_X3, Or.inl (om_tbl 240 (by decide +kernel) rfl)⟩
theorem fl_X3_15 : FL RX3 15 3 0 := ⟨RX3, TX3, 4, rfl, by decide, rfl, in_X3, Or.inl (om_tbl 238 (by decide +kernel) rfl)⟩
theorem fl_X3_19 : FL RX3 19 3 1 := ⟨RX3, TX3, 4, rfl, by decide, rfl, in_X3, Or.inl (om_tbl 239 (by decide +kernel) rfl)⟩
theorem fl_X3_23 : FL RX3 23 5 1 := ⟨RX5, TX5, 15, rfl, by decide, rfl, in_X5, Or.inr ⟨"MeshLodger", (nest_mem 202 (by decide +kernel) rfl)⟩⟩
theorem fl_X3_38 : FL RX3 38 5 0 := ⟨RX5, TX5, 15, rfl, by decide, rfl, in_X5, Or.inr ⟨"MeshLodger", (nest_mem 197 (by decide +kernel) rfl)⟩⟩
theorem fl_X3_41 : FL RX3 41 5 2 := ⟨RX5, TX5, 15, rfl, by decide, rfl, in_X5, Or.inr ⟨"MeshLodger", (nest_mem 205 (by decide +kernel) rfl)⟩⟩
theorem fl_X3_44 : FL RX3 44 3 3 := ⟨RX3, TX3, 4, rfl, by decide, rfl, in_X3, Or.inl (om_tbl 241 (by decide +kernel) rfl)⟩
theorem fl_X3_52 : FL RX3 52 5 11 := ⟨RX5, TX5, 15, rfl, by decide, rfl, in_X5, Or.inr ⟨"MeshLodger", (nest_mem 237 (by decide +kernel) rfl)⟩⟩
theorem fl_X3_59 : FL RX3 59 5 6 := ⟨RX5, TX5, 15, rfl, by decide, rfl, in_X5, Or.inr ⟨"MeshLodger", (nest_mem 217 (by decide +kernel) rfl)⟩⟩
theorem fl_X3_76 : FL RX3 76 5 5 := ⟨RX5, TX5, 15, rfl, by decide, rfl, in_X5, Or.inr ⟨"MeshLodger", (nest_mem 212 (by decide +kernel) rfl)⟩⟩
theorem fl_X4_9 : FL RX4 9 4 0 := ⟨RX4, TX4, 4, rfl, by decide, rfl, in_X4, Or.inl (om_tbl 219 (by decide +kernel) rfl)⟩
theorem fl_X4_15 : FL RX4 15 4 1 := ⟨RX4, TX4, 4, rfl, by decide, rfl, in_X4, Or.inl (om_tbl 220 (by decide +kernel) rfl)⟩
theorem fl_X4_19 : FL RX4 19 4 2 := ⟨RX4, TX4, 4, rfl, by decide, rfl, in_X4, Or.inl (om_tbl 221 (by decide +kernel) rfl)⟩
theorem fl_X4_28 : FL RX4 28 4 3 := ⟨RX4, TX4, 4, rfl, by decide, rfl, in_X4, Or.inl (om_tbl 222 (by decide +kernel) rfl)⟩
theorem fl_X4_66 : FL RX4 66 5 11 := ⟨RX5, TX5, 15, rfl, by decide, rfl, in_X5, Or.inr ⟨"MeshLodger", (nest_mem 240 (by decide +kernel) rfl)⟩⟩
theorem fl_X4_83 : FL RX4 83 5 5 := ⟨RX5, TX5, 15, rfl, by decide, rfl, in_X5, Or.inr ⟨"MeshLodger", (nest_mem 214 (by decide +kernel) rfl)⟩⟩
theorem fl_X4_100 : FL RX4 100 5 7 := ⟨RX5, TX5, 15, rfl, by decide, rfl, in_X5, Or.inr ⟨"MeshLodger", (nest_mem 222 (by decide +kernel) rfl)⟩⟩
theorem fl_X4_109 : FL RX4 109 5 8 := ⟨RX5, TX5, 15, rfl, by decide, rfl, in_X5, Or.inr ⟨"MeshLodger", (nest_mem 225 (by decide +kernel) rfl)⟩⟩
theorem fl_X4_112 : FL RX4 112 5 6 := ⟨RX5, TX5, 15, rfl, by decide, rfl, in_X5, Or.inr ⟨"MeshLodger", (nest_mem 218 (by decide +kernel) rfl)⟩⟩
theorem fl_X4_118 : FL RX4 118 5 9 := ⟨RX5, TX5, 15, rfl, by decide, rfl, in_X5, Or.inr ⟨"MeshLodger", (nest_mem 229 (by decide +kernel) rfl)⟩⟩
theorem fl_X5_9 : FL RX5 9 5 0 := ⟨RX5, TX5, 15, rfl, by decide, rfl, in_X5, Or.inl (om_tbl 258 (by decide +kernel) rfl)⟩
theorem fl_X5_15 : FL RX5 15 5 1 := ⟨RX5, TX5, 15, rfl, by decide, rfl, in_X5, Or.inl (om_tbl 263 (by decide +kernel) rfl)⟩
theorem fl_X5_18 : FL RX5 18 5 2 := ⟨RX5, TX5, 15, rfl, by decide, rfl, in_X5, Or.inl (om_tbl 266 (by decide +kernel) rfl)⟩
theorem fl_X5_21 : FL RX5 21 5 3 := ⟨RX5, TX5, 15, rfl, by decide, rfl, in_X5, Or.inl (om_tbl 271 (by decide +kernel) rfl)⟩
theorem fl_X5_24 : FL RX5 24 5 4 := ⟨RX5, TX5, 15, rfl, by decide, rfl, in_X5, Or.inl (om_tbl 272 (by decide +kernel) rfl)⟩
theorem fl_X5_27 : FL RX5 27 5 5 := ⟨RX5, TX5, 15, rfl, by decide, rfl, in_X5, Or.inl (om_tbl 273 (by decide +kernel) rfl)⟩
theorem fl_X5_30 : FL RX5 30 5 6 := ⟨RX5, TX5, 15, rfl, by decide, rfl, in_X5, Or.inl (om_tbl 278 (by decide +kernel) rfl)⟩
theorem fl_X5_33 : FL RX5 33 5 7 := ⟨RX5, TX5, 15, rfl, by decide, rfl, in_X5, Or.inl (om_tbl 283 (by decide +kernel) rfl)⟩
theorem fl_X5_36 : FL RX5 36 5 8 := ⟨RX5, TX5, 15, rfl, by decide, rfl, in_X5, Or.inl (om_tbl 286 (by decide +kernel) rfl)⟩
theorem fl_X5_39 : FL RX5 39 5 9 := ⟨RX5, TX5, 15, rfl, by decide, rfl, in_X5, Or.inl (om_tbl 290 (by decide +kernel) rfl)⟩
theorem fl_X5_42 : FL RX5 42 5 10 := ⟨RX5, TX5, 15, rfl, by decide, rfl, in_X5, Or.inl (om_tbl 294 (by decide +kernel) rfl)⟩
theorem fl_X5_46 : FL RX5 46 5 11 := ⟨RX5, TX5, 15, rfl, by decide, rfl, in_X5, Or.inl (om_tbl 300 (by decide +kernel) rfl)⟩
theorem fl_X5_63 : FL RX5 63 5 14 := ⟨RX5, TX5, 15, rfl, by decide, rfl, in_X5, Or.inl (om_tbl 309 (by decide +kernel) rfl)⟩
theorem fl_X5_67 : FL RX5 67 5 12 := ⟨RX5, TX5, 15, rfl, by decide, rfl, in_X5, Or.inl (om_tbl 306 (by decide +kernel) rfl)⟩
theorem fl_X6_9 : FL RX6 9 6 3 := ⟨RX6, TX6, 9, rfl, by decide, rfl, in_X6, Or.inl (om_tbl 186 (by decide +kernel) rfl)⟩
theorem fl_X6_15 : FL RX6 15 6 4 := ⟨RX6, TX6, 9, rfl, by decide, rfl, in_X6, Or.inl (om_tbl 187 (by decide +kernel) rfl)⟩
theorem fl_X6_18 : FL RX6 18 6 5 := ⟨RX6, TX6, 9, rfl, by decide, rfl, in_X6, Or.inl (om_tbl 188 (by decide +kernel) rfl)⟩
theorem fl_X6_21 : FL RX6 21 6 6 := ⟨RX6, TX6, 9, rfl, by decide, rfl, in_X6, Or.inl (om_tbl 189 (by decide +kernel) rfl)⟩
theorem fl_X6_24 : FL RX6 24 6 0 := ⟨RX6, TX6, 9, rfl, by decide, rfl, in_X6, Or.inl (om_tbl 183 (by decide +kernel) rfl)⟩
theorem fl_X6_28 : FL RX6 28 6 1 := ⟨RX6, TX6, 9, rfl, by decide, rfl, in_X6, Or.inl (om_tbl 184 (by decide +kernel) rfl)⟩
theorem fl_X6_37 : FL RX6 37 6 2 := ⟨RX6, TX6, 9, rfl, by decide, rfl, in_X6, Or.inl (om_tbl 185 (by decide +kernel) rfl)⟩
theorem fl_X6_41 : FL RX6 41 6 7 := ⟨RX6, TX6, 9, rfl, by decide, rfl, in_X6, Or.inl (om_tbl 190 (by decide +kernel) rfl)⟩
theorem fl_X6_45 : FL RX6 45 6 8 := ⟨RX6, TX6, 9, rfl, by decide, rfl, in_X6, Or.inl (om_tbl 191 (by decide +kernel) rfl)⟩
theorem fl_X6_68 : FL RX6 68 5 10 := ⟨RX5, TX5, 15, rfl, by decide, rfl, in_X5, Or.inr ⟨"MeshLodger", (nest_mem 234 (by decide +kernel) rfl)⟩⟩
theorem fl_X6_73 : FL RX6 73 5 2 := ⟨RX5, TX5, 15, rfl, by decide, rfl, in_X5, Or.inr ⟨"MeshLodger", (nest_mem 206 (by decide +kernel) rfl)⟩⟩
theorem fl_X6_76 : FL RX6 76 5 11 := ⟨RX5, TX5, 15, rfl, by decide, rfl, in_X5, Or.inr ⟨"MeshLodger", (nest_mem 239 (by decide +kernel) rfl)⟩⟩
theorem fl_X6_83 : FL RX6 83 5 5 := ⟨RX5, TX5, 15, rfl, by decide, rfl, in_X5, Or.inr ⟨"MeshLodger", (nest_mem 213 (by decide +kernel) rfl)⟩⟩
theorem fl_X7_12 : FL RX7 12 7 0 := ⟨RX7, TX7, 8, rfl, by decide, rfl, in_X7, Or.inl (om_tbl 341 (by decide +kernel) rfl)⟩
theorem fl_X7_21 : FL RX7 21 7 1 := ⟨RX7, TX7, 8, rfl, by decide, rfl, in_X7, Or.inl (om_tbl 342 (by decide +kernel) rfl)⟩
theorem fl_X7_30 : FL RX7 30 7 2 := ⟨RX7, TX7, 8, rfl, by decide, rfl, in_X7, Or.inl (om_tbl 343 (by decide +kernel) rfl)⟩
theorem fl_X7_46 : FL RX7 46 7 4 := ⟨RX7, TX7, 8, rfl, by decide, rfl, in_X7, Or.inl (om_tbl 345 (by decide +kernel) rfl)⟩
theorem fl_X7_52 : FL RX7 52 7 5 := ⟨RX7, TX7, 8, rfl, by decide, rfl, in_X7, Or.inl (om_tbl 346 (by decide +kernel) rfl)⟩
theorem fl_X7_64 : FL RX7 64 2 6 := ⟨RX2, TX2, 9, rfl, by decide, rfl, in_X2, Or.inr ⟨"MeshLodger", (nest_mem 43 (by decide +kernel) rfl)⟩⟩
theorem fl_X7_110 : FL RX7 110 7 6 := ⟨RX7, TX7, 8, rfl, by decide, rfl, in_X7, Or.inl (om_tbl 347 (by decide +kernel) rfl)⟩
theorem fl_X7_113 : FL RX7 113 5 14 := ⟨RX5, TX5, 15, rfl, by decide, rfl, in_X5, Or.inr ⟨"MeshLodger", (nest_mem 246 (by decide +kernel) rfl)⟩⟩
theorem fl_X7_129 : FL RX7 129 5 10 := ⟨RX5, TX5, 15, rfl, by decide, rfl, in_X5, Or.inr ⟨"MeshLodger", (nest_mem 235 (by decide +kernel) rfl)⟩⟩
theorem fl_X7_171 : FL RX7 171 7 7 := ⟨RX7, TX7, 8, rfl, by decide, rfl, in_X7, Or.inl (om_tbl 348 (by decide +kernel) rfl)⟩
theorem fl_X7_265 : FL RX7 265 5 0 := ⟨RX5, TX5, 15, rfl, by decide, rfl, in_X5, Or.inr ⟨"MeshLodger", (nest_mem 200 (by decide +kernel) rfl)⟩⟩
theorem fl_X8_7 : FL RX8 7 8 2 := ⟨RX8, TX8, 36, rfl, by decide, rfl, in_X8, Or.inl (om_tbl 924 (by decide +kernel) rfl)⟩
theorem fl_X8_13 : FL RX8 13 8 4 := ⟨RX8, TX8, 36, rfl, by decide, rfl, in_X8, Or.inl (om_tbl 926 (by decide +kernel) rfl)⟩
theorem fl_X8_16 : FL RX8 16 8 5 := ⟨RX8, TX8, 36, rfl, by decide, rfl, in_X8, Or.inl (om_tbl 927 (by decide +kernel) rfl)⟩
theorem fl_X8_19 : FL RX8 19 8 6 := ⟨RX8, TX8, 36, rfl, by decide, rfl, in_X8, Or.inl (om_tbl 928 (by decide +kernel) rfl)⟩
theorem fl_X8_22 : FL RX8 22 8 7 := ⟨RX8, TX8, 36, rfl, by decide, rfl, in_X8, Or.inl (om_tbl 929 (by decide +kernel) rfl)⟩
theorem fl_X8_26 : FL RX8 26 8 9 := ⟨RX8, TX8, 36, rfl, by decide, rfl, in_X8, Or.inl (om_tbl 931 (by decide +kernel) rfl)⟩
theorem fl_X8_29 : FL RX8 29 8 10 := ⟨RX8, TX8, 36, rfl, by decide, rfl, in_X8, Or.inl (om_tbl 932 (by decide +kernel) rfl)⟩
theorem fl_X8_32 : FL RX8 32 8 11 := ⟨RX8, TX8, 36, rfl, by decide, rfl, in_X8, Or.inl (om_tbl 933 (by decide +kernel) rfl)⟩
theorem fl_X8_35 : FL RX8 35 8 12 := ⟨RX8, TX8, 36, rfl, by decide, rfl, in_X8, Or.inl (om_tbl 934 (by decide +kernel) rfl)⟩
theorem fl_X8_38 : FL RX8 38 8 13 := ⟨RX8, TX8, 36, rfl, by decide, rfl, in_X8, Or.inl (om_tbl 935 (by decide +kernel) rfl)⟩
theorem fl_X8_41 : FL RX8 41 8 14 := ⟨RX8, TX8, 36, rfl, by decide, rfl, in_X8, Or.inl (om_tbl 936 (by decide +kernel) rfl)⟩
theorem fl_X8_44 : FL RX8 44 8 15 := ⟨RX8, TX8, 36, rfl, by decide, rfl, in_X8, Or.inl (om_tbl 937 (by decide +kernel) rfl)⟩
theorem fl_X8_47 : FL RX8 47 8 16 := ⟨RX8, TX8, 36, rfl, by decide, rfl, in_X8, Or.inl (om_tbl 938 (by decide +kernel) rfl)⟩
theorem fl_X8_50 : FL RX8 50 8 17 := ⟨RX8, TX8, 36, rfl, by decide, rfl, in_X8, Or.inl (om_tbl 939 (by decide +kernel) rfl)⟩
theorem fl_X8_53 : FL RX8 53 8 18 := ⟨RX8, TX8, 36, rfl, by decide, rfl, in_X8, Or.inl (om_tbl 940 (by decide +kernel) rfl)⟩
theorem fl_X8_56 : FL RX8 56 8 19 := ⟨RX8, TX8, 36, rfl, by decide, rfl, in_X8, Or.inl (om_tbl 941 (by decide +kernel) rfl)⟩
theorem fl_X8_59 : FL RX8 59 8 20 := ⟨RX8, TX8, 36, rfl, by decide, rfl, in_X8, Or.inl (om_tbl 942 (by decide +kernel) rfl)⟩
theorem fl_X8_62 : FL RX8 62 8 21 := ⟨RX8, TX8, 36, rfl, by decide, rfl, in_X8, Or.inl (om_tbl 943 (by decide +kernel) rfl)⟩
theorem fl_X8_65 : FL RX8 65 8 22 := ⟨RX8, TX8, 36, rfl, by decide, rfl, in_X8, Or.inl (om_tbl 944 (by decide +kernel) rfl)⟩
theorem fl_X8_68 : FL RX8 68 8 23 := ⟨RX8, TX8, 36, rfl, by decide, rfl, in_X8, Or.inl (om_tbl 945 (by decide +kernel) rfl)⟩
theorem fl_X8_71 : FL RX8 71 8 24 := ⟨RX8, TX8, 36, rfl, by decide, rfl, in_X8, Or.inl (om_tbl 946 (by decide +kernel) rfl)⟩
theorem fl_X8_74 : FL RX8 74 8 25 := ⟨RX8, TX8, 36, rfl, by decide, rfl, in_X8, Or.inl (om_tbl 947 (by decide +kernel) rfl)⟩
theorem fl_X8_77 : FL RX8 77 8 26 := ⟨RX8, TX8, 36, rfl, by decide, rfl, in_X8, Or.inl (om_tbl 948 (by decide +kernel) rfl)⟩
theorem fl_X8_80 : FL RX8 80 8 27 := ⟨RX8, TX8, 36, rfl, by decide, rfl, in_X8, Or.inl (om_tbl 949 (by decide +kernel) rfl)⟩
theorem fl_X8_83 : FL RX8 83 8 28 := ⟨RX8, TX8, 36, rfl, by decide, rfl, in_X8, Or.inl (om_tbl 950 (by decide +kernel) rfl)⟩
theorem fl_X8_86 : FL RX8 86 8 29 := ⟨RX8, TX8, 36, rfl, by decide, rfl, in_X8, Or.inl (om_tbl 951 (by decide +kernel) rfl)⟩
theorem fl_X8_89 : FL RX8 89 8 30 := ⟨RX8, TX8, 36, rfl, by decide, rfl, in_X8, Or.inl (om_tbl 952 (by decide +kernel) rfl)⟩
theorem fl_X8_92 : FL RX8 92 8 31 := ⟨RX8, TX8, 36, rfl, by decide, rfl, in_X8, Or.inl (om_tbl 953 (by decide +kernel) rfl)⟩
theorem fl_X8_95 : FL RX8 95 8 32 := ⟨RX8, TX8, 36, rfl, by decide, rfl, in_X8, Or.inl (om_tbl 954 (by decide +kernel) rfl)⟩
theorem fl_X8_98 : FL RX8 98 8 33 := ⟨RX8, TX8, 36, rfl, by decide, rfl, in_X8, Or.inl (om_tbl 955 (by decide +kernel) rfl)⟩
theorem fl_X8_101 : FL RX8 101 8 34 := ⟨RX8, TX8, 36, rfl, by decide, rfl, in_X8, Or.inl (om_tbl 956 (by decide +kernel) rfl)⟩
theorem fl_X8_104 : FL RX8 104 8 35 := ⟨RX8, TX8, 36, rfl, by decide, rfl, in_X8, Or.inl (om_tbl 957 (by decide +kernel) rfl)⟩
theorem fl_X8_108 : FL RX8 108 8 1 := ⟨RX8, TX8, 36, rfl, by decide, rfl, in_X8, Or.inl (om_tbl 923 (by decide +kernel) rfl)⟩
theorem fl_X8_115 : FL RX8 115 8 3 := ⟨RX8, TX8, 36, rfl, by decide, rfl, in_X8, Or.inl (om_tbl 925 (by decide +kernel) rfl)⟩
theorem fl_X8_118 : FL RX8 118 8 8 := ⟨RX8, TX8, 36, rfl, by decide, rfl, in_X8, Or.inl (om_tbl 930 (by decide +kernel) rfl)⟩
theorem fl_X8_223 : FL RX8 223 8 0 := ⟨RX8, TX8, 36, rfl, by decide, rfl, in_X8, Or.inl (om_tbl 922 (by decide +kernel) rfl)⟩
theorem fp_X2_32 : FP RX2 32 2 6 .int := ⟨fl_X2_32, RX2, TX2, 9, tyX2, rfl, tyX2_ok, nmX2, rfl, by decide +kernel⟩
theorem fp_X2_36 : FP RX2 36 2 7 .int := ⟨fl_X2_36, RX2, TX2, 9, tyX2, rfl, tyX2_ok, nmX2, rfl, by decide +kernel⟩
theorem fp_X2_46 : FP RX2 46 2 8 .int := ⟨fl_X2_46, RX2, TX2, 9, tyX2, rfl, tyX2_ok, nmX2, rfl, by decide +kernel⟩
theorem fp_X3_44 : FP RX3 44 3 3 .int := ⟨fl_X3_44, RX3, TX3, 4, tyX3, rfl, tyX3_ok, nmX3, rfl, by decide +kernel⟩
theorem fp_X5_42 : FP RX5 42 5 10 .int := ⟨fl_X5_42, RX5, TX5, 15, tyX5, rfl, tyX5_ok, nmX5, rfl, by decide +kernel⟩
theorem fp_X5_46 : FP RX5 46 5 11 .int := ⟨fl_X5_46, RX5, TX5, 15, tyX5, rfl, tyX5_ok, nmX5, rfl, by decide +kernel⟩
theorem fp_X6_41 : FP RX6 41 6 7 .int := ⟨fl_X6_41, RX6, TX6, 9, tyX6, rfl, tyX6_ok, nmX6, rfl, by decide +kernel⟩
theorem fp_X6_45 : FP RX6 45 6 8 .int := ⟨fl_X6_45, RX6, TX6, 9, tyX6, rfl, tyX6_ok, nmX6, rfl, by decide +kernel⟩
theorem fp_X7_113 : FP RX7 113 5 14 .boolean := ⟨fl_X7_113, RX5, TX5, 15, tyX5, rfl, tyX5_ok, nmX5, rfl, by decide +kernel⟩
theorem fp_X8_104 : FP RX8 104 8 35 .int := ⟨fl_X8_104, RX8, TX8, 36, tyX8, rfl, tyX8_ok, nmX8, rfl, by decide +kernel⟩
theorem fp_X8_108 : FP RX8 108 8 1 .int := ⟨fl_X8_108, RX8, TX8, 36, tyX8, rfl, tyX8_ok, nmX8, rfl, by decide +kernel⟩
theorem fp_X8_115 : FP RX8 115 8 3 .int := ⟨fl_X8_115, RX8, TX8, 36, tyX8, rfl, tyX8_ok, nmX8, rfl, by decide +kernel⟩
theorem fp_X8_118 : FP RX8 118 8 8 .int := ⟨fl_X8_118, RX8, TX8, 36, tyX8, rfl, tyX8_ok, nmX8, rfl, by decide +kernel⟩
theorem fp_X8_223 : FP RX8 223 8 0 .int := ⟨fl_X8_223, RX8, TX8, 36, tyX8, rfl, tyX8_ok, nmX8, rfl, by decide +kernel⟩
theorem kc_J6_265 : Cond.constant RJ6 265 (1431655765 : Int32) ∈ Om := (om_tbl 440 (by decide +kernel) rfl)
theorem kc_J6_266 : Cond.constant RJ6 266 (858993459 : Int32) ∈ Om := (om_tbl 441 (by decide +kernel) rfl)
theorem kc_J6_267 : Cond.constant RJ6 267 (252645135 : Int32) ∈ Om := (om_tbl 442 (by decide +kernel) rfl)
theorem cv_X0_45 : CV RX0 45 yX0_leftOnLink cX0_leftOnLink 2 (some .int) 1 := ⟨Or.inl (om_tbl 421 (by decide +kernel) rfl), (om_tbl 422 (by decide +kernel) rfl), (om_tbl 423 (by decide +kernel) rfl), (om_tbl 65 (by decide +kernel) rfl), (om_tbl 424 (by decide +kernel) rfl), by decide +kernel, by decide +kernel, by decide +kernel⟩
theorem cv_X0_66 : CV RX0 66 yX0_enterPart cX0_enterPart 4 none 3 := ⟨Or.inl (om_tbl 787 (by decide +kernel) rfl), (om_tbl 492 (by decide +kernel) rfl), (om_tbl 493 (by decide +kernel) rfl), (om_tbl 65 (by decide +kernel) rfl), (om_tbl 494 (by decide +kernel) rfl), by decide +kernel, by decide +kernel, by decide +kernel⟩
theorem cv_X0_73 : CV RX0 73 yX0_enterWays cX0_enterWays 4 none 3 := ⟨Or.inl (om_tbl 788 (by decide +kernel) rfl), (om_tbl 778 (by decide +kernel) rfl), (om_tbl 779 (by decide +kernel) rfl), (om_tbl 65 (by decide +kernel) rfl), (om_tbl 780 (by decide +kernel) rfl), by decide +kernel, by decide +kernel, by decide +kernel⟩
theorem cv_X0_77 : CV RX0 77 yX0_enterSecondWay cX0_enterSecondWay 5 none 3 := ⟨Or.inl (om_tbl 789 (by decide +kernel) rfl), (om_tbl 790 (by decide +kernel) rfl), (om_tbl 791 (by decide +kernel) rfl), (om_tbl 65 (by decide +kernel) rfl), (om_tbl 792 (by decide +kernel) rfl), by decide +kernel, by decide +kernel, by decide +kernel⟩
theorem cv_X0_80 : CV RX0 80 yX2_hasNode cX2_hasNode 2 (some .boolean) 1 := ⟨Or.inl (om_tbl 495 (by decide +kernel) rfl), (om_tbl 496 (by decide +kernel) rfl), (om_tbl 497 (by decide +kernel) rfl), (om_tbl 64 (by decide +kernel) rfl), (om_tbl 498 (by decide +kernel) rfl), by decide +kernel, by decide +kernel, by decide +kernel⟩
theorem cv_X0_90 : CV RX0 90 yX0_carry cX0_carry 4 none 2 := ⟨Or.inl (om_tbl 781 (by decide +kernel) rfl), (om_tbl 458 (by decide +kernel) rfl), (om_tbl 459 (by decide +kernel) rfl), (om_tbl 65 (by decide +kernel) rfl), (om_tbl 460 (by decide +kernel) rfl), by decide +kernel, by decide +kernel, by decide +kernel⟩
theorem cv_X0_97 : CV RX0 97 yX5_restOf cX5_restOf 2 (some .int) 1 := ⟨Or.inl (om_tbl 782 (by decide +kernel) rfl), (om_tbl 773 (by decide +kernel) rfl), (om_tbl 774 (by decide +kernel) rfl), (om_tbl 70 (by decide +kernel) rfl), (om_tbl 775 (by decide +kernel) rfl), by decide +kernel, by decide +kernel, by decide +kernel⟩
theorem cv_X0_106 : CV RX0 106 yX0_reserve cX0_reserve 6 none 3 := ⟨Or.inl (om_tbl 793 (by decide +kernel) rfl), (om_tbl 795 (by decide +kernel) rfl), (om_tbl 16 (by decide +kernel) rfl), (om_tbl 65 (by decide +kernel) rfl), (om_tbl 796 (by decide +kernel) rfl), by decide +kernel, by decide +kernel, by decide +kernel⟩
theorem cv_X1_34 : CV RX1 34 yX0_leftAtNode cX0_leftAtNode 2 (some .int) 1 := ⟨Or.inl (om_tbl 394 (by decide +kernel) rfl), (om_tbl 395 (by decide +kernel) rfl), (om_tbl 396 (by decide +kernel) rfl), (om_tbl 65 (by decide +kernel) rfl), (om_tbl 397 (by decide +kernel) rfl), by decide +kernel, by decide +kernel, by decide +kernel⟩
theorem cv_X2_39 : CV RX2 39 yX2_findWays cX2_findWays 2 none 0 := ⟨Or.inl (om_tbl 656 (by decide +kernel) rfl), (om_tbl 658 (by decide +kernel) rfl), (om_tbl 9 (by decide +kernel) rfl), (om_tbl 64 (by decide +kernel) rfl), (om_tbl 659 (by decide +kernel) rfl), by decide +kernel, by decide +kernel, by decide +kernel⟩
theorem cv_X2_42 : CV RX2 42 yX2_beyond cX2_beyond 3 (some .int) 2 := ⟨Or.inl (om_tbl 647 (by decide +kernel) rfl), (om_tbl 648 (by decide +kernel) rfl), (om_tbl 649 (by decide +kernel) rfl), (om_tbl 64 (by decide +kernel) rfl), (om_tbl 650 (by decide +kernel) rfl), by decide +kernel, by decide +kernel, by decide +kernel⟩
theorem cv_X2_49 : CS_ RX2 49 yX2_walk cX2_walk 7 none 5 := ⟨Or.inl (om_tbl 660 (by decide +kernel) rfl), (om_tbl 661 (by decide +kernel) rfl), (om_tbl 64 (by decide +kernel) rfl), (om_tbl 662 (by decide +kernel) rfl), by decide +kernel, by decide +kernel, by decide +kernel⟩
theorem cv_X2_53 : CS_ RX2 53 yJ6_bitCount_0f7a4 cJ6_bitCount_0f7a4 1 (some .int) 1 := ⟨Or.inl (om_tbl 437 (by decide +kernel) rfl), (om_tbl 438 (by decide +kernel) rfl), (om_tbl 78 (by decide +kernel) rfl), (om_tbl 439 (by decide +kernel) rfl), by decide +kernel, by decide +kernel, by decide +kernel⟩
theorem cv_X2_59 : CS_ RX2 59 yX2_pairOf cX2_pairOf 2 (some .int) 2 := ⟨Or.inl (om_tbl 663 (by decide +kernel) rfl), (om_tbl 415 (by decide +kernel) rfl), (om_tbl 64 (by decide +kernel) rfl), (om_tbl 416 (by decide +kernel) rfl), by decide +kernel, by decide +kernel, by decide +kernel⟩
theorem cv_X2_62 : CV RX2 62 yX2_keepWay cX2_keepWay 3 none 2 := ⟨Or.inl (om_tbl 664 (by decide +kernel) rfl), (om_tbl 666 (by decide +kernel) rfl), (om_tbl 10 (by decide +kernel) rfl), (om_tbl 64 (by decide +kernel) rfl), (om_tbl 667 (by decide +kernel) rfl), by decide +kernel, by decide +kernel, by decide +kernel⟩
theorem cv_X2_66 : CV RX2 66 yX2_countOfWays cX2_countOfWays 2 (some .int) 1 := ⟨Or.inl (om_tbl 429 (by decide +kernel) rfl), (om_tbl 430 (by decide +kernel) rfl), (om_tbl 431 (by decide +kernel) rfl), (om_tbl 64 (by decide +kernel) rfl), (om_tbl 432 (by decide +kernel) rfl), by decide +kernel, by decide +kernel, by decide +kernel⟩
theorem cv_X2_69 : CV RX2 69 yX2_wayOf cX2_wayOf 4 (some .int) 2 := ⟨Or.inl (om_tbl 433 (by decide +kernel) rfl), (om_tbl 434 (by decide +kernel) rfl), (om_tbl 435 (by decide +kernel) rfl), (om_tbl 64 (by decide +kernel) rfl), (om_tbl 436 (by decide +kernel) rfl), by decide +kernel, by decide +kernel, by decide +kernel⟩
theorem cv_X3_28 : CV RX3 28 yX5_isAt cX5_isAt 3 (some .boolean) 1 := ⟨Or.inl (om_tbl 482 (by decide +kernel) rfl), (om_tbl 483 (by decide +kernel) rfl), (om_tbl 484 (by decide +kernel) rfl), (om_tbl 70 (by decide +kernel) rfl), (om_tbl 485 (by decide +kernel) rfl), by decide +kernel, by decide +kernel, by decide +kernel⟩
theorem cv_X3_32 : CV RX3 32 yX0_leftAtNode cX0_leftAtNode 2 (some .int) 1 := ⟨Or.inl (om_tbl 486 (by decide +kernel) rfl), (om_tbl 395 (by decide +kernel) rfl), (om_tbl 396 (by decide +kernel) rfl), (om_tbl 65 (by decide +kernel) rfl), (om_tbl 397 (by decide +kernel) rfl), by decide +kernel, by decide +kernel, by decide +kernel⟩
theorem cv_X3_48 : CV RX3 48 yX3_putAt cX3_putAt 4 none 3 := ⟨Or.inl (om_tbl 487 (by decide +kernel) rfl), (om_tbl 489 (by decide +kernel) rfl), (om_tbl 5 (by decide +kernel) rfl), (om_tbl 69 (by decide +kernel) rfl), (om_tbl 490 (by decide +kernel) rfl), by decide +kernel, by decide +kernel, by decide +kernel⟩
theorem cv_X3_55 : CV RX3 55 yX5_isLineOf cX5_isLineOf 3 (some .boolean) 2 := ⟨Or.inl (om_tbl 499 (by decide +kernel) rfl), (om_tbl 500 (by decide +kernel) rfl), (om_tbl 501 (by decide +kernel) rfl), (om_tbl 70 (by decide +kernel) rfl), (om_tbl 502 (by decide +kernel) rfl), by decide +kernel, by decide +kernel, by decide +kernel⟩
theorem cv_X3_62 : CV RX3 62 yX3_giveWay cX3_giveWay 4 none 3 := ⟨Or.inl (om_tbl 503 (by decide +kernel) rfl), (om_tbl 505 (by decide +kernel) rfl), (om_tbl 6 (by decide +kernel) rfl), (om_tbl 69 (by decide +kernel) rfl), (om_tbl 506 (by decide +kernel) rfl), by decide +kernel, by decide +kernel, by decide +kernel⟩
theorem cv_X3_65 : CV RX3 65 yX3_findWay cX3_findWay 4 (some .boolean) 2 := ⟨Or.inl (om_tbl 508 (by decide +kernel) rfl), (om_tbl 510 (by decide +kernel) rfl), (om_tbl 7 (by decide +kernel) rfl), (om_tbl 69 (by decide +kernel) rfl), (om_tbl 511 (by decide +kernel) rfl), by decide +kernel, by decide +kernel, by decide +kernel⟩
theorem cv_X3_69 : CV RX3 69 yX3_takeBack cX3_takeBack 4 none 2 := ⟨Or.inl (om_tbl 515 (by decide +kernel) rfl), (om_tbl 516 (by decide +kernel) rfl), (om_tbl 517 (by decide +kernel) rfl), (om_tbl 69 (by decide +kernel) rfl), (om_tbl 518 (by decide +kernel) rfl), by decide +kernel, by decide +kernel, by decide +kernel⟩
theorem cv_X3_73 : CV RX3 73 yX5_pairOf cX5_pairOf 2 (some .int) 1 := ⟨Or.inl (om_tbl 512 (by decide +kernel) rfl), (om_tbl 407 (by decide +kernel) rfl), (om_tbl 408 (by decide +kernel) rfl), (om_tbl 70 (by decide +kernel) rfl), (om_tbl 409 (by decide +kernel) rfl), by decide +kernel, by decide +kernel, by decide +kernel⟩
theorem cv_X3_79 : CV RX3 79 yX0_openFor cX0_openFor 4 (some .int) 1 := ⟨Or.inl (om_tbl 513 (by decide +kernel) rfl), (om_tbl 418 (by decide +kernel) rfl), (om_tbl 419 (by decide +kernel) rfl), (om_tbl 65 (by decide +kernel) rfl), (om_tbl 420 (by decide +kernel) rfl), by decide +kernel, by decide +kernel, by decide +kernel⟩
theorem cv_X3_82 : CV RX3 82 yX2_shortest cX2_shortest 8 (some .int) 2 := ⟨Or.inl (om_tbl 514 (by decide +kernel) rfl), (om_tbl 426 (by decide +kernel) rfl), (om_tbl 427 (by decide +kernel) rfl), (om_tbl 64 (by decide +kernel) rfl), (om_tbl 428 (by decide +kernel) rfl), by decide +kernel, by decide +kernel, by decide +kernel⟩
theorem cv_X3_88 : CV RX3 88 yX0_enterPart cX0_enterPart 4 none 3 := ⟨Or.inl (om_tbl 491 (by decide +kernel) rfl), (om_tbl 492 (by decide +kernel) rfl), (om_tbl 493 (by decide +kernel) rfl), (om_tbl 65 (by decide +kernel) rfl), (om_tbl 494 (by decide +kernel) rfl), by decide +kernel, by decide +kernel, by decide +kernel⟩
theorem cv_X3_92 : CV RX3 92 yX0_carry cX0_carry 4 none 2 := ⟨Or.inl (om_tbl 507 (by decide +kernel) rfl), (om_tbl 458 (by decide +kernel) rfl), (om_tbl 459 (by decide +kernel) rfl), (om_tbl 65 (by decide +kernel) rfl), (om_tbl 460 (by decide +kernel) rfl), by decide +kernel, by decide +kernel, by decide +kernel⟩
theorem cv_X4_34 : CV RX4 34 yX6_run cX6_run 5 (some .int) 2 := ⟨Or.inl (om_tbl 745 (by decide +kernel) rfl), (om_tbl 387 (by decide +kernel) rfl), (om_tbl 388 (by decide +kernel) rfl), (om_tbl 66 (by decide +kernel) rfl), (om_tbl 389 (by decide +kernel) rfl), by decide +kernel, by decide +kernel, by decide +kernel⟩
theorem cv_X4_38 : CV RX4 38 yX6_handOver cX6_handOver 3 none 1 := ⟨Or.inl (om_tbl 746 (by decide +kernel) rfl), (om_tbl 747 (by decide +kernel) rfl), (om_tbl 748 (by decide +kernel) rfl), (om_tbl 66 (by decide +kernel) rfl), (om_tbl 749 (by decide +kernel) rfl), by decide +kernel, by decide +kernel, by decide +kernel⟩
theorem cv_X4_42 : CV RX4 42 yX4_mapSplit cX4_mapSplit 4 (some .boolean) 1 := ⟨Or.inl (om_tbl 754 (by decide +kernel) rfl), (om_tbl 756 (by decide +kernel) rfl), (om_tbl 13 (by decide +kernel) rfl), (om_tbl 68 (by decide +kernel) rfl), (om_tbl 757 (by decide +kernel) rfl), by decide +kernel, by decide +kernel, by decide +kernel⟩
theorem cv_X4_46 : CV RX4 46 yX0_enter cX0_enter 4 none 2 := ⟨Or.inl (om_tbl 783 (by decide +kernel) rfl), (om_tbl 784 (by decide +kernel) rfl), (om_tbl 785 (by decide +kernel) rfl), (om_tbl 65 (by decide +kernel) rfl), (om_tbl 786 (by decide +kernel) rfl), by decide +kernel, by decide +kernel, by decide +kernel⟩
theorem cv_X4_52 : CV RX4 52 yX4_secure cX4_secure 4 (some .boolean) 1 := ⟨Or.inl (om_tbl 800 (by decide +kernel) rfl), (om_tbl 802 (by decide +kernel) rfl), (om_tbl 17 (by decide +kernel) rfl), (om_tbl 68 (by decide +kernel) rfl), (om_tbl 803 (by decide +kernel) rfl), by decide +kernel, by decide +kernel, by decide +kernel⟩
theorem cv_X4_55 : CV RX4 55 yX1_prepare cX1_prepare 6 (some .int) 1 := ⟨Or.inl (om_tbl 758 (by decide +kernel) rfl), (om_tbl 391 (by decide +kernel) rfl), (om_tbl 392 (by decide +kernel) rfl), (om_tbl 67 (by decide +kernel) rfl), (om_tbl 393 (by decide +kernel) rfl), by decide +kernel, by decide +kernel, by decide +kernel⟩
theorem cv_X4_59 : CV RX4 59 yX1_take cX1_take 7 (some .boolean) 2 := ⟨Or.inl (om_tbl 759 (by decide +kernel) rfl), (om_tbl 399 (by decide +kernel) rfl), (om_tbl 400 (by decide +kernel) rfl), (om_tbl 67 (by decide +kernel) rfl), (om_tbl 401 (by decide +kernel) rfl), by decide +kernel, by decide +kernel, by decide +kernel⟩
theorem cv_X4_63 : CV RX4 63 yX4_splitLines cX4_splitLines 4 (some .boolean) 1 := ⟨Or.inl (om_tbl 760 (by decide +kernel) rfl), (om_tbl 762 (by decide +kernel) rfl), (om_tbl 14 (by decide +kernel) rfl), (om_tbl 68 (by decide +kernel) rfl), (om_tbl 763 (by decide +kernel) rfl), by decide +kernel, by decide +kernel, by decide +kernel⟩
theorem cv_X4_72 : CV RX4 72 yX4_splitLine cX4_splitLine 7 (some .boolean) 2 := ⟨Or.inl (om_tbl 764 (by decide +kernel) rfl), (om_tbl 766 (by decide +kernel) rfl), (om_tbl 15 (by decide +kernel) rfl), (om_tbl 68 (by decide +kernel) rfl), (om_tbl 767 (by decide +kernel) rfl), by decide +kernel, by decide +kernel, by decide +kernel⟩
theorem cv_X4_75 : CV RX4 75 yX0_enterWays cX0_enterWays 4 none 3 := ⟨Or.inl (om_tbl 777 (by decide +kernel) rfl), (om_tbl 778 (by decide +kernel) rfl), (om_tbl 779 (by decide +kernel) rfl), (om_tbl 65 (by decide +kernel) rfl), (om_tbl 780 (by decide +kernel) rfl), by decide +kernel, by decide +kernel, by decide +kernel⟩
theorem cv_X4_79 : CV RX4 79 yX5_pairOf cX5_pairOf 2 (some .int) 1 := ⟨Or.inl (om_tbl 768 (by decide +kernel) rfl), (om_tbl 407 (by decide +kernel) rfl), (om_tbl 408 (by decide +kernel) rfl), (om_tbl 70 (by decide +kernel) rfl), (om_tbl 409 (by decide +kernel) rfl), by decide +kernel, by decide +kernel, by decide +kernel⟩
theorem cv_X4_87 : CV RX4 87 yX0_openFor cX0_openFor 4 (some .int) 1 := ⟨Or.inl (om_tbl 769 (by decide +kernel) rfl), (om_tbl 418 (by decide +kernel) rfl), (om_tbl 419 (by decide +kernel) rfl), (om_tbl 65 (by decide +kernel) rfl), (om_tbl 420 (by decide +kernel) rfl), by decide +kernel, by decide +kernel, by decide +kernel⟩
theorem cv_X4_90 : CV RX4 90 yX2_shortest cX2_shortest 8 (some .int) 2 := ⟨Or.inl (om_tbl 770 (by decide +kernel) rfl), (om_tbl 426 (by decide +kernel) rfl), (om_tbl 427 (by decide +kernel) rfl), (om_tbl 64 (by decide +kernel) rfl), (om_tbl 428 (by decide +kernel) rfl), by decide +kernel, by decide +kernel, by decide +kernel⟩
theorem cv_X4_96 : CV RX4 96 yX5_setWay cX5_setWay 3 none 2 := ⟨Or.inl (om_tbl 771 (by decide +kernel) rfl), (om_tbl 751 (by decide +kernel) rfl), (om_tbl 752 (by decide +kernel) rfl), (om_tbl 70 (by decide +kernel) rfl), (om_tbl 753 (by decide +kernel) rfl), by decide +kernel, by decide +kernel, by decide +kernel⟩
theorem cv_X4_103 : CV RX4 103 yX5_restOf cX5_restOf 2 (some .int) 1 := ⟨Or.inl (om_tbl 772 (by decide +kernel) rfl), (om_tbl 773 (by decide +kernel) rfl), (om_tbl 774 (by decide +kernel) rfl), (om_tbl 70 (by decide +kernel) rfl), (om_tbl 775 (by decide +kernel) rfl), by decide +kernel, by decide +kernel, by decide +kernel⟩
theorem cv_X4_106 : CV RX4 106 yX0_carry cX0_carry 4 none 2 := ⟨Or.inl (om_tbl 776 (by decide +kernel) rfl), (om_tbl 458 (by decide +kernel) rfl), (om_tbl 459 (by decide +kernel) rfl), (om_tbl 65 (by decide +kernel) rfl), (om_tbl 460 (by decide +kernel) rfl), by decide +kernel, by decide +kernel, by decide +kernel⟩
theorem cv_X4_115 : CV RX4 115 yX0_openBehind cX0_openBehind 8 (some .int) 2 := ⟨Or.inl (om_tbl 804 (by decide +kernel) rfl), (om_tbl 805 (by decide +kernel) rfl), (om_tbl 806 (by decide +kernel) rfl), (om_tbl 65 (by decide +kernel) rfl), (om_tbl 807 (by decide +kernel) rfl), by decide +kernel, by decide +kernel, by decide +kernel⟩
theorem cv_X4_121 : CV RX4 121 yX0_enterSecondWay cX0_enterSecondWay 5 none 3 := ⟨Or.inl (om_tbl 808 (by decide +kernel) rfl), (om_tbl 790 (by decide +kernel) rfl), (om_tbl 791 (by decide +kernel) rfl), (om_tbl 65 (by decide +kernel) rfl), (om_tbl 792 (by decide +kernel) rfl), by decide +kernel, by decide +kernel, by decide +kernel⟩
theorem cv_X5_49 : CV RX5 49 yX5_isLineOf cX5_isLineOf 3 (some .boolean) 2 := ⟨Or.inl (om_tbl 726 (by decide +kernel) rfl), (om_tbl 500 (by decide +kernel) rfl), (om_tbl 501 (by decide +kernel) rfl), (om_tbl 70 (by decide +kernel) rfl), (om_tbl 502 (by decide +kernel) rfl), by decide +kernel, by decide +kernel, by decide +kernel⟩
theorem cv_X5_53 : CV RX5 53 yX5_nodeOf cX5_nodeOf 2 (some .int) 1 := ⟨Or.inl (om_tbl 410 (by decide +kernel) rfl), (om_tbl 411 (by decide +kernel) rfl), (om_tbl 412 (by decide +kernel) rfl), (om_tbl 70 (by decide +kernel) rfl), (om_tbl 413 (by decide +kernel) rfl), by decide +kernel, by decide +kernel, by decide +kernel⟩
theorem cv_X5_57 : CS_ RX5 57 yX2_pairOf cX2_pairOf 2 (some .int) 2 := ⟨Or.inl (om_tbl 414 (by decide +kernel) rfl), (om_tbl 415 (by decide +kernel) rfl), (om_tbl 64 (by decide +kernel) rfl), (om_tbl 416 (by decide +kernel) rfl), by decide +kernel, by decide +kernel, by decide +kernel⟩
theorem cv_X5_70 : CV RX5 70 yX5_isHit cX5_isHit 3 (some .boolean) 2 := ⟨Or.inl (om_tbl 688 (by decide +kernel) rfl), (om_tbl 690 (by decide +kernel) rfl), (om_tbl 11 (by decide +kernel) rfl), (om_tbl 70 (by decide +kernel) rfl), (om_tbl 691 (by decide +kernel) rfl), by decide +kernel, by decide +kernel, by decide +kernel⟩
theorem cv_X5_73 : CV RX5 73 yX5_runsOnSecondWay cX5_runsOnSecondWay 3 (some .boolean) 2 := ⟨Or.inl (om_tbl 692 (by decide +kernel) rfl), (om_tbl 694 (by decide +kernel) rfl), (om_tbl 12 (by decide +kernel) rfl), (om_tbl 70 (by decide +kernel) rfl), (om_tbl 695 (by decide +kernel) rfl), by decide +kernel, by decide +kernel, by decide +kernel⟩
theorem cv_X5_76 : CV RX5 76 yX5_restOf cX5_restOf 2 (some .int) 1 := ⟨Or.inl (om_tbl 879 (by decide +kernel) rfl), (om_tbl 773 (by decide +kernel) rfl), (om_tbl 774 (by decide +kernel) rfl), (om_tbl 70 (by decide +kernel) rfl), (om_tbl 775 (by decide +kernel) rfl), by decide +kernel, by decide +kernel, by decide +kernel⟩
theorem cv_X5_79 : CS_ RX5 79 yJ6_bitCount_0f7a4 cJ6_bitCount_0f7a4 1 (some .int) 1 := ⟨Or.inl (om_tbl 841 (by decide +kernel) rfl), (om_tbl 438 (by decide +kernel) rfl), (om_tbl 78 (by decide +kernel) rfl), (om_tbl 439 (by decide +kernel) rfl), by decide +kernel, by decide +kernel, by decide +kernel⟩
theorem cv_X6_48 : CV RX6 48 yX1_prepare cX1_prepare 6 (some .int) 1 := ⟨Or.inl (om_tbl 390 (by decide +kernel) rfl), (om_tbl 391 (by decide +kernel) rfl), (om_tbl 392 (by decide +kernel) rfl), (om_tbl 67 (by decide +kernel) rfl), (om_tbl 393 (by decide +kernel) rfl), by decide +kernel, by decide +kernel, by decide +kernel⟩
theorem cv_X6_52 : CV RX6 52 yX1_take cX1_take 7 (some .boolean) 2 := ⟨Or.inl (om_tbl 398 (by decide +kernel) rfl), (om_tbl 399 (by decide +kernel) rfl), (om_tbl 400 (by decide +kernel) rfl), (om_tbl 67 (by decide +kernel) rfl), (om_tbl 401 (by decide +kernel) rfl), by decide +kernel, by decide +kernel, by decide +kernel⟩
theorem cv_X6_56 : CV RX6 56 yX6_findFloors cX6_findFloors 5 (some .boolean) 1 := ⟨Or.inl (om_tbl 402 (by decide +kernel) rfl), (om_tbl 404 (by decide +kernel) rfl), (om_tbl 1 (by decide +kernel) rfl), (om_tbl 66 (by decide +kernel) rfl), (om_tbl 405 (by decide +kernel) rfl), by decide +kernel, by decide +kernel, by decide +kernel⟩
theorem cv_X6_60 : CV RX6 60 yX6_isCut cX6_isCut 3 (some .boolean) 1 := ⟨Or.inl (om_tbl 444 (by decide +kernel) rfl), (om_tbl 446 (by decide +kernel) rfl), (om_tbl 2 (by decide +kernel) rfl), (om_tbl 66 (by decide +kernel) rfl), (om_tbl 447 (by decide +kernel) rfl), by decide +kernel, by decide +kernel, by decide +kernel⟩
theorem cv_X6_64 : CS_ RX6 64 yX6_chooseWays cX6_chooseWays 11 none 4 := ⟨Or.inl (om_tbl 448 (by decide +kernel) rfl), (om_tbl 449 (by decide +kernel) rfl), (om_tbl 66 (by decide +kernel) rfl), (om_tbl 450 (by decide +kernel) rfl), by decide +kernel, by decide +kernel, by decide +kernel⟩
theorem cv_X6_79 : CV RX6 79 yX5_setWay cX5_setWay 3 none 2 := ⟨Or.inl (om_tbl 750 (by decide +kernel) rfl), (om_tbl 751 (by decide +kernel) rfl), (om_tbl 752 (by decide +kernel) rfl), (om_tbl 70 (by decide +kernel) rfl), (om_tbl 753 (by decide +kernel) rfl), by decide +kernel, by decide +kernel, by decide +kernel⟩
theorem cv_X6_86 : CV RX6 86 yX5_pairOf cX5_pairOf 2 (some .int) 1 := ⟨Or.inl (om_tbl 406 (by decide +kernel) rfl), (om_tbl 407 (by decide +kernel) rfl), (om_tbl 408 (by decide +kernel) rfl), (om_tbl 70 (by decide +kernel) rfl), (om_tbl 409 (by decide +kernel) rfl), by decide +kernel, by decide +kernel, by decide +kernel⟩
theorem cv_X6_90 : CV RX6 90 yX0_openFor cX0_openFor 4 (some .int) 1 := ⟨Or.inl (om_tbl 417 (by decide +kernel) rfl), (om_tbl 418 (by decide +kernel) rfl), (om_tbl 419 (by decide +kernel) rfl), (om_tbl 65 (by decide +kernel) rfl), (om_tbl 420 (by decide +kernel) rfl), by decide +kernel, by decide +kernel, by decide +kernel⟩
theorem cv_X6_95 : CV RX6 95 yX2_shortest cX2_shortest 8 (some .int) 2 := ⟨Or.inl (om_tbl 425 (by decide +kernel) rfl), (om_tbl 426 (by decide +kernel) rfl), (om_tbl 427 (by decide +kernel) rfl), (om_tbl 64 (by decide +kernel) rfl), (om_tbl 428 (by decide +kernel) rfl), by decide +kernel, by decide +kernel, by decide +kernel⟩
theorem cv_X6_101 : CS_ RX6 101 yJ6_bitCount_0f7a4 cJ6_bitCount_0f7a4 1 (some .int) 1 := ⟨Or.inl (om_tbl 443 (by decide +kernel) rfl), (om_tbl 438 (by decide +kernel) rfl), (om_tbl 78 (by decide +kernel) rfl), (om_tbl 439 (by decide +kernel) rfl), by decide +kernel, by decide +kernel, by decide +kernel⟩
theorem cv_X6_106 : CV RX6 106 yX6_keepLeast cX6_keepLeast 4 none 2 := ⟨Or.inl (om_tbl 451 (by decide +kernel) rfl), (om_tbl 453 (by decide +kernel) rfl), (om_tbl 3 (by decide +kernel) rfl), (om_tbl 66 (by decide +kernel) rfl), (om_tbl 454 (by decide +kernel) rfl), by decide +kernel, by decide +kernel, by decide +kernel⟩
theorem cv_X6_110 : CV RX6 110 yX2_countOfWays cX2_countOfWays 2 (some .int) 1 := ⟨Or.inl (om_tbl 455 (by decide +kernel) rfl), (om_tbl 430 (by decide +kernel) rfl), (om_tbl 431 (by decide +kernel) rfl), (om_tbl 64 (by decide +kernel) rfl), (om_tbl 432 (by decide +kernel) rfl), by decide +kernel, by decide +kernel, by decide +kernel⟩
theorem cv_X6_113 : CV RX6 113 yX2_wayOf cX2_wayOf 4 (some .int) 2 := ⟨Or.inl (om_tbl 456 (by decide +kernel) rfl), (om_tbl 434 (by decide +kernel) rfl), (om_tbl 435 (by decide +kernel) rfl), (om_tbl 64 (by decide +kernel) rfl), (om_tbl 436 (by decide +kernel) rfl), by decide +kernel, by decide +kernel, by decide +kernel⟩
theorem cv_X6_116 : CV RX6 116 yX0_carry cX0_carry 4 none 2 := ⟨Or.inl (om_tbl 457 (by decide +kernel) rfl), (om_tbl 458 (by decide +kernel) rfl), (om_tbl 459 (by decide +kernel) rfl), (om_tbl 65 (by decide +kernel) rfl), (om_tbl 460 (by decide +kernel) rfl), by decide +kernel, by decide +kernel, by decide +kernel⟩
theorem cv_X7_125 : CV RX7 125 yX7_draft cX7_draft 1 (some (.object "MeshLodger$Request")) 0 := ⟨Or.inl (om_tbl 370 (by decide +kernel) rfl), (om_tbl 372 (by decide +kernel) rfl), (om_tbl 0 (by decide +kernel) rfl), (om_tbl 63 (by decide +kernel) rfl), (om_tbl 373 (by decide +kernel) rfl), by decide +kernel, by decide +kernel, by decide +kernel⟩
theorem cv_X7_156 : CV RX7 156 yX5_empty cX5_empty 2 (some .int) 0 := ⟨Or.inl (om_tbl 374 (by decide +kernel) rfl), (om_tbl 375 (by decide +kernel) rfl), (om_tbl 376 (by decide +kernel) rfl), (om_tbl 70 (by decide +kernel) rfl), (om_tbl 377 (by decide +kernel) rfl), by decide +kernel, by decide +kernel, by decide +kernel⟩
theorem cv_X7_190 : CV RX7 190 yX5_nodeOf cX5_nodeOf 2 (some .int) 1 := ⟨Or.inl (om_tbl 477 (by decide +kernel) rfl), (om_tbl 411 (by decide +kernel) rfl), (om_tbl 412 (by decide +kernel) rfl), (om_tbl 70 (by decide +kernel) rfl), (om_tbl 413 (by decide +kernel) rfl), by decide +kernel, by decide +kernel, by decide +kernel⟩
theorem cv_X7_195 : CV RX7 195 yX5_isMovable cX5_isMovable 3 (some .boolean) 0 := ⟨Or.inl (om_tbl 473 (by decide +kernel) rfl), (om_tbl 474 (by decide +kernel) rfl), (om_tbl 475 (by decide +kernel) rfl), (om_tbl 70 (by decide +kernel) rfl), (om_tbl 476 (by decide +kernel) rfl), by decide +kernel, by decide +kernel, by decide +kernel⟩
theorem cv_X7_201 : CV RX7 201 yX3_shift cX3_shift 6 (some .boolean) 3 := ⟨Or.inl (om_tbl 478 (by decide +kernel) rfl), (om_tbl 479 (by decide +kernel) rfl), (om_tbl 480 (by decide +kernel) rfl), (om_tbl 69 (by decide +kernel) rfl), (om_tbl 481 (by decide +kernel) rfl), by decide +kernel, by decide +kernel, by decide +kernel⟩
theorem cv_X7_257 : CV RX7 257 yX6_run cX6_run 5 (some .int) 2 := ⟨Or.inl (om_tbl 386 (by decide +kernel) rfl), (om_tbl 387 (by decide +kernel) rfl), (om_tbl 388 (by decide +kernel) rfl), (om_tbl 66 (by decide +kernel) rfl), (om_tbl 389 (by decide +kernel) rfl), by decide +kernel, by decide +kernel, by decide +kernel⟩
theorem cv_X7_261 : CV RX7 261 yX7_freeingNode cX7_freeingNode 7 (some .int) 3 := ⟨Or.inl (om_tbl 469 (by decide +kernel) rfl), (om_tbl 471 (by decide +kernel) rfl), (om_tbl 4 (by decide +kernel) rfl), (om_tbl 63 (by decide +kernel) rfl), (om_tbl 472 (by decide +kernel) rfl), by decide +kernel, by decide +kernel, by decide +kernel⟩
theorem cv_X7_268 : CV RX7 268 yX3_takeBack cX3_takeBack 4 none 2 := ⟨Or.inl (om_tbl 519 (by decide +kernel) rfl), (om_tbl 516 (by decide +kernel) rfl), (om_tbl 517 (by decide +kernel) rfl), (om_tbl 69 (by decide +kernel) rfl), (om_tbl 518 (by decide +kernel) rfl), by decide +kernel, by decide +kernel, by decide +kernel⟩
theorem cv_X7_272 : CV RX7 272 yX0_enter cX0_enter 4 none 2 := ⟨Or.inl (om_tbl 826 (by decide +kernel) rfl), (om_tbl 784 (by decide +kernel) rfl), (om_tbl 785 (by decide +kernel) rfl), (om_tbl 65 (by decide +kernel) rfl), (om_tbl 786 (by decide +kernel) rfl), by decide +kernel, by decide +kernel, by decide +kernel⟩
theorem cv_X8_111 : CS_ RX8 111 yX8_isIn cX8_isIn 3 (some .boolean) 3 := ⟨Or.inl (om_tbl 1040 (by decide +kernel) rfl), (om_tbl 1041 (by decide +kernel) rfl), (om_tbl 71 (by decide +kernel) rfl), (om_tbl 1042 (by decide +kernel) rfl), by decide +kernel, by decide +kernel, by decide +kernel⟩
theorem cv_X8_121 : CV RX8 121 yX8_can cX8_can 2 (some .boolean) 1 := ⟨Or.inl (om_tbl 1043 (by decide +kernel) rfl), (om_tbl 1045 (by decide +kernel) rfl), (om_tbl 20 (by decide +kernel) rfl), (om_tbl 71 (by decide +kernel) rfl), (om_tbl 1046 (by decide +kernel) rfl), by decide +kernel, by decide +kernel, by decide +kernel⟩
theorem cv_X8_125 : CV RX8 125 yX8_isNode cX8_isNode 2 (some .boolean) 1 := ⟨Or.inl (om_tbl 1051 (by decide +kernel) rfl), (om_tbl 1053 (by decide +kernel) rfl), (om_tbl 21 (by decide +kernel) rfl), (om_tbl 71 (by decide +kernel) rfl), (om_tbl 1054 (by decide +kernel) rfl), by decide +kernel, by decide +kernel, by decide +kernel⟩
theorem cv_X8_128 : CV RX8 128 yX8_areLinked cX8_areLinked 5 (some .boolean) 2 := ⟨Or.inl (om_tbl 1055 (by decide +kernel) rfl), (om_tbl 1057 (by decide +kernel) rfl), (om_tbl 22 (by decide +kernel) rfl), (om_tbl 71 (by decide +kernel) rfl), (om_tbl 1058 (by decide +kernel) rfl), by decide +kernel, by decide +kernel, by decide +kernel⟩
theorem cv_X8_132 : CV RX8 132 yX8_end cX8_end 3 (some .int) 2 := ⟨Or.inl (om_tbl 1122 (by decide +kernel) rfl), (om_tbl 1124 (by decide +kernel) rfl), (om_tbl 34 (by decide +kernel) rfl), (om_tbl 71 (by decide +kernel) rfl), (om_tbl 1125 (by decide +kernel) rfl), by decide +kernel, by decide +kernel, by decide +kernel⟩
theorem cv_X8_136 : CS_ RX8 136 yX8_has cX8_has 2 (some .boolean) 2 := ⟨Or.inl (om_tbl 1091 (by decide +kernel) rfl), (om_tbl 1092 (by decide +kernel) rfl), (om_tbl 71 (by decide +kernel) rfl), (om_tbl 1093 (by decide +kernel) rfl), by decide +kernel, by decide +kernel, by decide +kernel⟩
theorem cv_X8_139 : CV RX8 139 yX8_shared cX8_shared 7 (some .int) 3 := ⟨Or.inl (om_tbl 1098 (by decide +kernel) rfl), (om_tbl 1100 (by decide +kernel) rfl), (om_tbl 28 (by decide +kernel) rfl), (om_tbl 71 (by decide +kernel) rfl), (om_tbl 1101 (by decide +kernel) rfl), by decide +kernel, by decide +kernel, by decide +kernel⟩
theorem cv_X8_143 : CV RX8 143 yX8_needsAt cX8_needsAt 5 (some .int) 1 := ⟨Or.inl (om_tbl 1083 (by decide +kernel) rfl), (om_tbl 1085 (by decide +kernel) rfl), (om_tbl 25 (by decide +kernel) rfl), (om_tbl 71 (by decide +kernel) rfl), (om_tbl 1086 (by decide +kernel) rfl), by decide +kernel, by decide +kernel, by decide +kernel⟩
theorem cv_X8_147 : CV RX8 147 yX8_needs cX8_needs 4 (some .int) 1 := ⟨Or.inl (om_tbl 1087 (by decide +kernel) rfl), (om_tbl 1089 (by decide +kernel) rfl), (om_tbl 26 (by decide +kernel) rfl), (om_tbl 71 (by decide +kernel) rfl), (om_tbl 1090 (by decide +kernel) rfl), by decide +kernel, by decide +kernel, by decide +kernel⟩
theorem cv_X8_150 : CV RX8 150 yX8_reserved cX8_reserved 6 (some .int) 2 := ⟨Or.inl (om_tbl 1094 (by decide +kernel) rfl), (om_tbl 1096 (by decide +kernel) rfl), (om_tbl 27 (by decide +kernel) rfl), (om_tbl 71 (by decide +kernel) rfl), (om_tbl 1097 (by decide +kernel) rfl), by decide +kernel, by decide +kernel, by decide +kernel⟩
theorem cv_X8_153 : CV RX8 153 yX8_areLined cX8_areLined 5 (some .boolean) 2 := ⟨Or.inl (om_tbl 1067 (by decide +kernel) rfl), (om_tbl 1069 (by decide +kernel) rfl), (om_tbl 23 (by decide +kernel) rfl), (om_tbl 71 (by decide +kernel) rfl), (om_tbl 1070 (by decide +kernel) rfl), by decide +kernel, by decide +kernel, by decide +kernel⟩
theorem cv_X8_156 : CV RX8 156 yX8_isChoice cX8_isChoice 5 (some .boolean) 0 := ⟨Or.inl (om_tbl 1110 (by decide +kernel) rfl), (om_tbl 1112 (by decide +kernel) rfl), (om_tbl 31 (by decide +kernel) rfl), (om_tbl 71 (by decide +kernel) rfl), (om_tbl 1113 (by decide +kernel) rfl), by decide +kernel, by decide +kernel, by decide +kernel⟩
theorem cv_X8_160 : CV RX8 160 yX8_finds cX8_finds 8 none 3 := ⟨Or.inl (om_tbl 1118 (by decide +kernel) rfl), (om_tbl 1120 (by decide +kernel) rfl), (om_tbl 33 (by decide +kernel) rfl), (om_tbl 71 (by decide +kernel) rfl), (om_tbl 1121 (by decide +kernel) rfl), by decide +kernel, by decide +kernel, by decide +kernel⟩
theorem cv_X8_164 : CV RX8 164 yX8_needOf cX8_needOf 2 (some .int) 1 := ⟨Or.inl (om_tbl 1134 (by decide +kernel) rfl), (om_tbl 1136 (by decide +kernel) rfl), (om_tbl 37 (by decide +kernel) rfl), (om_tbl 71 (by decide +kernel) rfl), (om_tbl 1137 (by decide +kernel) rfl), by decide +kernel, by decide +kernel, by decide +kernel⟩
theorem cv_X8_167 : CS_ RX8 167 yX8_bits cX8_bits 3 (some .int) 1 := ⟨Or.inl (om_tbl 1138 (by decide +kernel) rfl), (om_tbl 1139 (by decide +kernel) rfl), (om_tbl 71 (by decide +kernel) rfl), (om_tbl 1140 (by decide +kernel) rfl), by decide +kernel, by decide +kernel, by decide +kernel⟩
theorem cv_X8_170 : CV RX8 170 yX8_cost cX8_cost 3 (some .int) 2 := ⟨Or.inl (om_tbl 1130 (by decide +kernel) rfl), (om_tbl 1132 (by decide +kernel) rfl), (om_tbl 36 (by decide +kernel) rfl), (om_tbl 71 (by decide +kernel) rfl), (om_tbl 1133 (by decide +kernel) rfl), by decide +kernel, by decide +kernel, by decide +kernel⟩
theorem cv_X8_173 : CV RX8 173 yX8_fits cX8_fits 5 (some .boolean) 2 := ⟨Or.inl (om_tbl 1141 (by decide +kernel) rfl), (om_tbl 1143 (by decide +kernel) rfl), (om_tbl 38 (by decide +kernel) rfl), (om_tbl 71 (by decide +kernel) rfl), (om_tbl 1144 (by decide +kernel) rfl), by decide +kernel, by decide +kernel, by decide +kernel⟩
theorem cv_X8_176 : CV RX8 176 yX8_takes cX8_takes 4 none 2 := ⟨Or.inl (om_tbl 1145 (by decide +kernel) rfl), (om_tbl 1147 (by decide +kernel) rfl), (om_tbl 39 (by decide +kernel) rfl), (om_tbl 71 (by decide +kernel) rfl), (om_tbl 1148 (by decide +kernel) rfl), by decide +kernel, by decide +kernel, by decide +kernel⟩
theorem cv_X8_180 : CV RX8 180 yX8_keeps cX8_keeps 5 none 3 := ⟨Or.inl (om_tbl 1149 (by decide +kernel) rfl), (om_tbl 1151 (by decide +kernel) rfl), (om_tbl 40 (by decide +kernel) rfl), (om_tbl 71 (by decide +kernel) rfl), (om_tbl 1152 (by decide +kernel) rfl), by decide +kernel, by decide +kernel, by decide +kernel⟩
theorem cv_X8_183 : CV RX8 183 yX8_chooses cX8_chooses 4 (some .boolean) 1 := ⟨Or.inl (om_tbl 1106 (by decide +kernel) rfl), (om_tbl 1108 (by decide +kernel) rfl), (om_tbl 30 (by decide +kernel) rfl), (om_tbl 71 (by decide +kernel) rfl), (om_tbl 1109 (by decide +kernel) rfl), by decide +kernel, by decide +kernel, by decide +kernel⟩
theorem cv_X8_186 : CV RX8 186 yX8_findsAll cX8_findsAll 3 none 0 := ⟨Or.inl (om_tbl 1114 (by decide +kernel) rfl), (om_tbl 1116 (by decide +kernel) rfl), (om_tbl 32 (by decide +kernel) rfl), (om_tbl 71 (by decide +kernel) rfl), (om_tbl 1117 (by decide +kernel) rfl), by decide +kernel, by decide +kernel, by decide +kernel⟩
theorem cv_X8_189 : CV RX8 189 yX8_leastBy cX8_leastBy 9 (some .int) 1 := ⟨Or.inl (om_tbl 1126 (by decide +kernel) rfl), (om_tbl 1128 (by decide +kernel) rfl), (om_tbl 35 (by decide +kernel) rfl), (om_tbl 71 (by decide +kernel) rfl), (om_tbl 1129 (by decide +kernel) rfl), by decide +kernel, by decide +kernel, by decide +kernel⟩
theorem cv_X8_192 : CV RX8 192 yX8_roomOf cX8_roomOf 4 (some .int) 1 := ⟨Or.inl (om_tbl 1181 (by decide +kernel) rfl), (om_tbl 1183 (by decide +kernel) rfl), (om_tbl 48 (by decide +kernel) rfl), (om_tbl 71 (by decide +kernel) rfl), (om_tbl 1184 (by decide +kernel) rfl), by decide +kernel, by decide +kernel, by decide +kernel⟩
theorem cv_X8_195 : CV RX8 195 yX8_fewest cX8_fewest 6 (some .int) 2 := ⟨Or.inl (om_tbl 1173 (by decide +kernel) rfl), (om_tbl 1175 (by decide +kernel) rfl), (om_tbl 46 (by decide +kernel) rfl), (om_tbl 71 (by decide +kernel) rfl), (om_tbl 1176 (by decide +kernel) rfl), by decide +kernel, by decide +kernel, by decide +kernel⟩
theorem cv_X8_198 : CV RX8 198 yX8_widest cX8_widest 7 (some .int) 1 := ⟨Or.inl (om_tbl 1177 (by decide +kernel) rfl), (om_tbl 1179 (by decide +kernel) rfl), (om_tbl 47 (by decide +kernel) rfl), (om_tbl 71 (by decide +kernel) rfl), (om_tbl 1180 (by decide +kernel) rfl), by decide +kernel, by decide +kernel, by decide +kernel⟩
theorem cv_X8_201 : CV RX8 201 yX8_splits cX8_splits 4 (some .boolean) 0 := ⟨Or.inl (om_tbl 1169 (by decide +kernel) rfl), (om_tbl 1171 (by decide +kernel) rfl), (om_tbl 45 (by decide +kernel) rfl), (om_tbl 71 (by decide +kernel) rfl), (om_tbl 1172 (by decide +kernel) rfl), by decide +kernel, by decide +kernel, by decide +kernel⟩
theorem cv_X8_204 : CV RX8 204 yX8_sumsRooms cX8_sumsRooms 2 none 0 := ⟨Or.inl (om_tbl 1079 (by decide +kernel) rfl), (om_tbl 1081 (by decide +kernel) rfl), (om_tbl 24 (by decide +kernel) rfl), (om_tbl 71 (by decide +kernel) rfl), (om_tbl 1082 (by decide +kernel) rfl), by decide +kernel, by decide +kernel, by decide +kernel⟩
theorem cv_X8_207 : CV RX8 207 yX8_isWithin cX8_isWithin 6 (some .boolean) 1 := ⟨Or.inl (om_tbl 1161 (by decide +kernel) rfl), (om_tbl 1163 (by decide +kernel) rfl), (om_tbl 43 (by decide +kernel) rfl), (om_tbl 71 (by decide +kernel) rfl), (om_tbl 1164 (by decide +kernel) rfl), by decide +kernel, by decide +kernel, by decide +kernel⟩
theorem cv_X8_210 : CV RX8 210 yX8_leastOf cX8_leastOf 4 (some .int) 1 := ⟨Or.inl (om_tbl 1102 (by decide +kernel) rfl), (om_tbl 1104 (by decide +kernel) rfl), (om_tbl 29 (by decide +kernel) rfl), (om_tbl 71 (by decide +kernel) rfl), (om_tbl 1105 (by decide +kernel) rfl), by decide +kernel, by decide +kernel, by decide +kernel⟩
theorem cv_X8_214 : CV RX8 214 yX8_placesLeast cX8_placesLeast 3 none 0 := ⟨Or.inl (om_tbl 1153 (by decide +kernel) rfl), (om_tbl 1155 (by decide +kernel) rfl), (om_tbl 41 (by decide +kernel) rfl), (om_tbl 71 (by decide +kernel) rfl), (om_tbl 1156 (by decide +kernel) rfl), by decide +kernel, by decide +kernel, by decide +kernel⟩
theorem cv_X8_217 : CV RX8 217 yX8_secures cX8_secures 8 (some .boolean) 0 := ⟨Or.inl (om_tbl 1157 (by decide +kernel) rfl), (om_tbl 1159 (by decide +kernel) rfl), (om_tbl 42 (by decide +kernel) rfl), (om_tbl 71 (by decide +kernel) rfl), (om_tbl 1160 (by decide +kernel) rfl), by decide +kernel, by decide +kernel, by decide +kernel⟩
theorem cv_X8_220 : CV RX8 220 yX8_placesSplit cX8_placesSplit 3 (some .boolean) 0 := ⟨Or.inl (om_tbl 1165 (by decide +kernel) rfl), (om_tbl 1167 (by decide +kernel) rfl), (om_tbl 44 (by decide +kernel) rfl), (om_tbl 71 (by decide +kernel) rfl), (om_tbl 1168 (by decide +kernel) rfl), by decide +kernel, by decide +kernel, by decide +kernel⟩
theorem cv_X8_226 : CV RX8 226 yX8_isRequest cX8_isRequest 2 (some .boolean) 1 := ⟨Or.inl (om_tbl 1189 (by decide +kernel) rfl), (om_tbl 1191 (by decide +kernel) rfl), (om_tbl 49 (by decide +kernel) rfl), (om_tbl 71 (by decide +kernel) rfl), (om_tbl 1192 (by decide +kernel) rfl), by decide +kernel, by decide +kernel, by decide +kernel⟩
theorem cv_X8_229 : CV RX8 229 yX8_isOf cX8_isOf 3 (some .boolean) 2 := ⟨Or.inl (om_tbl 1213 (by decide +kernel) rfl), (om_tbl 1215 (by decide +kernel) rfl), (om_tbl 53 (by decide +kernel) rfl), (om_tbl 71 (by decide +kernel) rfl), (om_tbl 1216 (by decide +kernel) rfl), by decide +kernel, by decide +kernel, by decide +kernel⟩
theorem cv_X8_232 : CV RX8 232 yX8_back cX8_back 5 none 3 := ⟨Or.inl (om_tbl 1217 (by decide +kernel) rfl), (om_tbl 1219 (by decide +kernel) rfl), (om_tbl 54 (by decide +kernel) rfl), (om_tbl 71 (by decide +kernel) rfl), (om_tbl 1220 (by decide +kernel) rfl), by decide +kernel, by decide +kernel, by decide +kernel⟩
theorem cv_X8_235 : CV RX8 235 yX8_isSplit cX8_isSplit 4 (some .boolean) 1 := ⟨Or.inl (om_tbl 1205 (by decide +kernel) rfl), (om_tbl 1207 (by decide +kernel) rfl), (om_tbl 51 (by decide +kernel) rfl), (om_tbl 71 (by decide +kernel) rfl), (om_tbl 1208 (by decide +kernel) rfl), by decide +kernel, by decide +kernel, by decide +kernel⟩
theorem cv_X8_238 : CV RX8 238 yX8_canMove cX8_canMove 2 (some .boolean) 1 := ⟨Or.inl (om_tbl 1201 (by decide +kernel) rfl), (om_tbl 1203 (by decide +kernel) rfl), (om_tbl 50 (by decide +kernel) rfl), (om_tbl 71 (by decide +kernel) rfl), (om_tbl 1204 (by decide +kernel) rfl), by decide +kernel, by decide +kernel, by decide +kernel⟩
theorem cv_X8_241 : CV RX8 241 yX8_moves cX8_moves 9 (some .int) 3 := ⟨Or.inl (om_tbl 1209 (by decide +kernel) rfl), (om_tbl 1211 (by decide +kernel) rfl), (om_tbl 52 (by decide +kernel) rfl), (om_tbl 71 (by decide +kernel) rfl), (om_tbl 1212 (by decide +kernel) rfl), by decide +kernel, by decide +kernel, by decide +kernel⟩
theorem cv_X8_244 : CV RX8 244 yX8_letsIn cX8_letsIn 6 (some .boolean) 3 := ⟨Or.inl (om_tbl 1225 (by decide +kernel) rfl), (om_tbl 1227 (by decide +kernel) rfl), (om_tbl 55 (by decide +kernel) rfl), (om_tbl 71 (by decide +kernel) rfl), (om_tbl 1228 (by decide +kernel) rfl), by decide +kernel, by decide +kernel, by decide +kernel⟩
theorem cv_X8_247 : CV RX8 247 yX8_failed cX8_failed 4 (some .boolean) 1 := ⟨Or.inl (om_tbl 1245 (by decide +kernel) rfl), (om_tbl 1247 (by decide +kernel) rfl), (om_tbl 59 (by decide +kernel) rfl), (om_tbl 71 (by decide +kernel) rfl), (om_tbl 1248 (by decide +kernel) rfl), by decide +kernel, by decide +kernel, by decide +kernel⟩
theorem cv_X8_250 : CV RX8 250 yX8_runs cX8_runs 2 (some .int) 1 := ⟨Or.inl (om_tbl 1241 (by decide +kernel) rfl), (om_tbl 1243 (by decide +kernel) rfl), (om_tbl 58 (by decide +kernel) rfl), (om_tbl 71 (by decide +kernel) rfl), (om_tbl 1244 (by decide +kernel) rfl), by decide +kernel, by decide +kernel, by decide +kernel⟩
theorem cv_X8_253 : CV RX8 253 yX8_isLink cX8_isLink 2 (some .boolean) 1 := ⟨Or.inl (om_tbl 1233 (by decide +kernel) rfl), (om_tbl 1235 (by decide +kernel) rfl), (om_tbl 56 (by decide +kernel) rfl), (om_tbl 71 (by decide +kernel) rfl), (om_tbl 1236 (by decide +kernel) rfl), by decide +kernel, by decide +kernel, by decide +kernel⟩
theorem cv_X8_256 : CV RX8 256 yX8_running cX8_running 5 (some .int) 2 := ⟨Or.inl (om_tbl 1237 (by decide +kernel) rfl), (om_tbl 1239 (by decide +kernel) rfl), (om_tbl 57 (by decide +kernel) rfl), (om_tbl 71 (by decide +kernel) rfl), (om_tbl 1240 (by decide +kernel) rfl), by decide +kernel, by decide +kernel, by decide +kernel⟩
theorem cv_X8_259 : CV RX8 259 yX8_costOf cX8_costOf 4 (some .int) 1 := ⟨Or.inl (om_tbl 1269 (by decide +kernel) rfl), (om_tbl 1271 (by decide +kernel) rfl), (om_tbl 60 (by decide +kernel) rfl), (om_tbl 71 (by decide +kernel) rfl), (om_tbl 1272 (by decide +kernel) rfl), by decide +kernel, by decide +kernel, by decide +kernel⟩
theorem cv_X8_262 : CV RX8 262 yX8_leastNow cX8_leastNow 1 (some .int) 0 := ⟨Or.inl (om_tbl 1285 (by decide +kernel) rfl), (om_tbl 1287 (by decide +kernel) rfl), (om_tbl 61 (by decide +kernel) rfl), (om_tbl 71 (by decide +kernel) rfl), (om_tbl 1288 (by decide +kernel) rfl), by decide +kernel, by decide +kernel, by decide +kernel⟩
theorem mm_X0_49 : Cond.methodLink RX0 49 Lib.Math.max.name ∈ Om := (om_tbl 797 (by decide +kernel) rfl)
theorem mm_s : Cond.static Lib.Math.max.name ∈ Om := (om_tbl 798 (by decide +kernel) rfl)
theorem mm_i : Cond.initialized "java/lang/Math" ∈ Om := (om_tbl 79 (by decide +kernel) rfl)
theorem mm_c : Cond.code Lib.Math.max.name Lib.Math.max.code 2 (some .int) ∈ Om := (om_tbl 799 (by decide +kernel) rfl)
theorem ob_ML : lays[p_ML]? = some (.inr (.inr (7, [some 1, some 2, some 3, some 4, some 5, some 59, none, none]))) := rfl
theorem ob_GR : lays[p_GR]? = some (.inr (.inr (2, [some 7, some 8, some 9, some 10, some 57, some 11, none, none, none]))) := rfl
theorem ob_BK : lays[p_BK]? = some (.inr (.inr (0, [some 1, some 12, some 13, some 14, some 15, some 58]))) := rfl
theorem ob_SE : lays[p_SE]? = some (.inr (.inr (6, [some 1, some 2, some 52, some 16, some 17, some 18, some 19, none, none]))) := rfl
theorem ob_PL : lays[p_PL]? = some (.inr (.inr (4, [some 1, some 2, some 3, some 54]))) := rfl
theorem ob_MV : lays[p_MV]? = some (.inr (.inr (3, [some 1, some 2, some 20, none]))) := rfl
theorem ob_MO : lays[p_MO]? = some (.inr (.inr (8, [none, none, some 21, none, some 22, some 23, some 24, some 25, none, some 26, some 27, some 28, some 29, some 30, some 31, some 32, some 33, some 34, some 35, some 36, some 37, some 38, some 39, some 40, some 41, some 42, some 43, some 44, some 45, some 46, some 47, some 48, some 49, some 50, some 51, none]))) := rfl
theorem ar_GR_nodeRooms : lays[p_GR_nodeRooms]? = some (.inl (0, 6)) := rfl
theorem ar_GR_linkRooms : lays[p_GR_linkRooms]? = some (.inl (0, 9)) := rfl
theorem ar_GR_linkStarts : lays[p_GR_linkStarts]? = some (.inl (0, 9)) := rfl
theorem ar_GR_linkEnds : lays[p_GR_linkEnds]? = some (.inl (0, 9)) := rfl
theorem ar_GR_wayCounts : lays[p_GR_wayCounts]? = some (.inl (0, 36)) := rfl
theorem ar_BK_nodeNeeds : lays[p_BK_nodeNeeds]? = some (.inl (0, 6)) := rfl
theorem ar_BK_nodeParts : lays[p_BK_nodeParts]? = some (.inl (0, 6)) := rfl
theorem ar_BK_linkNeeds : lays[p_BK_linkNeeds]? = some (.inl (0, 9)) := rfl
theorem ar_BK_reserved : lays[p_BK_reserved]? = some (.inl (0, 9)) := rfl
theorem ar_SE_tried : lays[p_SE_tried]? = some (.inl (0, 3)) := rfl
theorem ar_SE_floors : lays[p_SE_floors]? = some (.inl (0, 4)) := rfl
theorem ar_SE_leastPlaces : lays[p_SE_leastPlaces]? = some (.inl (0, 3)) := rfl
theorem ar_SE_leastWays : lays[p_SE_leastWays]? = some (.inl (0, 3)) := rfl
theorem ar_MV_waysBefore : lays[p_MV_waysBefore]? = some (.inl (0, 3)) := rfl
theorem ar_MO_nodeRoom : lays[p_MO_nodeRoom]? = some (.inl (0, 6)) := rfl
theorem ar_MO_one : lays[p_MO_one]? = some (.inl (0, 9)) := rfl
theorem ar_MO_other : lays[p_MO_other]? = some (.inl (0, 9)) := rfl
theorem ar_MO_linkRoom : lays[p_MO_linkRoom]? = some (.inl (0, 9)) := rfl
theorem ar_MO_hasFailed : lays[p_MO_hasFailed]? = some (.inl (1, 9)) := rfl
theorem ar_MO_parts : lays[p_MO_parts]? = some (.inl (0, 13)) := rfl
theorem ar_MO_lines : lays[p_MO_lines]? = some (.inl (0, 13)) := rfl
theorem ar_MO_partNeed : lays[p_MO_partNeed]? = some (.inl (0, 39)) := rfl
theorem ar_MO_partSet : lays[p_MO_partSet]? = some (.inl (0, 39)) := rfl
theorem ar_MO_at : lays[p_MO_at]? = some (.inl (0, 39)) := rfl
theorem ar_MO_lineFrom : lays[p_MO_lineFrom]? = some (.inl (0, 39)) := rfl
theorem ar_MO_lineTo : lays[p_MO_lineTo]? = some (.inl (0, 39)) := rfl
theorem ar_MO_lineNeed : lays[p_MO_lineNeed]? = some (.inl (0, 39)) := rfl
theorem ar_MO_amount : lays[p_MO_amount]? = some (.inl (0, 39)) := rfl
theorem ar_MO_way : lays[p_MO_way]? = some (.inl (0, 39)) := rfl
theorem ar_MO_rest : lays[p_MO_rest]? = some (.inl (0, 39)) := rfl
theorem ar_MO_second : lays[p_MO_second]? = some (.inl (0, 39)) := rfl
theorem ar_MO_hasEnded : lays[p_MO_hasEnded]? = some (.inl (1, 13)) := rfl
theorem ar_MO_manner : lays[p_MO_manner]? = some (.inl (0, 13)) := rfl
theorem ar_MO_time : lays[p_MO_time]? = some (.inl (0, 13)) := rfl
theorem ar_MO_left : lays[p_MO_left]? = some (.inl (0, 6)) := rfl
theorem ar_MO_free : lays[p_MO_free]? = some (.inl (0, 9)) := rfl
theorem ar_MO_found : lays[p_MO_found]? = some (.inl (0, 192)) := rfl
theorem ar_MO_many : lays[p_MO_many]? = some (.inl (0, 3)) := rfl
theorem ar_MO_spot : lays[p_MO_spot]? = some (.inl (0, 7)) := rfl
theorem ar_MO_next : lays[p_MO_next]? = some (.inl (0, 7)) := rfl
theorem ar_MO_gone : lays[p_MO_gone]? = some (.inl (0, 7)) := rfl
theorem ar_MO_tries : lays[p_MO_tries]? = some (.inl (0, 3)) := rfl
theorem ar_MO_bestAt : lays[p_MO_bestAt]? = some (.inl (0, 3)) := rfl
theorem ar_MO_bestWay : lays[p_MO_bestWay]? = some (.inl (0, 3)) := rfl
theorem ar_MO_oldWay : lays[p_MO_oldWay]? = some (.inl (0, 3)) := rfl
theorem ar_CS_fitting : lays[p_CS_fitting]? = some (.inl (0, 3)) := rfl
theorem ar_CP_fitting : lays[p_CP_fitting]? = some (.inl (0, 3)) := rfl
theorem ar_OUT : lays[p_OUT]? = some (.inl (2, 1)) := rfl
theorem ar_GR_ways : lays[p_GR_ways]? = some (.inr (.inl (3, [some 60, some 61, some 62, some 63, some 64, some 65, some 66, some 67, some 68, some 69, some 70, some 71, some 72, some 73, some 74, some 75, some 76, some 77, some 78, some 79, some 80, some 81, some 82, some 83, some 84, some 85, some 86, some 87, some 88, some 89, some 90, some 91, some 92, some 93, some 94, some 95]))) := rfl
theorem ar_BK_behind : lays[p_BK_behind]? = some (.inr (.inl (3, [some 96, some 97, some 98, some 99, some 100, some 101, some 102, some 103, some 104]))) := rfl
theorem ar_ML_requests : lays[p_ML_requests]? = some (.inr (.inl (4, [some 105, some 116, some 127, some 138, some 149, some 160, some 171, some 182, some 193, some 204, some 215, some 226, some 237]))) := rfl
def isCho (c : Nat) : Prop := c = p_CS ∨ c = p_CP
theorem ch_CS : isCho p_CS := Or.inl rfl
theorem ch_CP : isCho p_CP := Or.inr rfl
theorem ob_CH {c : Nat} (h : isCho c) : lays[c]? = some (.inr (.inr (1, [some p_GR, some p_BK, some (c + 1)]))) := by
  rcases h with rfl | rfl <;> rfl
theorem ar_CH {c : Nat} (h : isCho c) : lays[c + 1]? = some (.inl (0, 3)) := by
  rcases h with rfl | rfl <;> rfl
theorem ob_RQ_all : ∀ i, i < 13 → lays[p_RQ + 11 * i]? = some (.inr (.inr (5, [some (p_RQ + 11 * i + 1), some (p_RQ + 11 * i + 2), some (p_RQ + 11 * i + 3), some (p_RQ + 11 * i + 4), some (p_RQ + 11 * i + 5), some (p_RQ + 11 * i + 6), some (p_RQ + 11 * i + 7), some (p_RQ + 11 * i + 8), some (p_RQ + 11 * i + 9), some (p_RQ + 11 * i + 10), none, none, none, none, none]))) := by
  intro i hi
  rcases (show i = 0 ∨ i = 1 ∨ i = 2 ∨ i = 3 ∨ i = 4 ∨ i = 5 ∨ i = 6 ∨ i = 7 ∨ i = 8 ∨ i = 9 ∨ i = 10 ∨ i = 11 ∨ i = 12 by omega) with rfl | rfl | rfl | rfl | rfl | rfl | rfl | rfl | rfl | rfl | rfl | rfl | rfl <;> rfl
theorem ob_RQ {p : Nat} (h : isReq p) : lays[p]? = some (.inr (.inr (5, [some (p + 1), some (p + 2), some (p + 3), some (p + 4), some (p + 5), some (p + 6), some (p + 7), some (p + 8), some (p + 9), some (p + 10), none, none, none, none, none]))) := by
  obtain ⟨i, hi, rfl⟩ := h
  exact ob_RQ_all i hi
theorem ar_RQ_all : ∀ i, i < 13 → ∀ k, k < 11 → 0 < k → lays[p_RQ + 11 * i + k]? = some (.inl (0, 3)) := by
  intro i hi k hk h0
  rcases (show i = 0 ∨ i = 1 ∨ i = 2 ∨ i = 3 ∨ i = 4 ∨ i = 5 ∨ i = 6 ∨ i = 7 ∨ i = 8 ∨ i = 9 ∨ i = 10 ∨ i = 11 ∨ i = 12 by omega) with rfl | rfl | rfl | rfl | rfl | rfl | rfl | rfl | rfl | rfl | rfl | rfl | rfl <;> rcases (show k = 1 ∨ k = 2 ∨ k = 3 ∨ k = 4 ∨ k = 5 ∨ k = 6 ∨ k = 7 ∨ k = 8 ∨ k = 9 ∨ k = 10 by omega) with rfl | rfl | rfl | rfl | rfl | rfl | rfl | rfl | rfl | rfl <;> rfl
theorem ar_RQ {p : Nat} (h : isReq p) (k : Nat) (h0 : 0 < k) (hk : k < 11) : lays[p + k]? = some (.inl (0, 3)) := by
  obtain ⟨i, hi, rfl⟩ := h
  exact ar_RQ_all i hi k hk h0
theorem vp_lt {i : Int32} {n : Nat} (h : vp_in i n) : i.toNatClampNeg < n := Nat.not_le.mp fun q => h (Or.inr q)
theorem vp_req {i : Int32} (h : vp_in i 13) : isReq (p_RQ + 11 * i.toNatClampNeg) := ⟨_, vp_lt h, rfl⟩
theorem ar_WY_all : ∀ j, j < 36 → lays[p_WY + j]? = some (.inl (0, 15)) := by
  intro j hj
  rcases (show j = 0 ∨ j = 1 ∨ j = 2 ∨ j = 3 ∨ j = 4 ∨ j = 5 ∨ j = 6 ∨ j = 7 ∨ j = 8 ∨ j = 9 ∨ j = 10 ∨ j = 11 ∨ j = 12 ∨ j = 13 ∨ j = 14 ∨ j = 15 ∨ j = 16 ∨ j = 17 ∨ j = 18 ∨ j = 19 ∨ j = 20 ∨ j = 21 ∨ j = 22 ∨ j = 23 ∨ j = 24 ∨ j = 25 ∨ j = 26 ∨ j = 27 ∨ j = 28 ∨ j = 29 ∨ j = 30 ∨ j = 31 ∨ j = 32 ∨ j = 33 ∨ j = 34 ∨ j = 35 by omega) with rfl | rfl | rfl | rfl | rfl | rfl | rfl | rfl | rfl | rfl | rfl | rfl | rfl | rfl | rfl | rfl | rfl | rfl | rfl | rfl | rfl | rfl | rfl | rfl | rfl | rfl | rfl | rfl | rfl | rfl | rfl | rfl | rfl | rfl | rfl | rfl <;> rfl
theorem ar_WY {i : Int32} (h : vp_in i 36) : lays[p_WY + i.toNatClampNeg]? = some (.inl (0, 15)) := ar_WY_all _ (vp_lt h)
theorem ar_BH_all : ∀ j, j < 9 → lays[p_BH + j]? = some (.inl (0, 9)) := by
  intro j hj
  rcases (show j = 0 ∨ j = 1 ∨ j = 2 ∨ j = 3 ∨ j = 4 ∨ j = 5 ∨ j = 6 ∨ j = 7 ∨ j = 8 by omega) with rfl | rfl | rfl | rfl | rfl | rfl | rfl | rfl | rfl <;> rfl
theorem ar_BH {i : Int32} (h : vp_in i 9) : lays[p_BH + i.toNatClampNeg]? = some (.inl (0, 9)) := ar_BH_all _ (vp_lt h)
section K2
variable {g : GE} {f : FE} {cc : ByteArray} {nL : Nat} {own : String} {fr lo kc ks pc : Nat} {ls : List (Option Value)} {st : List Value} {μ : Mm}
theorem rt_GR_ways : ∀ j, j < 36 → ([some 60, some 61, some 62, some 63, some 64, some 65, some 66, some 67, some 68, some 69, some 70, some 71, some 72, some 73, some 74, some 75, some 76, some 77, some 78, some 79, some 80, some 81, some 82, some 83, some 84, some 85, some 86, some 87, some 88, some 89, some 90, some 91, some 92, some 93, some 94, some 95] : List (Option Nat))[j]? = some (some (p_WY + j)) := by decide +kernel
theorem k_aald_GR_ways {i : Int32} (cx : Cx g f cc nL own fr lo kc ks) (hi : vp_in i 36) (d : decode cc pc = .ok (.aaload, 1)) (kk : KW g f nL kc ks (pc + 1) ls (.ref (p_WY + i.toNatClampNeg) :: st) μ) : KW g f nL kc ks pc ls (.int i :: .ref p_GR_ways :: st) μ :=
  k_aald (ty := .array .int) cx ar_GR_ways rfl rfl hi (rt_GR_ways _ (vp_lt hi)) d kk
theorem rt_BK_behind : ∀ j, j < 9 → ([some 96, some 97, some 98, some 99, some 100, some 101, some 102, some 103, some 104] : List (Option Nat))[j]? = some (some (p_BH + j)) := by decide +kernel
theorem k_aald_BK_behind {i : Int32} (cx : Cx g f cc nL own fr lo kc ks) (hi : vp_in i 9) (d : decode cc pc = .ok (.aaload, 1)) (kk : KW g f nL kc ks (pc + 1) ls (.ref (p_BH + i.toNatClampNeg) :: st) μ) : KW g f nL kc ks pc ls (.int i :: .ref p_BK_behind :: st) μ :=
  k_aald (ty := .array .int) cx ar_BK_behind rfl rfl hi (rt_BK_behind _ (vp_lt hi)) d kk
theorem rt_ML_requests : ∀ j, j < 13 → ([some 105, some 116, some 127, some 138, some 149, some 160, some 171, some 182, some 193, some 204, some 215, some 226, some 237] : List (Option Nat))[j]? = some (some (p_RQ + 11 * j)) := by decide +kernel
theorem k_aald_ML_requests {i : Int32} (cx : Cx g f cc nL own fr lo kc ks) (hi : vp_in i 13) (d : decode cc pc = .ok (.aaload, 1)) (kk : KW g f nL kc ks (pc + 1) ls (.ref (p_RQ + 11 * i.toNatClampNeg) :: st) μ) : KW g f nL kc ks pc ls (.int i :: .ref p_ML_requests :: st) μ :=
  k_aald (ty := .object "MeshLodger$Request") cx ar_ML_requests rfl rfl hi (rt_ML_requests _ (vp_lt hi)) d kk
def imax (x y : Int32) : Int32 := if x < y then y else x
theorem k_mmax {index : Nat} {x y : Int32} (cx : Cx g f cc nL own fr lo kc ks) (hw : Cond.methodLink own index Lib.Math.max.name ∈ Om) (h8 : (st.map fun v => v.category).sum ≤ 8) (hf : 1 ≤ fr) (hlo : 21 ≤ lo) (d : decode cc pc = .ok (.invokestatic index, 3)) (kk : KW g f nL kc ks (pc + 3) ls (.int (imax x y) :: st) μ) : KW g f nL kc ks pc ls (.int y :: .int x :: st) μ :=
  fun H locs la hP hS hz => va_mmax cx.1.1 cx.1.2.1 (by rw [cx.1.2.2.1]; exact hz.1.symm) cx.1.2.2.2.1 (cx.1.2.2.2.2 _ hw) (cx.1.2.2.2.2 _ mm_s) (cx.1.2.2.2.2 _ mm_i) (cx.1.2.2.2.2 _ mm_c) (Nat.le_trans hf cx.2.2.2.2.2.1) (Nat.le_trans (by rw [sum_cat]; omega) cx.2.2.2.2.2.2.1) cx.2.2.2.2.2.2.2.1 cx.2.2.2.2.2.2.2.2 d (kk H locs la hP hS hz)
theorem k_dup2 {v w : Value} (cx : Cx g f cc nL own fr lo kc ks) (d : decode cc pc = .ok (.dup2, 1)) (hv : v.category = 1) (hw : w.category = 1) (kk : KW g f nL kc ks (pc + 1) ls (v :: w :: v :: w :: st) μ) : KW g f nL kc ks pc ls (v :: w :: st) μ :=
  fun H locs la hP hS hz => lv_dup2_11 cx.1.1 cx.1.2.1 d (by rw [ren_cat]; exact hv) (by rw [ren_cat]; exact hw) (kk H locs la hP hS hz)
theorem k_ldc_w {index : Nat} {v : Int32} (cx : Cx g f cc nL own fr lo kc ks) (hw : Cond.constant own index v ∈ Om) (d : decode cc pc = .ok (.ldc_w index, 3)) (kk : KW g f nL kc ks (pc + 3) ls (.int v :: st) μ) : KW g f nL kc ks pc ls st μ :=
  fun H locs la hP hS hz => lv_ldcw cx.1.1 cx.1.2.1 cx.1.2.2.2.1 (cx.1.2.2.2.2 _ hw) d (kk H locs la hP hS hz)
theorem k_ldc {index : Nat} {v : Int32} (cx : Cx g f cc nL own fr lo kc ks) (hw : Cond.constant own index v ∈ Om) (d : decode cc pc = .ok (.ldc index, 2)) (kk : KW g f nL kc ks (pc + 2) ls (.int v :: st) μ) : KW g f nL kc ks pc ls st μ :=
  fun H locs la hP hS hz => lv_ldc cx.1.1 cx.1.2.1 cx.1.2.2.2.1 (cx.1.2.2.2.2 _ hw) d (kk H locs la hP hS hz)
theorem k_ret_R {q : Nat → Mm → Prop} {p : Nat} {rt : FieldType} (cx : Cx g f cc nL own fr lo 0 0) (hr : (f_M f).sig.returnType = some rt) (hl : (f_M f).locks = false) (hQ : f_Q f = MQ (f_b f) (QW g (qR q)) (f_a f) (f_s f) 0 0 (fun q => g.2.2.2 ≤ q)) (d : decode cc pc = .ok (.areturn, 1)) (hp : isReq p) (hq : q p μ) (hn : ∃ n, rt = .object n := by exact ⟨_, rfl⟩) : KW g f nL 0 0 pc ls [.ref p] μ := by
  intro H locs la hP hS hz
  rw [hQ]
  exact W.aret (hlocks := hl) cx.1.1 cx.1.2.1 hr (Or.inl hn) (Or.inr ⟨_, rfl⟩) (fun t ht hW => ⟨⟨some (.ref p), μ, rfl, ⟨p, rfl, hp, hq⟩, by rw [ht]; exact hP⟩, hS.F ht⟩) hS.2.2 d
end K2
theorem i32_cases (n : Nat) (hn : n < 2 ^ 30) {x : Int32} (h : ¬ (x.toInt < 0 ∨ (n : Int) < x.toInt)) : ∃ j : Nat, j ≤ n ∧ x = nI j := by
  have h0 : ¬ x < 0 := by
    intro q
    rw [Int32.lt_iff_toInt_lt, Int32.toInt_zero] at q
    omega
  obtain ⟨j, hj, rfl⟩ := nI_of h0
  rw [nI_toInt hj] at h
  exact ⟨j, by omega, rfl⟩
theorem sw_2 {x : Int32} (h : ¬ (x.toInt < 0 ∨ 2 < x.toInt)) : x = 0 ∨ x = 1 ∨ x = 2 := by
  obtain ⟨j, hj, rfl⟩ := i32_cases 2 (by decide) h
  have : j = 0 ∨ j = 1 ∨ j = 2 := by omega
  rcases this with rfl | rfl | rfl <;> simp [nI]
theorem sw_6 {x : Int32} (h : ¬ (x.toInt < 0 ∨ 6 < x.toInt)) : x = 0 ∨ x = 1 ∨ x = 2 ∨ x = 3 ∨ x = 4 ∨ x = 5 ∨ x = 6 := by
  obtain ⟨j, hj, rfl⟩ := i32_cases 6 (by decide) h
  have : j = 0 ∨ j = 1 ∨ j = 2 ∨ j = 3 ∨ j = 4 ∨ j = 5 ∨ j = 6 := by omega
  rcases this with rfl | rfl | rfl | rfl | rfl | rfl | rfl <;> simp [nI]
end
section
theorem dX0_carry_0 : decode cX0_carry 0 = .ok (.iconst 0, 1) := by decide +kernel
theorem dX0_carry_1 : decode cX0_carry 1 = .ok (.istore_n 3, 1) := by decide +kernel
theorem dX0_carry_2 : decode cX0_carry 2 = .ok (.iload_n 3, 1) := by decide +kernel
theorem dX0_carry_3 : decode cX0_carry 3 = .ok (.aload_n 0, 1) := by decide +kernel
theorem dX0_carry_4 : decode cX0_carry 4 = .ok (.getfield 29, 3) := by decide +kernel
theorem dX0_carry_7 : decode cX0_carry 7 = .ok (.getfield 41, 3) := by decide +kernel
theorem dX0_carry_10 : decode cX0_carry 10 = .ok (.if_icmp .ge 25, 3) := by decide +kernel
theorem dX0_carry_13 : decode cX0_carry 13 = .ok (.aload_n 0, 1) := by decide +kernel
theorem dX0_carry_14 : decode cX0_carry 14 = .ok (.getfield 18, 3) := by decide +kernel
theorem dX0_carry_17 : decode cX0_carry 17 = .ok (.iload_n 3, 1) := by decide +kernel
theorem dX0_carry_18 : decode cX0_carry 18 = .ok (.dup2, 1) := by decide +kernel
theorem dX0_carry_19 : decode cX0_carry 19 = .ok (.iaload, 1) := by decide +kernel
theorem dX0_carry_20 : decode cX0_carry 20 = .ok (.iload_n 1, 1) := by decide +kernel
theorem dX0_carry_21 : decode cX0_carry 21 = .ok (.iload_n 3, 1) := by decide +kernel
theorem dX0_carry_22 : decode cX0_carry 22 = .ok (.ishr, 1) := by decide +kernel
theorem dX0_carry_23 : decode cX0_carry 23 = .ok (.iconst 1, 1) := by decide +kernel
theorem dX0_carry_24 : decode cX0_carry 24 = .ok (.iand, 1) := by decide +kernel
theorem dX0_carry_25 : decode cX0_carry 25 = .ok (.iload_n 2, 1) := by decide +kernel
theorem dX0_carry_26 : decode cX0_carry 26 = .ok (.imul, 1) := by decide +kernel
theorem dX0_carry_27 : decode cX0_carry 27 = .ok (.iadd, 1) := by decide +kernel
theorem dX0_carry_28 : decode cX0_carry 28 = .ok (.iastore, 1) := by decide +kernel
theorem dX0_carry_29 : decode cX0_carry 29 = .ok (.iinc 3 1, 3) := by decide +kernel
theorem dX0_carry_32 : decode cX0_carry 32 = .ok (.goto (-30), 3) := by decide +kernel
theorem dX0_carry_35 : decode cX0_carry 35 = .ok (.return_, 1) := by decide +kernel
def F_X0_carry_2  (K2 : Int32 → Int32 → Int32 → Mm → Prop) (q : Mm → Prop) (x1 : Int32) (x2 : Int32) (x3 : Int32) (μ : Mm) : Prop :=
  (((μ p_GR 7) ≤ x3 → q μ) ∧ (¬ ((μ p_GR 7) ≤ x3) → vp_in x3 9 ∧ vp_in x3 9 ∧ K2 x1 x2 (x3 + (1 : Int32)) (up2 μ p_BK_linkNeeds (x3).toNatClampNeg ((μ p_BK_linkNeeds (x3).toNatClampNeg) + (((x1 >>> (x3 &&& 31)) &&& (1 : Int32)) * x2)))))
def F_X0_carry_e  (K2 : Int32 → Int32 → Int32 → Mm → Prop) (q : Mm → Prop) (x1 : Int32) (x2 : Int32) (μ : Mm) : Prop :=
  K2 x1 x2 (0 : Int32) μ
def Wp_X0_carry  (x1 : Int32) (x2 : Int32) (μ : Mm) (q : Mm → Prop) : Prop := ∀ (K2 : Int32 → Int32 → Int32 → Mm → Prop), (∀ (x1 : Int32) (x2 : Int32) (x3 : Int32) (μ : Mm), F_X0_carry_2  K2 q x1 x2 x3 μ → K2 x1 x2 x3 μ) → F_X0_carry_e  K2 q x1 x2 μ
abbrev KK_X0_carry_2 (g : GE) (f : FE)  : Int32 → Int32 → Int32 → Mm → Prop := fun x1 x2 x3 μ => KW g f 4 0 0 2 [some (.ref p_BK), some (.int x1), some (.int x2), some (.int x3)] [] μ
set_option maxHeartbeats 2000000 in
theorem b_X0_carry_2  {g : GE} {f : FE} {q : Mm → Prop} (cx : Cx g f cX0_carry 4 RX0 0 0 0 0) (hr : (f_M f).sig.returnType = none) (hl : (f_M f).locks = false) (hQ : f_Q f = MQ (f_b f) (QW g (qV q)) (f_a f) (f_s f) 0 0 (fun q => g.2.2.2 ≤ q))  {x1 : Int32} {x2 : Int32} {x3 : Int32} {μ : Mm} (h : F_X0_carry_2  (KK_X0_carry_2 g f ) q x1 x2 x3 μ) : KK_X0_carry_2 g f  x1 x2 x3 μ := by
  unfold F_X0_carry_2 at h
  show KW g f 4 0 0 2 [some (.ref p_BK), some (.int x1), some (.int x2), some (.int x3)] [] μ
  refine k_iload_n cx dX0_carry_2 rfl rfl ?_
  refine k_aload_n cx dX0_carry_3 rfl rfl ?_
  refine k_get (o := some p_GR) (v := .ref p_GR) cx fl_X0_29 ob_BK rfl rfl dX0_carry_4 ?_
  refine k_get (o := none) (v := .int (μ p_GR 7)) cx fl_X0_41 ob_GR rfl rfl dX0_carry_7 ?_
  refine k_icmp_ge (tgt := 35) cx dX0_carry_10 (by decide) (fun hc => ?_) (fun hc => ?_)
  · replace h := h.1 hc
    exact k_ret_V cx hr hl hQ dX0_carry_35 h
  · replace h := h.2 hc
    refine k_aload_n cx dX0_carry_13 rfl rfl ?_
    refine k_get (o := some p_BK_linkNeeds) (v := .ref p_BK_linkNeeds) cx fl_X0_18 ob_BK rfl rfl dX0_carry_14 ?_
    refine k_iload_n cx dX0_carry_17 rfl rfl ?_
    refine k_dup2 cx dX0_carry_18 rfl rfl ?_
    obtain ⟨hi, h⟩ := h
    refine k_iald cx ar_BK_linkNeeds hi dX0_carry_19 ?_
    refine k_iload_n cx dX0_carry_20 rfl rfl ?_
    refine k_iload_n cx dX0_carry_21 rfl rfl ?_
    refine k_ishr cx dX0_carry_22 ?_
    refine k_iconst (v := (1 : Int32)) cx dX0_carry_23 (by decide +kernel) ?_
    refine k_iand cx dX0_carry_24 ?_
    refine k_iload_n cx dX0_carry_25 rfl rfl ?_
    refine k_imul cx dX0_carry_26 ?_
    refine k_iadd cx dX0_carry_27 ?_
    obtain ⟨hi, h⟩ := h
    refine k_iast cx ar_BK_linkNeeds hi dX0_carry_28 ?_
    refine k_iinc (v := (x3 + (1 : Int32))) cx dX0_carry_29 rfl rfl (by decide) ?_
    refine k_goto (tgt := 2) cx dX0_carry_32 (by decide) ?_
    exact k_weak h (lsLe.keep (lsLe.keep (lsLe.keep (lsLe.keep lsLe.nil))))
set_option maxHeartbeats 2000000 in
theorem b_X0_carry_e  {g : GE} {f : FE} {q : Mm → Prop} (cx : Cx g f cX0_carry 4 RX0 0 0 0 0) (hr : (f_M f).sig.returnType = none) (hl : (f_M f).locks = false) (hQ : f_Q f = MQ (f_b f) (QW g (qV q)) (f_a f) (f_s f) 0 0 (fun q => g.2.2.2 ≤ q))  {x1 : Int32} {x2 : Int32} {μ : Mm} (h : F_X0_carry_e  (KK_X0_carry_2 g f ) q x1 x2 μ) : KW g f 4 0 0 0 [some (.ref p_BK), some (.int x1), some (.int x2), none] [] μ := by
  unfold F_X0_carry_e at h
  refine k_iconst (v := (0 : Int32)) cx dX0_carry_0 (by decide +kernel) ?_
  refine k_istore_n cx dX0_carry_1 rfl (by decide) ?_
  exact k_weak h (lsLe.keep (lsLe.keep (lsLe.keep (lsLe.keep lsLe.nil))))
theorem m_X0_carry {g : GE} {l : Launch} {μ : Mm} {q : Mm → Prop} {x1 : Int32} {x2 : Int32}  (h : Wp_X0_carry  x1 x2 μ q) : MW g l yX0_carry cX0_carry 4 none 0 0 [.ref p_BK, .int x1, .int x2] μ (qV q) := by
  refine met_of (by decide) (Nat.le_of_ble_eq_true rfl) (by intro v hv; simp only [List.mem_cons, List.not_mem_nil, or_false] at hv; rcases hv with rfl | rfl | rfl <;> rfl) ?_
  intro f hfl cx hr hl hQ
  exact b_X0_carry_e  cx hr hl hQ (h (KK_X0_carry_2 g f ) (fun _ _ _ _ h => b_X0_carry_2  cx hr hl hQ h))
theorem dX2_hasNode_0 : decode cX2_hasNode 0 = .ok (.iload_n 1, 1) := by decide +kernel
theorem dX2_hasNode_1 : decode cX2_hasNode 1 = .ok (.ifCond .lt 15, 3) := by decide +kernel
theorem dX2_hasNode_4 : decode cX2_hasNode 4 = .ok (.iload_n 1, 1) := by decide +kernel
theorem dX2_hasNode_5 : decode cX2_hasNode 5 = .ok (.aload_n 0, 1) := by decide +kernel
theorem dX2_hasNode_6 : decode cX2_hasNode 6 = .ok (.getfield 32, 3) := by decide +kernel
theorem dX2_hasNode_9 : decode cX2_hasNode 9 = .ok (.if_icmp .ge 7, 3) := by decide +kernel
theorem dX2_hasNode_12 : decode cX2_hasNode 12 = .ok (.iconst 1, 1) := by decide +kernel
theorem dX2_hasNode_13 : decode cX2_hasNode 13 = .ok (.goto 4, 3) := by decide +kernel
theorem dX2_hasNode_16 : decode cX2_hasNode 16 = .ok (.iconst 0, 1) := by decide +kernel
theorem dX2_hasNode_17 : decode cX2_hasNode 17 = .ok (.ireturn, 1) := by decide +kernel
def F_X2_hasNode_e   (q : Bool → Mm → Prop) (x1 : Int32) (μ : Mm) : Prop :=
  ((x1 < 0 → q false μ) ∧ (¬ (x1 < 0) → (((μ p_GR 6) ≤ x1 → q false μ) ∧ (¬ ((μ p_GR 6) ≤ x1) → q true μ))))
def Wp_X2_hasNode  (x1 : Int32) (μ : Mm) (q : Bool → Mm → Prop) : Prop := F_X2_hasNode_e   q x1 μ
set_option maxHeartbeats 2000000 in
theorem b_X2_hasNode_e  {g : GE} {f : FE} {q : Bool → Mm → Prop} (cx : Cx g f cX2_hasNode 2 RX2 0 0 0 0) (hr : (f_M f).sig.returnType = (some .boolean)) (hl : (f_M f).locks = false) (hQ : f_Q f = MQ (f_b f) (QW g (qZ q)) (f_a f) (f_s f) 0 0 (fun q => g.2.2.2 ≤ q))  {x1 : Int32} {μ : Mm} (h : F_X2_hasNode_e   q x1 μ) : KW g f 2 0 0 0 [some (.ref p_GR), some (.int x1)] [] μ := by
  unfold F_X2_hasNode_e at h
  refine k_iload_n cx dX2_hasNode_0 rfl rfl ?_
  refine k_if_lt (tgt := 16) cx dX2_hasNode_1 (by decide) (fun hc => ?_) (fun hc => ?_)
  · replace h := h.1 hc
    refine k_iconst (v := (0 : Int32)) cx dX2_hasNode_16 (by decide +kernel) ?_
    exact k_ret_Z (b := false) cx hr hl hQ dX2_hasNode_17 rfl h
  · replace h := h.2 hc
    refine k_iload_n cx dX2_hasNode_4 rfl rfl ?_
    refine k_aload_n cx dX2_hasNode_5 rfl rfl ?_
    refine k_get (o := none) (v := .int (μ p_GR 6)) cx fl_X2_32 ob_GR rfl rfl dX2_hasNode_6 ?_
    refine k_icmp_ge (tgt := 16) cx dX2_hasNode_9 (by decide) (fun hc => ?_) (fun hc => ?_)
    · replace h := h.1 hc
      refine k_iconst (v := (0 : Int32)) cx dX2_hasNode_16 (by decide +kernel) ?_
      exact k_ret_Z (b := false) cx hr hl hQ dX2_hasNode_17 rfl h
    · replace h := h.2 hc
      refine k_iconst (v := (1 : Int32)) cx dX2_hasNode_12 (by decide +kernel) ?_
      refine k_goto (tgt := 17) cx dX2_hasNode_13 (by decide) ?_
      exact k_ret_Z (b := true) cx hr hl hQ dX2_hasNode_17 rfl h
theorem m_X2_hasNode {g : GE} {l : Launch} {μ : Mm} {q : Bool → Mm → Prop} {x1 : Int32}  (h : Wp_X2_hasNode  x1 μ q) : MW g l yX2_hasNode cX2_hasNode 2 (some .boolean) 0 0 [.ref p_GR, .int x1] μ (qZ q) := by
  refine met_of (by decide) (Nat.le_of_ble_eq_true rfl) (by intro v hv; simp only [List.mem_cons, List.not_mem_nil, or_false] at hv; rcases hv with rfl | rfl <;> rfl) ?_
  intro f hfl cx hr hl hQ
  exact b_X2_hasNode_e  cx hr hl hQ (h  )
theorem dX0_enterPart_0 : decode cX0_enterPart 0 = .ok (.aload_n 0, 1) := by decide +kernel
theorem dX0_enterPart_1 : decode cX0_enterPart 1 = .ok (.getfield 29, 3) := by decide +kernel
theorem dX0_enterPart_4 : decode cX0_enterPart 4 = .ok (.iload_n 1, 1) := by decide +kernel
theorem dX0_enterPart_5 : decode cX0_enterPart 5 = .ok (.invokevirtual 80, 3) := by decide +kernel
theorem dX0_enterPart_8 : decode cX0_enterPart 8 = .ok (.ifCond .eq 25, 3) := by decide +kernel
theorem dX0_enterPart_11 : decode cX0_enterPart 11 = .ok (.aload_n 0, 1) := by decide +kernel
theorem dX0_enterPart_12 : decode cX0_enterPart 12 = .ok (.getfield 9, 3) := by decide +kernel
theorem dX0_enterPart_15 : decode cX0_enterPart 15 = .ok (.iload_n 1, 1) := by decide +kernel
theorem dX0_enterPart_16 : decode cX0_enterPart 16 = .ok (.dup2, 1) := by decide +kernel
theorem dX0_enterPart_17 : decode cX0_enterPart 17 = .ok (.iaload, 1) := by decide +kernel
theorem dX0_enterPart_18 : decode cX0_enterPart 18 = .ok (.iload_n 3, 1) := by decide +kernel
theorem dX0_enterPart_19 : decode cX0_enterPart 19 = .ok (.iload_n 2, 1) := by decide +kernel
theorem dX0_enterPart_20 : decode cX0_enterPart 20 = .ok (.imul, 1) := by decide +kernel
theorem dX0_enterPart_21 : decode cX0_enterPart 21 = .ok (.iadd, 1) := by decide +kernel
theorem dX0_enterPart_22 : decode cX0_enterPart 22 = .ok (.iastore, 1) := by decide +kernel
theorem dX0_enterPart_23 : decode cX0_enterPart 23 = .ok (.aload_n 0, 1) := by decide +kernel
theorem dX0_enterPart_24 : decode cX0_enterPart 24 = .ok (.getfield 15, 3) := by decide +kernel
theorem dX0_enterPart_27 : decode cX0_enterPart 27 = .ok (.iload_n 1, 1) := by decide +kernel
theorem dX0_enterPart_28 : decode cX0_enterPart 28 = .ok (.dup2, 1) := by decide +kernel
theorem dX0_enterPart_29 : decode cX0_enterPart 29 = .ok (.iaload, 1) := by decide +kernel
theorem dX0_enterPart_30 : decode cX0_enterPart 30 = .ok (.iload_n 3, 1) := by decide +kernel
theorem dX0_enterPart_31 : decode cX0_enterPart 31 = .ok (.iadd, 1) := by decide +kernel
theorem dX0_enterPart_32 : decode cX0_enterPart 32 = .ok (.iastore, 1) := by decide +kernel
theorem dX0_enterPart_33 : decode cX0_enterPart 33 = .ok (.return_, 1) := by decide +kernel
def F_X0_enterPart_e   (q : Mm → Prop) (x1 : Int32) (x2 : Int32) (x3 : Int32) (μ : Mm) : Prop :=
  Wp_X2_hasNode x1 μ (fun b2 μ1 => (((bI b2) = 0 → q μ1) ∧ (¬ ((bI b2) = 0) → vp_in x1 6 ∧ vp_in x1 6 ∧ vp_in x1 6 ∧ vp_in x1 6 ∧ q (up2 (up2 μ1 p_BK_nodeNeeds (x1).toNatClampNeg ((μ1 p_BK_nodeNeeds (x1).toNatClampNeg) + (x3 * x2))) p_BK_nodeParts (x1).toNatClampNeg (((up2 μ1 p_BK_nodeNeeds (x1).toNatClampNeg ((μ1 p_BK_nodeNeeds (x1).toNatClampNeg) + (x3 * x2))) p_BK_nodeParts (x1).toNatClampNeg) + x3)))))
def Wp_X0_enterPart  (x1 : Int32) (x2 : Int32) (x3 : Int32) (μ : Mm) (q : Mm → Prop) : Prop := F_X0_enterPart_e   q x1 x2 x3 μ
set_option maxHeartbeats 2000000 in
theorem b_X0_enterPart_e  {g : GE} {f : FE} {q : Mm → Prop} (cx : Cx g f cX0_enterPart 4 RX0 1 21 0 0) (hr : (f_M f).sig.returnType = none) (hl : (f_M f).locks = false) (hQ : f_Q f = MQ (f_b f) (QW g (qV q)) (f_a f) (f_s f) 0 0 (fun q => g.2.2.2 ≤ q))  {x1 : Int32} {x2 : Int32} {x3 : Int32} {μ : Mm} (h : F_X0_enterPart_e   q x1 x2 x3 μ) : KW g f 4 0 0 0 [some (.ref p_BK), some (.int x1), some (.int x2), some (.int x3)] [] μ := by
  unfold F_X0_enterPart_e at h
  refine k_aload_n cx dX0_enterPart_0 rfl rfl ?_
  refine k_get (o := some p_GR) (v := .ref p_GR) cx fl_X0_29 ob_BK rfl rfl dX0_enterPart_1 ?_
  refine k_iload_n cx dX0_enterPart_4 rfl rfl ?_
  refine k_callV (As := [.int x1]) (rest := []) cx (m_X2_hasNode h) cv_X0_80 ob_GR rfl rfl rfl rfl (Nat.le_of_ble_eq_true rfl) ⟨Nat.le_of_ble_eq_true rfl, Nat.le_of_ble_eq_true rfl⟩ dX0_enterPart_5 (fun v μ1 hq => ?_)
  obtain ⟨b2, rfl, h⟩ := hq
  refine k_if_eq (tgt := 33) cx dX0_enterPart_8 (by decide) (fun hc => ?_) (fun hc => ?_)
  · replace h := h.1 hc
    exact k_ret_V cx hr hl hQ dX0_enterPart_33 h
  · replace h := h.2 hc
    refine k_aload_n cx dX0_enterPart_11 rfl rfl ?_
    refine k_get (o := some p_BK_nodeNeeds) (v := .ref p_BK_nodeNeeds) cx fl_X0_9 ob_BK rfl rfl dX0_enterPart_12 ?_
    refine k_iload_n cx dX0_enterPart_15 rfl rfl ?_
    refine k_dup2 cx dX0_enterPart_16 rfl rfl ?_
    obtain ⟨hi, h⟩ := h
    refine k_iald cx ar_BK_nodeNeeds hi dX0_enterPart_17 ?_
    refine k_iload_n cx dX0_enterPart_18 rfl rfl ?_
    refine k_iload_n cx dX0_enterPart_19 rfl rfl ?_
    refine k_imul cx dX0_enterPart_20 ?_
    refine k_iadd cx dX0_enterPart_21 ?_
    obtain ⟨hi, h⟩ := h
    refine k_iast cx ar_BK_nodeNeeds hi dX0_enterPart_22 ?_
    refine k_aload_n cx dX0_enterPart_23 rfl rfl ?_
    refine k_get (o := some p_BK_nodeParts) (v := .ref p_BK_nodeParts) cx fl_X0_15 ob_BK rfl rfl dX0_enterPart_24 ?_
    refine k_iload_n cx dX0_enterPart_27 rfl rfl ?_
    refine k_dup2 cx dX0_enterPart_28 rfl rfl ?_
    obtain ⟨hi, h⟩ := h
    refine k_iald cx ar_BK_nodeParts hi dX0_enterPart_29 ?_
    refine k_iload_n cx dX0_enterPart_30 rfl rfl ?_
    refine k_iadd cx dX0_enterPart_31 ?_
    obtain ⟨hi, h⟩ := h
    refine k_iast cx ar_BK_nodeParts hi dX0_enterPart_32 ?_
    exact k_ret_V cx hr hl hQ dX0_enterPart_33 h
theorem m_X0_enterPart {g : GE} {l : Launch} {μ : Mm} {q : Mm → Prop} {x1 : Int32} {x2 : Int32} {x3 : Int32}  (h : Wp_X0_enterPart  x1 x2 x3 μ q) : MW g l yX0_enterPart cX0_enterPart 4 none 1 21 [.ref p_BK, .int x1, .int x2, .int x3] μ (qV q) := by
  refine met_of (by decide) (Nat.le_of_ble_eq_true rfl) (by intro v hv; simp only [List.mem_cons, List.not_mem_nil, or_false] at hv; rcases hv with rfl | rfl | rfl | rfl <;> rfl) ?_
  intro f hfl cx hr hl hQ
  exact b_X0_enterPart_e  cx hr hl hQ (h  )
theorem dX0_reserve_0 : decode cX0_reserve 0 = .ok (.iconst 0, 1) := by decide +kernel
theorem dX0_reserve_1 : decode cX0_reserve 1 = .ok (.istore 4, 2) := by decide +kernel
theorem dX0_reserve_3 : decode cX0_reserve 3 = .ok (.iconst 0, 1) := by decide +kernel
theorem dX0_reserve_4 : decode cX0_reserve 4 = .ok (.istore 5, 2) := by decide +kernel
theorem dX0_reserve_6 : decode cX0_reserve 6 = .ok (.iload 5, 2) := by decide +kernel
theorem dX0_reserve_8 : decode cX0_reserve 8 = .ok (.aload_n 0, 1) := by decide +kernel
theorem dX0_reserve_9 : decode cX0_reserve 9 = .ok (.getfield 29, 3) := by decide +kernel
theorem dX0_reserve_12 : decode cX0_reserve 12 = .ok (.getfield 41, 3) := by decide +kernel
theorem dX0_reserve_15 : decode cX0_reserve 15 = .ok (.if_icmp .ge 45, 3) := by decide +kernel
theorem dX0_reserve_18 : decode cX0_reserve 18 = .ok (.aload_n 0, 1) := by decide +kernel
theorem dX0_reserve_19 : decode cX0_reserve 19 = .ok (.getfield 26, 3) := by decide +kernel
theorem dX0_reserve_22 : decode cX0_reserve 22 = .ok (.iload 5, 2) := by decide +kernel
theorem dX0_reserve_24 : decode cX0_reserve 24 = .ok (.aaload, 1) := by decide +kernel
theorem dX0_reserve_25 : decode cX0_reserve 25 = .ok (.iload_n 1, 1) := by decide +kernel
theorem dX0_reserve_26 : decode cX0_reserve 26 = .ok (.dup2, 1) := by decide +kernel
theorem dX0_reserve_27 : decode cX0_reserve 27 = .ok (.iaload, 1) := by decide +kernel
theorem dX0_reserve_28 : decode cX0_reserve 28 = .ok (.iload_n 2, 1) := by decide +kernel
theorem dX0_reserve_29 : decode cX0_reserve 29 = .ok (.iload 5, 2) := by decide +kernel
theorem dX0_reserve_31 : decode cX0_reserve 31 = .ok (.ishr, 1) := by decide +kernel
theorem dX0_reserve_32 : decode cX0_reserve 32 = .ok (.iconst 1, 1) := by decide +kernel
theorem dX0_reserve_33 : decode cX0_reserve 33 = .ok (.iand, 1) := by decide +kernel
theorem dX0_reserve_34 : decode cX0_reserve 34 = .ok (.iload_n 3, 1) := by decide +kernel
theorem dX0_reserve_35 : decode cX0_reserve 35 = .ok (.imul, 1) := by decide +kernel
theorem dX0_reserve_36 : decode cX0_reserve 36 = .ok (.iadd, 1) := by decide +kernel
theorem dX0_reserve_37 : decode cX0_reserve 37 = .ok (.iastore, 1) := by decide +kernel
theorem dX0_reserve_38 : decode cX0_reserve 38 = .ok (.iload 4, 2) := by decide +kernel
theorem dX0_reserve_40 : decode cX0_reserve 40 = .ok (.aload_n 0, 1) := by decide +kernel
theorem dX0_reserve_41 : decode cX0_reserve 41 = .ok (.getfield 26, 3) := by decide +kernel
theorem dX0_reserve_44 : decode cX0_reserve 44 = .ok (.iload 5, 2) := by decide +kernel
theorem dX0_reserve_46 : decode cX0_reserve 46 = .ok (.aaload, 1) := by decide +kernel
theorem dX0_reserve_47 : decode cX0_reserve 47 = .ok (.iload_n 1, 1) := by decide +kernel
theorem dX0_reserve_48 : decode cX0_reserve 48 = .ok (.iaload, 1) := by decide +kernel
theorem dX0_reserve_49 : decode cX0_reserve 49 = .ok (.invokestatic 49, 3) := by decide +kernel
theorem dX0_reserve_52 : decode cX0_reserve 52 = .ok (.istore 4, 2) := by decide +kernel
theorem dX0_reserve_54 : decode cX0_reserve 54 = .ok (.iinc 5 1, 3) := by decide +kernel
theorem dX0_reserve_57 : decode cX0_reserve 57 = .ok (.goto (-51), 3) := by decide +kernel
theorem dX0_reserve_60 : decode cX0_reserve 60 = .ok (.aload_n 0, 1) := by decide +kernel
theorem dX0_reserve_61 : decode cX0_reserve 61 = .ok (.getfield 21, 3) := by decide +kernel
theorem dX0_reserve_64 : decode cX0_reserve 64 = .ok (.iload_n 1, 1) := by decide +kernel
theorem dX0_reserve_65 : decode cX0_reserve 65 = .ok (.iload 4, 2) := by decide +kernel
theorem dX0_reserve_67 : decode cX0_reserve 67 = .ok (.iastore, 1) := by decide +kernel
theorem dX0_reserve_68 : decode cX0_reserve 68 = .ok (.return_, 1) := by decide +kernel
def F_X0_reserve_6  (K6 : Int32 → Int32 → Int32 → Int32 → Int32 → Mm → Prop) (q : Mm → Prop) (x1 : Int32) (x2 : Int32) (x3 : Int32) (x4 : Int32) (x5 : Int32) (μ : Mm) : Prop :=
  (((μ p_GR 7) ≤ x5 → vp_in x1 9 ∧ q (up2 μ p_BK_reserved (x1).toNatClampNeg x4)) ∧ (¬ ((μ p_GR 7) ≤ x5) → vp_in x5 9 ∧ vp_in x1 9 ∧ vp_in x1 9 ∧ vp_in x5 9 ∧ vp_in x1 9 ∧ K6 x1 x2 x3 (imax x4 ((up2 μ (p_BH + (x5).toNatClampNeg) (x1).toNatClampNeg ((μ (p_BH + (x5).toNatClampNeg) (x1).toNatClampNeg) + (((x2 >>> (x5 &&& 31)) &&& (1 : Int32)) * x3))) (p_BH + (x5).toNatClampNeg) (x1).toNatClampNeg)) (x5 + (1 : Int32)) (up2 μ (p_BH + (x5).toNatClampNeg) (x1).toNatClampNeg ((μ (p_BH + (x5).toNatClampNeg) (x1).toNatClampNeg) + (((x2 >>> (x5 &&& 31)) &&& (1 : Int32)) * x3)))))
def F_X0_reserve_e  (K6 : Int32 → Int32 → Int32 → Int32 → Int32 → Mm → Prop) (q : Mm → Prop) (x1 : Int32) (x2 : Int32) (x3 : Int32) (μ : Mm) : Prop :=
  K6 x1 x2 x3 (0 : Int32) (0 : Int32) μ
def Wp_X0_reserve  (x1 : Int32) (x2 : Int32) (x3 : Int32) (μ : Mm) (q : Mm → Prop) : Prop := ∀ (K6 : Int32 → Int32 → Int32 → Int32 → Int32 → Mm → Prop), (∀ (x1 : Int32) (x2 : Int32) (x3 : Int32) (x4 : Int32) (x5 : Int32) (μ : Mm), F_X0_reserve_6  K6 q x1 x2 x3 x4 x5 μ → K6 x1 x2 x3 x4 x5 μ) → F_X0_reserve_e  K6 q x1 x2 x3 μ
abbrev KK_X0_reserve_6 (g : GE) (f : FE)  : Int32 → Int32 → Int32 → Int32 → Int32 → Mm → Prop := fun x1 x2 x3 x4 x5 μ => KW g f 6 0 0 6 [some (.ref p_BK), some (.int x1), some (.int x2), some (.int x3), some (.int x4), some (.int x5)] [] μ
set_option maxHeartbeats 2000000 in
theorem b_X0_reserve_6  {g : GE} {f : FE} {q : Mm → Prop} (cx : Cx g f cX0_reserve 6 RX0 1 21 0 0) (hr : (f_M f).sig.returnType = none) (hl : (f_M f).locks = false) (hQ : f_Q f = MQ (f_b f) (QW g (qV q)) (f_a f) (f_s f) 0 0 (fun q => g.2.2.2 ≤ q))  {x1 : Int32} {x2 : Int32} {x3 : Int32} {x4 : Int32} {x5 : Int32} {μ : Mm} (h : F_X0_reserve_6  (KK_X0_reserve_6 g f ) q x1 x2 x3 x4 x5 μ) : KK_X0_reserve_6 g f  x1 x2 x3 x4 x5 μ := by
  unfold F_X0_reserve_6 at h
  show KW g f 6 0 0 6 [some (.ref p_BK), some (.int x1), some (.int x2), some (.int x3), some (.int x4), some (.int x5)] [] μ
  refine k_iload cx dX0_reserve_6 rfl ?_
  refine k_aload_n cx dX0_reserve_8 rfl rfl ?_
  refine k_get (o := some p_GR) (v := .ref p_GR) cx fl_X0_29 ob_BK rfl rfl dX0_reserve_9 ?_
  refine k_get (o := none) (v := .int (μ p_GR 7)) cx fl_X0_41 ob_GR rfl rfl dX0_reserve_12 ?_
  refine k_icmp_ge (tgt := 60) cx dX0_reserve_15 (by decide) (fun hc => ?_) (fun hc => ?_)
  · replace h := h.1 hc
    refine k_aload_n cx dX0_reserve_60 rfl rfl ?_
    refine k_get (o := some p_BK_reserved) (v := .ref p_BK_reserved) cx fl_X0_21 ob_BK rfl rfl dX0_reserve_61 ?_
    refine k_iload_n cx dX0_reserve_64 rfl rfl ?_
    refine k_iload cx dX0_reserve_65 rfl ?_
    obtain ⟨hi, h⟩ := h
    refine k_iast cx ar_BK_reserved hi dX0_reserve_67 ?_
    exact k_ret_V cx hr hl hQ dX0_reserve_68 h
  · replace h := h.2 hc
    refine k_aload_n cx dX0_reserve_18 rfl rfl ?_
    refine k_get (o := some p_BK_behind) (v := .ref p_BK_behind) cx fl_X0_26 ob_BK rfl rfl dX0_reserve_19 ?_
    refine k_iload cx dX0_reserve_22 rfl ?_
    obtain ⟨hi1, h⟩ := h
    refine k_aald_BK_behind cx hi1 dX0_reserve_24 ?_
    refine k_iload_n cx dX0_reserve_25 rfl rfl ?_
    refine k_dup2 cx dX0_reserve_26 rfl rfl ?_
    obtain ⟨hi, h⟩ := h
    refine k_iald cx (ar_BH hi1) hi dX0_reserve_27 ?_
    refine k_iload_n cx dX0_reserve_28 rfl rfl ?_
    refine k_iload cx dX0_reserve_29 rfl ?_
    refine k_ishr cx dX0_reserve_31 ?_
    refine k_iconst (v := (1 : Int32)) cx dX0_reserve_32 (by decide +kernel) ?_
    refine k_iand cx dX0_reserve_33 ?_
    refine k_iload_n cx dX0_reserve_34 rfl rfl ?_
    refine k_imul cx dX0_reserve_35 ?_
    refine k_iadd cx dX0_reserve_36 ?_
    obtain ⟨hi, h⟩ := h
    refine k_iast cx (ar_BH hi1) hi dX0_reserve_37 ?_
    refine k_iload cx dX0_reserve_38 rfl ?_
    refine k_aload_n cx dX0_reserve_40 rfl rfl ?_
    refine k_get (o := some p_BK_behind) (v := .ref p_BK_behind) cx fl_X0_26 ob_BK rfl rfl dX0_reserve_41 ?_
    refine k_iload cx dX0_reserve_44 rfl ?_
    obtain ⟨hi2, h⟩ := h
    refine k_aald_BK_behind cx hi2 dX0_reserve_46 ?_
    refine k_iload_n cx dX0_reserve_47 rfl rfl ?_
    obtain ⟨hi, h⟩ := h
    refine k_iald cx (ar_BH hi2) hi dX0_reserve_48 ?_
    refine k_mmax cx mm_X0_49 (Nat.le_of_ble_eq_true rfl) (Nat.le_of_ble_eq_true rfl) (Nat.le_of_ble_eq_true rfl) dX0_reserve_49 ?_
    refine k_istore cx dX0_reserve_52 (by decide) ?_
    refine k_iinc (v := (x5 + (1 : Int32))) cx dX0_reserve_54 rfl rfl (by decide) ?_
    refine k_goto (tgt := 6) cx dX0_reserve_57 (by decide) ?_
    exact k_weak h (lsLe.keep (lsLe.keep (lsLe.keep (lsLe.keep (lsLe.keep (lsLe.keep lsLe.nil))))))
set_option maxHeartbeats 2000000 in
theorem b_X0_reserve_e  {g : GE} {f : FE} {q : Mm → Prop} (cx : Cx g f cX0_reserve 6 RX0 1 21 0 0) (hr : (f_M f).sig.returnType = none) (hl : (f_M f).locks = false) (hQ : f_Q f = MQ (f_b f) (QW g (qV q)) (f_a f) (f_s f) 0 0 (fun q => g.2.2.2 ≤ q))  {x1 : Int32} {x2 : Int32} {x3 : Int32} {μ : Mm} (h : F_X0_reserve_e  (KK_X0_reserve_6 g f ) q x1 x2 x3 μ) : KW g f 6 0 0 0 [some (.ref p_BK), some (.int x1), some (.int x2), some (.int x3), none, none] [] μ := by
  unfold F_X0_reserve_e at h
  refine k_iconst (v := (0 : Int32)) cx dX0_reserve_0 (by decide +kernel) ?_
  refine k_istore cx dX0_reserve_1 (by decide) ?_
  refine k_iconst (v := (0 : Int32)) cx dX0_reserve_3 (by decide +kernel) ?_
  refine k_istore cx dX0_reserve_4 (by decide) ?_
  exact k_weak h (lsLe.keep (lsLe.keep (lsLe.keep (lsLe.keep (lsLe.keep (lsLe.keep lsLe.nil))))))
theorem m_X0_reserve {g : GE} {l : Launch} {μ : Mm} {q : Mm → Prop} {x1 : Int32} {x2 : Int32} {x3 : Int32}  (h : Wp_X0_reserve  x1 x2 x3 μ q) : MW g l yX0_reserve cX0_reserve 6 none 1 21 [.ref p_BK, .int x1, .int x2, .int x3] μ (qV q) := by
  refine met_of (by decide) (Nat.le_of_ble_eq_true rfl) (by intro v hv; simp only [List.mem_cons, List.not_mem_nil, or_false] at hv; rcases hv with rfl | rfl | rfl | rfl <;> rfl) ?_
  intro f hfl cx hr hl hQ
  exact b_X0_reserve_e  cx hr hl hQ (h (KK_X0_reserve_6 g f ) (fun _ _ _ _ _ _ h => b_X0_reserve_6  cx hr hl hQ h))
theorem dX0_enterSecondWay_0 : decode cX0_enterSecondWay 0 = .ok (.iconst 0, 1) := by decide +kernel
theorem dX0_enterSecondWay_1 : decode cX0_enterSecondWay 1 = .ok (.istore 4, 2) := by decide +kernel
theorem dX0_enterSecondWay_3 : decode cX0_enterSecondWay 3 = .ok (.iload 4, 2) := by decide +kernel
theorem dX0_enterSecondWay_5 : decode cX0_enterSecondWay 5 = .ok (.aload_n 0, 1) := by decide +kernel
theorem dX0_enterSecondWay_6 : decode cX0_enterSecondWay 6 = .ok (.getfield 29, 3) := by decide +kernel
theorem dX0_enterSecondWay_9 : decode cX0_enterSecondWay 9 = .ok (.getfield 41, 3) := by decide +kernel
theorem dX0_enterSecondWay_12 : decode cX0_enterSecondWay 12 = .ok (.if_icmp .ge 43, 3) := by decide +kernel
theorem dX0_enterSecondWay_15 : decode cX0_enterSecondWay 15 = .ok (.aload_n 1, 1) := by decide +kernel
theorem dX0_enterSecondWay_16 : decode cX0_enterSecondWay 16 = .ok (.getfield 100, 3) := by decide +kernel
theorem dX0_enterSecondWay_19 : decode cX0_enterSecondWay 19 = .ok (.iload_n 2, 1) := by decide +kernel
theorem dX0_enterSecondWay_20 : decode cX0_enterSecondWay 20 = .ok (.iaload, 1) := by decide +kernel
theorem dX0_enterSecondWay_21 : decode cX0_enterSecondWay 21 = .ok (.iload 4, 2) := by decide +kernel
theorem dX0_enterSecondWay_23 : decode cX0_enterSecondWay 23 = .ok (.ishr, 1) := by decide +kernel
theorem dX0_enterSecondWay_24 : decode cX0_enterSecondWay 24 = .ok (.iconst 1, 1) := by decide +kernel
theorem dX0_enterSecondWay_25 : decode cX0_enterSecondWay 25 = .ok (.iand, 1) := by decide +kernel
theorem dX0_enterSecondWay_26 : decode cX0_enterSecondWay 26 = .ok (.ifCond .eq 23, 3) := by decide +kernel
theorem dX0_enterSecondWay_29 : decode cX0_enterSecondWay 29 = .ok (.aload_n 0, 1) := by decide +kernel
theorem dX0_enterSecondWay_30 : decode cX0_enterSecondWay 30 = .ok (.iload 4, 2) := by decide +kernel
theorem dX0_enterSecondWay_32 : decode cX0_enterSecondWay 32 = .ok (.aload_n 1, 1) := by decide +kernel
theorem dX0_enterSecondWay_33 : decode cX0_enterSecondWay 33 = .ok (.getfield 84, 3) := by decide +kernel
theorem dX0_enterSecondWay_36 : decode cX0_enterSecondWay 36 = .ok (.iload_n 2, 1) := by decide +kernel
theorem dX0_enterSecondWay_37 : decode cX0_enterSecondWay 37 = .ok (.iaload, 1) := by decide +kernel
theorem dX0_enterSecondWay_38 : decode cX0_enterSecondWay 38 = .ok (.iload_n 3, 1) := by decide +kernel
theorem dX0_enterSecondWay_39 : decode cX0_enterSecondWay 39 = .ok (.aload_n 1, 1) := by decide +kernel
theorem dX0_enterSecondWay_40 : decode cX0_enterSecondWay 40 = .ok (.getfield 103, 3) := by decide +kernel
theorem dX0_enterSecondWay_43 : decode cX0_enterSecondWay 43 = .ok (.iload_n 2, 1) := by decide +kernel
theorem dX0_enterSecondWay_44 : decode cX0_enterSecondWay 44 = .ok (.iaload, 1) := by decide +kernel
theorem dX0_enterSecondWay_45 : decode cX0_enterSecondWay 45 = .ok (.imul, 1) := by decide +kernel
theorem dX0_enterSecondWay_46 : decode cX0_enterSecondWay 46 = .ok (.invokevirtual 106, 3) := by decide +kernel
theorem dX0_enterSecondWay_49 : decode cX0_enterSecondWay 49 = .ok (.iinc 4 1, 3) := by decide +kernel
theorem dX0_enterSecondWay_52 : decode cX0_enterSecondWay 52 = .ok (.goto (-49), 3) := by decide +kernel
theorem dX0_enterSecondWay_55 : decode cX0_enterSecondWay 55 = .ok (.return_, 1) := by decide +kernel
def F_X0_enterSecondWay_3 (p1 : Nat) (K3 : Int32 → Int32 → Int32 → Mm → Prop) (q : Mm → Prop) (x2 : Int32) (x3 : Int32) (x4 : Int32) (μ : Mm) : Prop :=
  (((μ p_GR 7) ≤ x4 → q μ) ∧ (¬ ((μ p_GR 7) ≤ x4) → vp_in x2 3 ∧ (((((μ (p1 + 10) (x2).toNatClampNeg) >>> (x4 &&& 31)) &&& (1 : Int32)) = 0 → K3 x2 x3 (x4 + (1 : Int32)) μ) ∧ (¬ ((((μ (p1 + 10) (x2).toNatClampNeg) >>> (x4 &&& 31)) &&& (1 : Int32)) = 0) → vp_in x2 3 ∧ vp_in x2 3 ∧ Wp_X0_reserve x4 (μ (p1 + 7) (x2).toNatClampNeg) (x3 * (μ (p1 + 6) (x2).toNatClampNeg)) μ (fun μ1 => K3 x2 x3 (x4 + (1 : Int32)) μ1)))))
def F_X0_enterSecondWay_e (p1 : Nat) (K3 : Int32 → Int32 → Int32 → Mm → Prop) (q : Mm → Prop) (x2 : Int32) (x3 : Int32) (μ : Mm) : Prop :=
  K3 x2 x3 (0 : Int32) μ
def Wp_X0_enterSecondWay (p1 : Nat) (x2 : Int32) (x3 : Int32) (μ : Mm) (q : Mm → Prop) : Prop := ∀ (K3 : Int32 → Int32 → Int32 → Mm → Prop), (∀ (x2 : Int32) (x3 : Int32) (x4 : Int32) (μ : Mm), F_X0_enterSecondWay_3 p1 K3 q x2 x3 x4 μ → K3 x2 x3 x4 μ) → F_X0_enterSecondWay_e p1 K3 q x2 x3 μ
abbrev KK_X0_enterSecondWay_3 (g : GE) (f : FE) (p1 : Nat) : Int32 → Int32 → Int32 → Mm → Prop := fun x2 x3 x4 μ => KW g f 5 0 0 3 [some (.ref p_BK), some (.ref p1), some (.int x2), some (.int x3), some (.int x4)] [] μ
set_option maxHeartbeats 2000000 in
theorem b_X0_enterSecondWay_3 {p1 : Nat} (h_p1 : isReq p1) {g : GE} {f : FE} {q : Mm → Prop} (cx : Cx g f cX0_enterSecondWay 5 RX0 2 46 0 0) (hr : (f_M f).sig.returnType = none) (hl : (f_M f).locks = false) (hQ : f_Q f = MQ (f_b f) (QW g (qV q)) (f_a f) (f_s f) 0 0 (fun q => g.2.2.2 ≤ q))  {x2 : Int32} {x3 : Int32} {x4 : Int32} {μ : Mm} (h : F_X0_enterSecondWay_3 p1 (KK_X0_enterSecondWay_3 g f p1) q x2 x3 x4 μ) : KK_X0_enterSecondWay_3 g f p1 x2 x3 x4 μ := by
  unfold F_X0_enterSecondWay_3 at h
  show KW g f 5 0 0 3 [some (.ref p_BK), some (.ref p1), some (.int x2), some (.int x3), some (.int x4)] [] μ
  refine k_iload cx dX0_enterSecondWay_3 rfl ?_
  refine k_aload_n cx dX0_enterSecondWay_5 rfl rfl ?_
  refine k_get (o := some p_GR) (v := .ref p_GR) cx fl_X0_29 ob_BK rfl rfl dX0_enterSecondWay_6 ?_
  refine k_get (o := none) (v := .int (μ p_GR 7)) cx fl_X0_41 ob_GR rfl rfl dX0_enterSecondWay_9 ?_
  refine k_icmp_ge (tgt := 55) cx dX0_enterSecondWay_12 (by decide) (fun hc => ?_) (fun hc => ?_)
  · replace h := h.1 hc
    exact k_ret_V cx hr hl hQ dX0_enterSecondWay_55 h
  · replace h := h.2 hc
    refine k_aload_n cx dX0_enterSecondWay_15 rfl rfl ?_
    refine k_get (o := some (p1 + 10)) (v := .ref (p1 + 10)) cx fl_X0_100 (ob_RQ h_p1) rfl rfl dX0_enterSecondWay_16 ?_
    refine k_iload_n cx dX0_enterSecondWay_19 rfl rfl ?_
    obtain ⟨hi, h⟩ := h
    refine k_iald cx (ar_RQ h_p1 10 (by decide) (by decide)) hi dX0_enterSecondWay_20 ?_
    refine k_iload cx dX0_enterSecondWay_21 rfl ?_
    refine k_ishr cx dX0_enterSecondWay_23 ?_
    refine k_iconst (v := (1 : Int32)) cx dX0_enterSecondWay_24 (by decide +kernel) ?_
    refine k_iand cx dX0_enterSecondWay_25 ?_
    refine k_if_eq (tgt := 49) cx dX0_enterSecondWay_26 (by decide) (fun hc => ?_) (fun hc => ?_)
    · replace h := h.1 hc
      refine k_iinc (v := (x4 + (1 : Int32))) cx dX0_enterSecondWay_49 rfl rfl (by decide) ?_
      refine k_goto (tgt := 3) cx dX0_enterSecondWay_52 (by decide) ?_
      exact k_weak h (lsLe.keep (lsLe.keep (lsLe.keep (lsLe.keep (lsLe.keep lsLe.nil)))))
    · replace h := h.2 hc
      refine k_aload_n cx dX0_enterSecondWay_29 rfl rfl ?_
      refine k_iload cx dX0_enterSecondWay_30 rfl ?_
      refine k_aload_n cx dX0_enterSecondWay_32 rfl rfl ?_
      refine k_get (o := some (p1 + 7)) (v := .ref (p1 + 7)) cx fl_X0_84 (ob_RQ h_p1) rfl rfl dX0_enterSecondWay_33 ?_
      refine k_iload_n cx dX0_enterSecondWay_36 rfl rfl ?_
      obtain ⟨hi, h⟩ := h
      refine k_iald cx (ar_RQ h_p1 7 (by decide) (by decide)) hi dX0_enterSecondWay_37 ?_
      refine k_iload_n cx dX0_enterSecondWay_38 rfl rfl ?_
      refine k_aload_n cx dX0_enterSecondWay_39 rfl rfl ?_
      refine k_get (o := some (p1 + 6)) (v := .ref (p1 + 6)) cx fl_X0_103 (ob_RQ h_p1) rfl rfl dX0_enterSecondWay_40 ?_
      refine k_iload_n cx dX0_enterSecondWay_43 rfl rfl ?_
      obtain ⟨hi, h⟩ := h
      refine k_iald cx (ar_RQ h_p1 6 (by decide) (by decide)) hi dX0_enterSecondWay_44 ?_
      refine k_imul cx dX0_enterSecondWay_45 ?_
      refine k_callV (As := [.int x4, .int (μ (p1 + 7) (x2).toNatClampNeg), .int (x3 * (μ (p1 + 6) (x2).toNatClampNeg))]) (rest := []) cx (m_X0_reserve h) cv_X0_106 ob_BK rfl rfl rfl rfl (Nat.le_of_ble_eq_true rfl) ⟨Nat.le_of_ble_eq_true rfl, Nat.le_of_ble_eq_true rfl⟩ dX0_enterSecondWay_46 (fun v μ1 hq => ?_)
      obtain ⟨rfl, h⟩ := hq
      refine k_iinc (v := (x4 + (1 : Int32))) cx dX0_enterSecondWay_49 rfl rfl (by decide) ?_
      refine k_goto (tgt := 3) cx dX0_enterSecondWay_52 (by decide) ?_
      exact k_weak h (lsLe.keep (lsLe.keep (lsLe.keep (lsLe.keep (lsLe.keep lsLe.nil)))))
set_option maxHeartbeats 2000000 in
theorem b_X0_enterSecondWay_e {p1 : Nat} (h_p1 : isReq p1) {g : GE} {f : FE} {q : Mm → Prop} (cx : Cx g f cX0_enterSecondWay 5 RX0 2 46 0 0) (hr : (f_M f).sig.returnType = none) (hl : (f_M f).locks = false) (hQ : f_Q f = MQ (f_b f) (QW g (qV q)) (f_a f) (f_s f) 0 0 (fun q => g.2.2.2 ≤ q))  {x2 : Int32} {x3 : Int32} {μ : Mm} (h : F_X0_enterSecondWay_e p1 (KK_X0_enterSecondWay_3 g f p1) q x2 x3 μ) : KW g f 5 0 0 0 [some (.ref p_BK), some (.ref p1), some (.int x2), some (.int x3), none] [] μ := by
  unfold F_X0_enterSecondWay_e at h
  refine k_iconst (v := (0 : Int32)) cx dX0_enterSecondWay_0 (by decide +kernel) ?_
  refine k_istore cx dX0_enterSecondWay_1 (by decide) ?_
  exact k_weak h (lsLe.keep (lsLe.keep (lsLe.keep (lsLe.keep (lsLe.keep lsLe.nil)))))
theorem m_X0_enterSecondWay {g : GE} {l : Launch} {μ : Mm} {q : Mm → Prop} {p1 : Nat} {x2 : Int32} {x3 : Int32} (h_p1 : isReq p1) (h : Wp_X0_enterSecondWay p1 x2 x3 μ q) : MW g l yX0_enterSecondWay cX0_enterSecondWay 5 none 2 46 [.ref p_BK, .ref p1, .int x2, .int x3] μ (qV q) := by
  refine met_of (by decide) (Nat.le_of_ble_eq_true rfl) (by intro v hv; simp only [List.mem_cons, List.not_mem_nil, or_false] at hv; rcases hv with rfl | rfl | rfl | rfl <;> rfl) ?_
  intro f hfl cx hr hl hQ
  exact b_X0_enterSecondWay_e h_p1 cx hr hl hQ (h (KK_X0_enterSecondWay_3 g f p1) (fun _ _ _ _ h => b_X0_enterSecondWay_3 h_p1 cx hr hl hQ h))
theorem dX5_restOf_0 : decode cX5_restOf 0 = .ok (.aload_n 0, 1) := by decide +kernel
theorem dX5_restOf_1 : decode cX5_restOf 1 = .ok (.getfield 27, 3) := by decide +kernel
theorem dX5_restOf_4 : decode cX5_restOf 4 = .ok (.iload_n 1, 1) := by decide +kernel
theorem dX5_restOf_5 : decode cX5_restOf 5 = .ok (.iaload, 1) := by decide +kernel
theorem dX5_restOf_6 : decode cX5_restOf 6 = .ok (.aload_n 0, 1) := by decide +kernel
theorem dX5_restOf_7 : decode cX5_restOf 7 = .ok (.getfield 33, 3) := by decide +kernel
theorem dX5_restOf_10 : decode cX5_restOf 10 = .ok (.iload_n 1, 1) := by decide +kernel
theorem dX5_restOf_11 : decode cX5_restOf 11 = .ok (.iaload, 1) := by decide +kernel
theorem dX5_restOf_12 : decode cX5_restOf 12 = .ok (.isub, 1) := by decide +kernel
theorem dX5_restOf_13 : decode cX5_restOf 13 = .ok (.ireturn, 1) := by decide +kernel
def F_X5_restOf_e (p0 : Nat)  (q : Int32 → Mm → Prop) (x1 : Int32) (μ : Mm) : Prop :=
  vp_in x1 3 ∧ vp_in x1 3 ∧ q ((μ (p0 + 6) (x1).toNatClampNeg) - (μ (p0 + 8) (x1).toNatClampNeg)) μ
def Wp_X5_restOf (p0 : Nat) (x1 : Int32) (μ : Mm) (q : Int32 → Mm → Prop) : Prop := F_X5_restOf_e p0  q x1 μ
set_option maxHeartbeats 2000000 in
theorem b_X5_restOf_e {p0 : Nat} (h_p0 : isReq p0) {g : GE} {f : FE} {q : Int32 → Mm → Prop} (cx : Cx g f cX5_restOf 2 RX5 0 0 0 0) (hr : (f_M f).sig.returnType = (some .int)) (hl : (f_M f).locks = false) (hQ : f_Q f = MQ (f_b f) (QW g (qI q)) (f_a f) (f_s f) 0 0 (fun q => g.2.2.2 ≤ q))  {x1 : Int32} {μ : Mm} (h : F_X5_restOf_e p0  q x1 μ) : KW g f 2 0 0 0 [some (.ref p0), some (.int x1)] [] μ := by
  unfold F_X5_restOf_e at h
  refine k_aload_n cx dX5_restOf_0 rfl rfl ?_
  refine k_get (o := some (p0 + 6)) (v := .ref (p0 + 6)) cx fl_X5_27 (ob_RQ h_p0) rfl rfl dX5_restOf_1 ?_
  refine k_iload_n cx dX5_restOf_4 rfl rfl ?_
  obtain ⟨hi, h⟩ := h
  refine k_iald cx (ar_RQ h_p0 6 (by decide) (by decide)) hi dX5_restOf_5 ?_
  refine k_aload_n cx dX5_restOf_6 rfl rfl ?_
  refine k_get (o := some (p0 + 8)) (v := .ref (p0 + 8)) cx fl_X5_33 (ob_RQ h_p0) rfl rfl dX5_restOf_7 ?_
  refine k_iload_n cx dX5_restOf_10 rfl rfl ?_
  obtain ⟨hi, h⟩ := h
  refine k_iald cx (ar_RQ h_p0 8 (by decide) (by decide)) hi dX5_restOf_11 ?_
  refine k_isub cx dX5_restOf_12 ?_
  exact k_ret_I cx hr hl hQ dX5_restOf_13 h
theorem m_X5_restOf {g : GE} {l : Launch} {μ : Mm} {q : Int32 → Mm → Prop} {p0 : Nat} {x1 : Int32} (h_p0 : isReq p0) (h : Wp_X5_restOf p0 x1 μ q) : MW g l yX5_restOf cX5_restOf 2 (some .int) 0 0 [.ref p0, .int x1] μ (qI q) := by
  refine met_of (by decide) (Nat.le_of_ble_eq_true rfl) (by intro v hv; simp only [List.mem_cons, List.not_mem_nil, or_false] at hv; rcases hv with rfl | rfl <;> rfl) ?_
  intro f hfl cx hr hl hQ
  exact b_X5_restOf_e h_p0 cx hr hl hQ (h  )
theorem dX0_enterWays_0 : decode cX0_enterWays 0 = .ok (.aload_n 0, 1) := by decide +kernel
theorem dX0_enterWays_1 : decode cX0_enterWays 1 = .ok (.aload_n 1, 1) := by decide +kernel
theorem dX0_enterWays_2 : decode cX0_enterWays 2 = .ok (.getfield 84, 3) := by decide +kernel
theorem dX0_enterWays_5 : decode cX0_enterWays 5 = .ok (.iload_n 2, 1) := by decide +kernel
theorem dX0_enterWays_6 : decode cX0_enterWays 6 = .ok (.iaload, 1) := by decide +kernel
theorem dX0_enterWays_7 : decode cX0_enterWays 7 = .ok (.iload_n 3, 1) := by decide +kernel
theorem dX0_enterWays_8 : decode cX0_enterWays 8 = .ok (.aload_n 1, 1) := by decide +kernel
theorem dX0_enterWays_9 : decode cX0_enterWays 9 = .ok (.getfield 87, 3) := by decide +kernel
theorem dX0_enterWays_12 : decode cX0_enterWays 12 = .ok (.iload_n 2, 1) := by decide +kernel
theorem dX0_enterWays_13 : decode cX0_enterWays 13 = .ok (.iaload, 1) := by decide +kernel
theorem dX0_enterWays_14 : decode cX0_enterWays 14 = .ok (.imul, 1) := by decide +kernel
theorem dX0_enterWays_15 : decode cX0_enterWays 15 = .ok (.invokevirtual 90, 3) := by decide +kernel
theorem dX0_enterWays_18 : decode cX0_enterWays 18 = .ok (.aload_n 0, 1) := by decide +kernel
theorem dX0_enterWays_19 : decode cX0_enterWays 19 = .ok (.aload_n 1, 1) := by decide +kernel
theorem dX0_enterWays_20 : decode cX0_enterWays 20 = .ok (.getfield 94, 3) := by decide +kernel
theorem dX0_enterWays_23 : decode cX0_enterWays 23 = .ok (.iload_n 2, 1) := by decide +kernel
theorem dX0_enterWays_24 : decode cX0_enterWays 24 = .ok (.iaload, 1) := by decide +kernel
theorem dX0_enterWays_25 : decode cX0_enterWays 25 = .ok (.iload_n 3, 1) := by decide +kernel
theorem dX0_enterWays_26 : decode cX0_enterWays 26 = .ok (.aload_n 1, 1) := by decide +kernel
theorem dX0_enterWays_27 : decode cX0_enterWays 27 = .ok (.iload_n 2, 1) := by decide +kernel
theorem dX0_enterWays_28 : decode cX0_enterWays 28 = .ok (.invokevirtual 97, 3) := by decide +kernel
theorem dX0_enterWays_31 : decode cX0_enterWays 31 = .ok (.imul, 1) := by decide +kernel
theorem dX0_enterWays_32 : decode cX0_enterWays 32 = .ok (.invokevirtual 90, 3) := by decide +kernel
theorem dX0_enterWays_35 : decode cX0_enterWays 35 = .ok (.return_, 1) := by decide +kernel
def F_X0_enterWays_e (p1 : Nat)  (q : Mm → Prop) (x2 : Int32) (x3 : Int32) (μ : Mm) : Prop :=
  vp_in x2 3 ∧ vp_in x2 3 ∧ Wp_X0_carry (μ (p1 + 7) (x2).toNatClampNeg) (x3 * (μ (p1 + 8) (x2).toNatClampNeg)) μ (fun μ1 => vp_in x2 3 ∧ Wp_X5_restOf p1 x2 μ1 (fun z3 μ2 => Wp_X0_carry (μ1 (p1 + 9) (x2).toNatClampNeg) (x3 * z3) μ2 (fun μ4 => q μ4)))
def Wp_X0_enterWays (p1 : Nat) (x2 : Int32) (x3 : Int32) (μ : Mm) (q : Mm → Prop) : Prop := F_X0_enterWays_e p1  q x2 x3 μ
set_option maxHeartbeats 2000000 in
theorem b_X0_enterWays_e {p1 : Nat} (h_p1 : isReq p1) {g : GE} {f : FE} {q : Mm → Prop} (cx : Cx g f cX0_enterWays 4 RX0 1 23 0 0) (hr : (f_M f).sig.returnType = none) (hl : (f_M f).locks = false) (hQ : f_Q f = MQ (f_b f) (QW g (qV q)) (f_a f) (f_s f) 0 0 (fun q => g.2.2.2 ≤ q))  {x2 : Int32} {x3 : Int32} {μ : Mm} (h : F_X0_enterWays_e p1  q x2 x3 μ) : KW g f 4 0 0 0 [some (.ref p_BK), some (.ref p1), some (.int x2), some (.int x3)] [] μ := by
  unfold F_X0_enterWays_e at h
  refine k_aload_n cx dX0_enterWays_0 rfl rfl ?_
  refine k_aload_n cx dX0_enterWays_1 rfl rfl ?_
  refine k_get (o := some (p1 + 7)) (v := .ref (p1 + 7)) cx fl_X0_84 (ob_RQ h_p1) rfl rfl dX0_enterWays_2 ?_
  refine k_iload_n cx dX0_enterWays_5 rfl rfl ?_
  obtain ⟨hi, h⟩ := h
  refine k_iald cx (ar_RQ h_p1 7 (by decide) (by decide)) hi dX0_enterWays_6 ?_
  refine k_iload_n cx dX0_enterWays_7 rfl rfl ?_
  refine k_aload_n cx dX0_enterWays_8 rfl rfl ?_
  refine k_get (o := some (p1 + 8)) (v := .ref (p1 + 8)) cx fl_X0_87 (ob_RQ h_p1) rfl rfl dX0_enterWays_9 ?_
  refine k_iload_n cx dX0_enterWays_12 rfl rfl ?_
  obtain ⟨hi, h⟩ := h
  refine k_iald cx (ar_RQ h_p1 8 (by decide) (by decide)) hi dX0_enterWays_13 ?_
  refine k_imul cx dX0_enterWays_14 ?_
  refine k_callV (As := [.int (μ (p1 + 7) (x2).toNatClampNeg), .int (x3 * (μ (p1 + 8) (x2).toNatClampNeg))]) (rest := []) cx (m_X0_carry h) cv_X0_90 ob_BK rfl rfl rfl rfl (Nat.le_of_ble_eq_true rfl) ⟨Nat.le_of_ble_eq_true rfl, Nat.le_of_ble_eq_true rfl⟩ dX0_enterWays_15 (fun v μ1 hq => ?_)
  obtain ⟨rfl, h⟩ := hq
  refine k_aload_n cx dX0_enterWays_18 rfl rfl ?_
  refine k_aload_n cx dX0_enterWays_19 rfl rfl ?_
  refine k_get (o := some (p1 + 9)) (v := .ref (p1 + 9)) cx fl_X0_94 (ob_RQ h_p1) rfl rfl dX0_enterWays_20 ?_
  refine k_iload_n cx dX0_enterWays_23 rfl rfl ?_
  obtain ⟨hi, h⟩ := h
  refine k_iald cx (ar_RQ h_p1 9 (by decide) (by decide)) hi dX0_enterWays_24 ?_
  refine k_iload_n cx dX0_enterWays_25 rfl rfl ?_
  refine k_aload_n cx dX0_enterWays_26 rfl rfl ?_
  refine k_iload_n cx dX0_enterWays_27 rfl rfl ?_
  refine k_callV (As := [.int x2]) (rest := [.int x3, .int (μ1 (p1 + 9) (x2).toNatClampNeg), .ref p_BK]) cx (m_X5_restOf h_p1 h) cv_X0_97 (ob_RQ h_p1) rfl rfl rfl rfl (Nat.le_of_ble_eq_true rfl) ⟨Nat.le_of_ble_eq_true rfl, Nat.le_of_ble_eq_true rfl⟩ dX0_enterWays_28 (fun v μ2 hq => ?_)
  obtain ⟨z3, rfl, h⟩ := hq
  refine k_imul cx dX0_enterWays_31 ?_
  refine k_callV (As := [.int (μ1 (p1 + 9) (x2).toNatClampNeg), .int (x3 * z3)]) (rest := []) cx (m_X0_carry h) cv_X0_90 ob_BK rfl rfl rfl rfl (Nat.le_of_ble_eq_true rfl) ⟨Nat.le_of_ble_eq_true rfl, Nat.le_of_ble_eq_true rfl⟩ dX0_enterWays_32 (fun v μ4 hq => ?_)
  obtain ⟨rfl, h⟩ := hq
  exact k_ret_V cx hr hl hQ dX0_enterWays_35 h
theorem m_X0_enterWays {g : GE} {l : Launch} {μ : Mm} {q : Mm → Prop} {p1 : Nat} {x2 : Int32} {x3 : Int32} (h_p1 : isReq p1) (h : Wp_X0_enterWays p1 x2 x3 μ q) : MW g l yX0_enterWays cX0_enterWays 4 none 1 23 [.ref p_BK, .ref p1, .int x2, .int x3] μ (qV q) := by
  refine met_of (by decide) (Nat.le_of_ble_eq_true rfl) (by intro v hv; simp only [List.mem_cons, List.not_mem_nil, or_false] at hv; rcases hv with rfl | rfl | rfl | rfl <;> rfl) ?_
  intro f hfl cx hr hl hQ
  exact b_X0_enterWays_e h_p1 cx hr hl hQ (h  )
theorem dX0_enter_0 : decode cX0_enter 0 = .ok (.iconst 0, 1) := by decide +kernel
theorem dX0_enter_1 : decode cX0_enter 1 = .ok (.istore_n 3, 1) := by decide +kernel
theorem dX0_enter_2 : decode cX0_enter 2 = .ok (.iload_n 3, 1) := by decide +kernel
theorem dX0_enter_3 : decode cX0_enter 3 = .ok (.aload_n 1, 1) := by decide +kernel
theorem dX0_enter_4 : decode cX0_enter 4 = .ok (.getfield 55, 3) := by decide +kernel
theorem dX0_enter_7 : decode cX0_enter 7 = .ok (.if_icmp .ge 26, 3) := by decide +kernel
theorem dX0_enter_10 : decode cX0_enter 10 = .ok (.aload_n 0, 1) := by decide +kernel
theorem dX0_enter_11 : decode cX0_enter 11 = .ok (.aload_n 1, 1) := by decide +kernel
theorem dX0_enter_12 : decode cX0_enter 12 = .ok (.getfield 60, 3) := by decide +kernel
theorem dX0_enter_15 : decode cX0_enter 15 = .ok (.iload_n 3, 1) := by decide +kernel
theorem dX0_enter_16 : decode cX0_enter 16 = .ok (.iaload, 1) := by decide +kernel
theorem dX0_enter_17 : decode cX0_enter 17 = .ok (.aload_n 1, 1) := by decide +kernel
theorem dX0_enter_18 : decode cX0_enter 18 = .ok (.getfield 63, 3) := by decide +kernel
theorem dX0_enter_21 : decode cX0_enter 21 = .ok (.iload_n 3, 1) := by decide +kernel
theorem dX0_enter_22 : decode cX0_enter 22 = .ok (.iaload, 1) := by decide +kernel
theorem dX0_enter_23 : decode cX0_enter 23 = .ok (.iload_n 2, 1) := by decide +kernel
theorem dX0_enter_24 : decode cX0_enter 24 = .ok (.invokevirtual 66, 3) := by decide +kernel
theorem dX0_enter_27 : decode cX0_enter 27 = .ok (.iinc 3 1, 3) := by decide +kernel
theorem dX0_enter_30 : decode cX0_enter 30 = .ok (.goto (-28), 3) := by decide +kernel
theorem dX0_enter_33 : decode cX0_enter 33 = .ok (.iconst 0, 1) := by decide +kernel
theorem dX0_enter_34 : decode cX0_enter 34 = .ok (.istore_n 3, 1) := by decide +kernel
theorem dX0_enter_35 : decode cX0_enter 35 = .ok (.iload_n 3, 1) := by decide +kernel
theorem dX0_enter_36 : decode cX0_enter 36 = .ok (.aload_n 1, 1) := by decide +kernel
theorem dX0_enter_37 : decode cX0_enter 37 = .ok (.getfield 70, 3) := by decide +kernel
theorem dX0_enter_40 : decode cX0_enter 40 = .ok (.if_icmp .ge 23, 3) := by decide +kernel
theorem dX0_enter_43 : decode cX0_enter 43 = .ok (.aload_n 0, 1) := by decide +kernel
theorem dX0_enter_44 : decode cX0_enter 44 = .ok (.aload_n 1, 1) := by decide +kernel
theorem dX0_enter_45 : decode cX0_enter 45 = .ok (.iload_n 3, 1) := by decide +kernel
theorem dX0_enter_46 : decode cX0_enter 46 = .ok (.iload_n 2, 1) := by decide +kernel
theorem dX0_enter_47 : decode cX0_enter 47 = .ok (.invokevirtual 73, 3) := by decide +kernel
theorem dX0_enter_50 : decode cX0_enter 50 = .ok (.aload_n 0, 1) := by decide +kernel
theorem dX0_enter_51 : decode cX0_enter 51 = .ok (.aload_n 1, 1) := by decide +kernel
theorem dX0_enter_52 : decode cX0_enter 52 = .ok (.iload_n 3, 1) := by decide +kernel
theorem dX0_enter_53 : decode cX0_enter 53 = .ok (.iload_n 2, 1) := by decide +kernel
theorem dX0_enter_54 : decode cX0_enter 54 = .ok (.invokevirtual 77, 3) := by decide +kernel
theorem dX0_enter_57 : decode cX0_enter 57 = .ok (.iinc 3 1, 3) := by decide +kernel
theorem dX0_enter_60 : decode cX0_enter 60 = .ok (.goto (-25), 3) := by decide +kernel
theorem dX0_enter_63 : decode cX0_enter 63 = .ok (.return_, 1) := by decide +kernel
def F_X0_enter_2 (p1 : Nat) (K2 : Int32 → Int32 → Mm → Prop) (K35 : Int32 → Int32 → Mm → Prop) (q : Mm → Prop) (x2 : Int32) (x3 : Int32) (μ : Mm) : Prop :=
  (((μ p1 10) ≤ x3 → K35 x2 (0 : Int32) μ) ∧ (¬ ((μ p1 10) ≤ x3) → vp_in x3 3 ∧ vp_in x3 3 ∧ Wp_X0_enterPart (μ (p1 + 3) (x3).toNatClampNeg) (μ (p1 + 1) (x3).toNatClampNeg) x2 μ (fun μ1 => K2 x2 (x3 + (1 : Int32)) μ1)))
def F_X0_enter_35 (p1 : Nat) (K2 : Int32 → Int32 → Mm → Prop) (K35 : Int32 → Int32 → Mm → Prop) (q : Mm → Prop) (x2 : Int32) (x3 : Int32) (μ : Mm) : Prop :=
  (((μ p1 11) ≤ x3 → q μ) ∧ (¬ ((μ p1 11) ≤ x3) → Wp_X0_enterWays p1 x3 x2 μ (fun μ1 => Wp_X0_enterSecondWay p1 x3 x2 μ1 (fun μ2 => K35 x2 (x3 + (1 : Int32)) μ2))))
def F_X0_enter_e (p1 : Nat) (K2 : Int32 → Int32 → Mm → Prop) (K35 : Int32 → Int32 → Mm → Prop) (q : Mm → Prop) (x2 : Int32) (μ : Mm) : Prop :=
  K2 x2 (0 : Int32) μ
def Wp_X0_enter (p1 : Nat) (x2 : Int32) (μ : Mm) (q : Mm → Prop) : Prop := ∀ (K2 : Int32 → Int32 → Mm → Prop) (K35 : Int32 → Int32 → Mm → Prop), (∀ (x2 : Int32) (x3 : Int32) (μ : Mm), F_X0_enter_2 p1 K2 K35 q x2 x3 μ → K2 x2 x3 μ) → (∀ (x2 : Int32) (x3 : Int32) (μ : Mm), F_X0_enter_35 p1 K2 K35 q x2 x3 μ → K35 x2 x3 μ) → F_X0_enter_e p1 K2 K35 q x2 μ
abbrev KK_X0_enter_2 (g : GE) (f : FE) (p1 : Nat) : Int32 → Int32 → Mm → Prop := fun x2 x3 μ => KW g f 4 0 0 2 [some (.ref p_BK), some (.ref p1), some (.int x2), some (.int x3)] [] μ
abbrev KK_X0_enter_35 (g : GE) (f : FE) (p1 : Nat) : Int32 → Int32 → Mm → Prop := fun x2 x3 μ => KW g f 4 0 0 35 [some (.ref p_BK), some (.ref p1), some (.int x2), some (.int x3)] [] μ
set_option maxHeartbeats 2000000 in
theorem b_X0_enter_2 {p1 : Nat} (h_p1 : isReq p1) {g : GE} {f : FE} {q : Mm → Prop} (cx : Cx g f cX0_enter 4 RX0 3 70 0 0) (hr : (f_M f).sig.returnType = none) (hl : (f_M f).locks = false) (hQ : f_Q f = MQ (f_b f) (QW g (qV q)) (f_a f) (f_s f) 0 0 (fun q => g.2.2.2 ≤ q))  {x2 : Int32} {x3 : Int32} {μ : Mm} (h : F_X0_enter_2 p1 (KK_X0_enter_2 g f p1) (KK_X0_enter_35 g f p1) q x2 x3 μ) : KK_X0_enter_2 g f p1 x2 x3 μ := by
  unfold F_X0_enter_2 at h
  show KW g f 4 0 0 2 [some (.ref p_BK), some (.ref p1), some (.int x2), some (.int x3)] [] μ
  refine k_iload_n cx dX0_enter_2 rfl rfl ?_
  refine k_aload_n cx dX0_enter_3 rfl rfl ?_
  refine k_get (o := none) (v := .int (μ p1 10)) cx fl_X0_55 (ob_RQ h_p1) rfl rfl dX0_enter_4 ?_
  refine k_icmp_ge (tgt := 33) cx dX0_enter_7 (by decide) (fun hc => ?_) (fun hc => ?_)
  · replace h := h.1 hc
    refine k_iconst (v := (0 : Int32)) cx dX0_enter_33 (by decide +kernel) ?_
    refine k_istore_n cx dX0_enter_34 rfl (by decide) ?_
    exact k_weak h (lsLe.keep (lsLe.keep (lsLe.keep (lsLe.keep lsLe.nil))))
  · replace h := h.2 hc
    refine k_aload_n cx dX0_enter_10 rfl rfl ?_
    refine k_aload_n cx dX0_enter_11 rfl rfl ?_
    refine k_get (o := some (p1 + 3)) (v := .ref (p1 + 3)) cx fl_X0_60 (ob_RQ h_p1) rfl rfl dX0_enter_12 ?_
    refine k_iload_n cx dX0_enter_15 rfl rfl ?_
    obtain ⟨hi, h⟩ := h
    refine k_iald cx (ar_RQ h_p1 3 (by decide) (by decide)) hi dX0_enter_16 ?_
    refine k_aload_n cx dX0_enter_17 rfl rfl ?_
    refine k_get (o := some (p1 + 1)) (v := .ref (p1 + 1)) cx fl_X0_63 (ob_RQ h_p1) rfl rfl dX0_enter_18 ?_
    refine k_iload_n cx dX0_enter_21 rfl rfl ?_
    obtain ⟨hi, h⟩ := h
    refine k_iald cx (ar_RQ h_p1 1 (by decide) (by decide)) hi dX0_enter_22 ?_
    refine k_iload_n cx dX0_enter_23 rfl rfl ?_
    refine k_callV (As := [.int (μ (p1 + 3) (x3).toNatClampNeg), .int (μ (p1 + 1) (x3).toNatClampNeg), .int x2]) (rest := []) cx (m_X0_enterPart h) cv_X0_66 ob_BK rfl rfl rfl rfl (Nat.le_of_ble_eq_true rfl) ⟨Nat.le_of_ble_eq_true rfl, Nat.le_of_ble_eq_true rfl⟩ dX0_enter_24 (fun v μ1 hq => ?_)
    obtain ⟨rfl, h⟩ := hq
    refine k_iinc (v := (x3 + (1 : Int32))) cx dX0_enter_27 rfl rfl (by decide) ?_
    refine k_goto (tgt := 2) cx dX0_enter_30 (by decide) ?_
    exact k_weak h (lsLe.keep (lsLe.keep (lsLe.keep (lsLe.keep lsLe.nil))))
set_option maxHeartbeats 2000000 in
theorem b_X0_enter_35 {p1 : Nat} (h_p1 : isReq p1) {g : GE} {f : FE} {q : Mm → Prop} (cx : Cx g f cX0_enter 4 RX0 3 70 0 0) (hr : (f_M f).sig.returnType = none) (hl : (f_M f).locks = false) (hQ : f_Q f = MQ (f_b f) (QW g (qV q)) (f_a f) (f_s f) 0 0 (fun q => g.2.2.2 ≤ q))  {x2 : Int32} {x3 : Int32} {μ : Mm} (h : F_X0_enter_35 p1 (KK_X0_enter_2 g f p1) (KK_X0_enter_35 g f p1) q x2 x3 μ) : KK_X0_enter_35 g f p1 x2 x3 μ := by
  unfold F_X0_enter_35 at h
  show KW g f 4 0 0 35 [some (.ref p_BK), some (.ref p1), some (.int x2), some (.int x3)] [] μ
  refine k_iload_n cx dX0_enter_35 rfl rfl ?_
  refine k_aload_n cx dX0_enter_36 rfl rfl ?_
  refine k_get (o := none) (v := .int (μ p1 11)) cx fl_X0_70 (ob_RQ h_p1) rfl rfl dX0_enter_37 ?_
  refine k_icmp_ge (tgt := 63) cx dX0_enter_40 (by decide) (fun hc => ?_) (fun hc => ?_)
  · replace h := h.1 hc
    exact k_ret_V cx hr hl hQ dX0_enter_63 h
  · replace h := h.2 hc
    refine k_aload_n cx dX0_enter_43 rfl rfl ?_
    refine k_aload_n cx dX0_enter_44 rfl rfl ?_
    refine k_iload_n cx dX0_enter_45 rfl rfl ?_
    refine k_iload_n cx dX0_enter_46 rfl rfl ?_
    refine k_callV (As := [.ref p1, .int x3, .int x2]) (rest := []) cx (m_X0_enterWays h_p1 h) cv_X0_73 ob_BK rfl rfl rfl rfl (Nat.le_of_ble_eq_true rfl) ⟨Nat.le_of_ble_eq_true rfl, Nat.le_of_ble_eq_true rfl⟩ dX0_enter_47 (fun v μ1 hq => ?_)
    obtain ⟨rfl, h⟩ := hq
    refine k_aload_n cx dX0_enter_50 rfl rfl ?_
    refine k_aload_n cx dX0_enter_51 rfl rfl ?_
    refine k_iload_n cx dX0_enter_52 rfl rfl ?_
    refine k_iload_n cx dX0_enter_53 rfl rfl ?_
    refine k_callV (As := [.ref p1, .int x3, .int x2]) (rest := []) cx (m_X0_enterSecondWay h_p1 h) cv_X0_77 ob_BK rfl rfl rfl rfl (Nat.le_of_ble_eq_true rfl) ⟨Nat.le_of_ble_eq_true rfl, Nat.le_of_ble_eq_true rfl⟩ dX0_enter_54 (fun v μ2 hq => ?_)
    obtain ⟨rfl, h⟩ := hq
    refine k_iinc (v := (x3 + (1 : Int32))) cx dX0_enter_57 rfl rfl (by decide) ?_
    refine k_goto (tgt := 35) cx dX0_enter_60 (by decide) ?_
    exact k_weak h (lsLe.keep (lsLe.keep (lsLe.keep (lsLe.keep lsLe.nil))))
set_option maxHeartbeats 2000000 in
theorem b_X0_enter_e {p1 : Nat} (h_p1 : isReq p1) {g : GE} {f : FE} {q : Mm → Prop} (cx : Cx g f cX0_enter 4 RX0 3 70 0 0) (hr : (f_M f).sig.returnType = none) (hl : (f_M f).locks = false) (hQ : f_Q f = MQ (f_b f) (QW g (qV q)) (f_a f) (f_s f) 0 0 (fun q => g.2.2.2 ≤ q))  {x2 : Int32} {μ : Mm} (h : F_X0_enter_e p1 (KK_X0_enter_2 g f p1) (KK_X0_enter_35 g f p1) q x2 μ) : KW g f 4 0 0 0 [some (.ref p_BK), some (.ref p1), some (.int x2), none] [] μ := by
  unfold F_X0_enter_e at h
  refine k_iconst (v := (0 : Int32)) cx dX0_enter_0 (by decide +kernel) ?_
  refine k_istore_n cx dX0_enter_1 rfl (by decide) ?_
  exact k_weak h (lsLe.keep (lsLe.keep (lsLe.keep (lsLe.keep lsLe.nil))))
theorem m_X0_enter {g : GE} {l : Launch} {μ : Mm} {q : Mm → Prop} {p1 : Nat} {x2 : Int32} (h_p1 : isReq p1) (h : Wp_X0_enter p1 x2 μ q) : MW g l yX0_enter cX0_enter 4 none 3 70 [.ref p_BK, .ref p1, .int x2] μ (qV q) := by
  refine met_of (by decide) (Nat.le_of_ble_eq_true rfl) (by intro v hv; simp only [List.mem_cons, List.not_mem_nil, or_false] at hv; rcases hv with rfl | rfl | rfl <;> rfl) ?_
  intro f hfl cx hr hl hQ
  exact b_X0_enter_e h_p1 cx hr hl hQ (h (KK_X0_enter_2 g f p1) (KK_X0_enter_35 g f p1) (fun _ _ _ h => b_X0_enter_2 h_p1 cx hr hl hQ h) (fun _ _ _ h => b_X0_enter_35 h_p1 cx hr hl hQ h))
theorem dX0_leftAtNode_0 : decode cX0_leftAtNode 0 = .ok (.aload_n 0, 1) := by decide +kernel
theorem dX0_leftAtNode_1 : decode cX0_leftAtNode 1 = .ok (.getfield 29, 3) := by decide +kernel
theorem dX0_leftAtNode_4 : decode cX0_leftAtNode 4 = .ok (.getfield 33, 3) := by decide +kernel
theorem dX0_leftAtNode_7 : decode cX0_leftAtNode 7 = .ok (.iload_n 1, 1) := by decide +kernel
theorem dX0_leftAtNode_8 : decode cX0_leftAtNode 8 = .ok (.iaload, 1) := by decide +kernel
theorem dX0_leftAtNode_9 : decode cX0_leftAtNode 9 = .ok (.aload_n 0, 1) := by decide +kernel
theorem dX0_leftAtNode_10 : decode cX0_leftAtNode 10 = .ok (.getfield 9, 3) := by decide +kernel
theorem dX0_leftAtNode_13 : decode cX0_leftAtNode 13 = .ok (.iload_n 1, 1) := by decide +kernel
theorem dX0_leftAtNode_14 : decode cX0_leftAtNode 14 = .ok (.iaload, 1) := by decide +kernel
theorem dX0_leftAtNode_15 : decode cX0_leftAtNode 15 = .ok (.isub, 1) := by decide +kernel
theorem dX0_leftAtNode_16 : decode cX0_leftAtNode 16 = .ok (.ireturn, 1) := by decide +kernel
def F_X0_leftAtNode_e   (q : Int32 → Mm → Prop) (x1 : Int32) (μ : Mm) : Prop :=
  vp_in x1 6 ∧ vp_in x1 6 ∧ q ((μ p_GR_nodeRooms (x1).toNatClampNeg) - (μ p_BK_nodeNeeds (x1).toNatClampNeg)) μ
def Wp_X0_leftAtNode  (x1 : Int32) (μ : Mm) (q : Int32 → Mm → Prop) : Prop := F_X0_leftAtNode_e   q x1 μ
set_option maxHeartbeats 2000000 in
theorem b_X0_leftAtNode_e  {g : GE} {f : FE} {q : Int32 → Mm → Prop} (cx : Cx g f cX0_leftAtNode 2 RX0 0 0 0 0) (hr : (f_M f).sig.returnType = (some .int)) (hl : (f_M f).locks = false) (hQ : f_Q f = MQ (f_b f) (QW g (qI q)) (f_a f) (f_s f) 0 0 (fun q => g.2.2.2 ≤ q))  {x1 : Int32} {μ : Mm} (h : F_X0_leftAtNode_e   q x1 μ) : KW g f 2 0 0 0 [some (.ref p_BK), some (.int x1)] [] μ := by
  unfold F_X0_leftAtNode_e at h
  refine k_aload_n cx dX0_leftAtNode_0 rfl rfl ?_
  refine k_get (o := some p_GR) (v := .ref p_GR) cx fl_X0_29 ob_BK rfl rfl dX0_leftAtNode_1 ?_
  refine k_get (o := some p_GR_nodeRooms) (v := .ref p_GR_nodeRooms) cx fl_X0_33 ob_GR rfl rfl dX0_leftAtNode_4 ?_
  refine k_iload_n cx dX0_leftAtNode_7 rfl rfl ?_
  obtain ⟨hi, h⟩ := h
  refine k_iald cx ar_GR_nodeRooms hi dX0_leftAtNode_8 ?_
  refine k_aload_n cx dX0_leftAtNode_9 rfl rfl ?_
  refine k_get (o := some p_BK_nodeNeeds) (v := .ref p_BK_nodeNeeds) cx fl_X0_9 ob_BK rfl rfl dX0_leftAtNode_10 ?_
  refine k_iload_n cx dX0_leftAtNode_13 rfl rfl ?_
  obtain ⟨hi, h⟩ := h
  refine k_iald cx ar_BK_nodeNeeds hi dX0_leftAtNode_14 ?_
  refine k_isub cx dX0_leftAtNode_15 ?_
  exact k_ret_I cx hr hl hQ dX0_leftAtNode_16 h
theorem m_X0_leftAtNode {g : GE} {l : Launch} {μ : Mm} {q : Int32 → Mm → Prop} {x1 : Int32}  (h : Wp_X0_leftAtNode  x1 μ q) : MW g l yX0_leftAtNode cX0_leftAtNode 2 (some .int) 0 0 [.ref p_BK, .int x1] μ (qI q) := by
  refine met_of (by decide) (Nat.le_of_ble_eq_true rfl) (by intro v hv; simp only [List.mem_cons, List.not_mem_nil, or_false] at hv; rcases hv with rfl | rfl <;> rfl) ?_
  intro f hfl cx hr hl hQ
  exact b_X0_leftAtNode_e  cx hr hl hQ (h  )
theorem dX0_leftOnLink_0 : decode cX0_leftOnLink 0 = .ok (.aload_n 0, 1) := by decide +kernel
theorem dX0_leftOnLink_1 : decode cX0_leftOnLink 1 = .ok (.getfield 29, 3) := by decide +kernel
theorem dX0_leftOnLink_4 : decode cX0_leftOnLink 4 = .ok (.getfield 38, 3) := by decide +kernel
theorem dX0_leftOnLink_7 : decode cX0_leftOnLink 7 = .ok (.iload_n 1, 1) := by decide +kernel
theorem dX0_leftOnLink_8 : decode cX0_leftOnLink 8 = .ok (.iaload, 1) := by decide +kernel
theorem dX0_leftOnLink_9 : decode cX0_leftOnLink 9 = .ok (.aload_n 0, 1) := by decide +kernel
theorem dX0_leftOnLink_10 : decode cX0_leftOnLink 10 = .ok (.getfield 18, 3) := by decide +kernel
theorem dX0_leftOnLink_13 : decode cX0_leftOnLink 13 = .ok (.iload_n 1, 1) := by decide +kernel
theorem dX0_leftOnLink_14 : decode cX0_leftOnLink 14 = .ok (.iaload, 1) := by decide +kernel
theorem dX0_leftOnLink_15 : decode cX0_leftOnLink 15 = .ok (.isub, 1) := by decide +kernel
theorem dX0_leftOnLink_16 : decode cX0_leftOnLink 16 = .ok (.aload_n 0, 1) := by decide +kernel
theorem dX0_leftOnLink_17 : decode cX0_leftOnLink 17 = .ok (.getfield 21, 3) := by decide +kernel
theorem dX0_leftOnLink_20 : decode cX0_leftOnLink 20 = .ok (.iload_n 1, 1) := by decide +kernel
theorem dX0_leftOnLink_21 : decode cX0_leftOnLink 21 = .ok (.iaload, 1) := by decide +kernel
theorem dX0_leftOnLink_22 : decode cX0_leftOnLink 22 = .ok (.isub, 1) := by decide +kernel
theorem dX0_leftOnLink_23 : decode cX0_leftOnLink 23 = .ok (.ireturn, 1) := by decide +kernel
def F_X0_leftOnLink_e   (q : Int32 → Mm → Prop) (x1 : Int32) (μ : Mm) : Prop :=
  vp_in x1 9 ∧ vp_in x1 9 ∧ vp_in x1 9 ∧ q (((μ p_GR_linkRooms (x1).toNatClampNeg) - (μ p_BK_linkNeeds (x1).toNatClampNeg)) - (μ p_BK_reserved (x1).toNatClampNeg)) μ
def Wp_X0_leftOnLink  (x1 : Int32) (μ : Mm) (q : Int32 → Mm → Prop) : Prop := F_X0_leftOnLink_e   q x1 μ
set_option maxHeartbeats 2000000 in
theorem b_X0_leftOnLink_e  {g : GE} {f : FE} {q : Int32 → Mm → Prop} (cx : Cx g f cX0_leftOnLink 2 RX0 0 0 0 0) (hr : (f_M f).sig.returnType = (some .int)) (hl : (f_M f).locks = false) (hQ : f_Q f = MQ (f_b f) (QW g (qI q)) (f_a f) (f_s f) 0 0 (fun q => g.2.2.2 ≤ q))  {x1 : Int32} {μ : Mm} (h : F_X0_leftOnLink_e   q x1 μ) : KW g f 2 0 0 0 [some (.ref p_BK), some (.int x1)] [] μ := by
  unfold F_X0_leftOnLink_e at h
  refine k_aload_n cx dX0_leftOnLink_0 rfl rfl ?_
  refine k_get (o := some p_GR) (v := .ref p_GR) cx fl_X0_29 ob_BK rfl rfl dX0_leftOnLink_1 ?_
  refine k_get (o := some p_GR_linkRooms) (v := .ref p_GR_linkRooms) cx fl_X0_38 ob_GR rfl rfl dX0_leftOnLink_4 ?_
  refine k_iload_n cx dX0_leftOnLink_7 rfl rfl ?_
  obtain ⟨hi, h⟩ := h
  refine k_iald cx ar_GR_linkRooms hi dX0_leftOnLink_8 ?_
  refine k_aload_n cx dX0_leftOnLink_9 rfl rfl ?_
  refine k_get (o := some p_BK_linkNeeds) (v := .ref p_BK_linkNeeds) cx fl_X0_18 ob_BK rfl rfl dX0_leftOnLink_10 ?_
  refine k_iload_n cx dX0_leftOnLink_13 rfl rfl ?_
  obtain ⟨hi, h⟩ := h
  refine k_iald cx ar_BK_linkNeeds hi dX0_leftOnLink_14 ?_
  refine k_isub cx dX0_leftOnLink_15 ?_
  refine k_aload_n cx dX0_leftOnLink_16 rfl rfl ?_
  refine k_get (o := some p_BK_reserved) (v := .ref p_BK_reserved) cx fl_X0_21 ob_BK rfl rfl dX0_leftOnLink_17 ?_
  refine k_iload_n cx dX0_leftOnLink_20 rfl rfl ?_
  obtain ⟨hi, h⟩ := h
  refine k_iald cx ar_BK_reserved hi dX0_leftOnLink_21 ?_
  refine k_isub cx dX0_leftOnLink_22 ?_
  exact k_ret_I cx hr hl hQ dX0_leftOnLink_23 h
theorem m_X0_leftOnLink {g : GE} {l : Launch} {μ : Mm} {q : Int32 → Mm → Prop} {x1 : Int32}  (h : Wp_X0_leftOnLink  x1 μ q) : MW g l yX0_leftOnLink cX0_leftOnLink 2 (some .int) 0 0 [.ref p_BK, .int x1] μ (qI q) := by
  refine met_of (by decide) (Nat.le_of_ble_eq_true rfl) (by intro v hv; simp only [List.mem_cons, List.not_mem_nil, or_false] at hv; rcases hv with rfl | rfl <;> rfl) ?_
  intro f hfl cx hr hl hQ
  exact b_X0_leftOnLink_e  cx hr hl hQ (h  )
theorem dX0_openBehind_0 : decode cX0_openBehind 0 = .ok (.iconst 0, 1) := by decide +kernel
theorem dX0_openBehind_1 : decode cX0_openBehind 1 = .ok (.istore_n 3, 1) := by decide +kernel
theorem dX0_openBehind_2 : decode cX0_openBehind 2 = .ok (.iconst 0, 1) := by decide +kernel
theorem dX0_openBehind_3 : decode cX0_openBehind 3 = .ok (.istore 4, 2) := by decide +kernel
theorem dX0_openBehind_5 : decode cX0_openBehind 5 = .ok (.iload 4, 2) := by decide +kernel
theorem dX0_openBehind_7 : decode cX0_openBehind 7 = .ok (.aload_n 0, 1) := by decide +kernel
theorem dX0_openBehind_8 : decode cX0_openBehind 8 = .ok (.getfield 29, 3) := by decide +kernel
theorem dX0_openBehind_11 : decode cX0_openBehind 11 = .ok (.getfield 41, 3) := by decide +kernel
theorem dX0_openBehind_14 : decode cX0_openBehind 14 = .ok (.if_icmp .ge 103, 3) := by decide +kernel
theorem dX0_openBehind_17 : decode cX0_openBehind 17 = .ok (.aload_n 0, 1) := by decide +kernel
theorem dX0_openBehind_18 : decode cX0_openBehind 18 = .ok (.getfield 21, 3) := by decide +kernel
theorem dX0_openBehind_21 : decode cX0_openBehind 21 = .ok (.iload 4, 2) := by decide +kernel
theorem dX0_openBehind_23 : decode cX0_openBehind 23 = .ok (.iaload, 1) := by decide +kernel
theorem dX0_openBehind_24 : decode cX0_openBehind 24 = .ok (.istore 5, 2) := by decide +kernel
theorem dX0_openBehind_26 : decode cX0_openBehind 26 = .ok (.iconst 0, 1) := by decide +kernel
theorem dX0_openBehind_27 : decode cX0_openBehind 27 = .ok (.istore 6, 2) := by decide +kernel
theorem dX0_openBehind_29 : decode cX0_openBehind 29 = .ok (.iload 6, 2) := by decide +kernel
theorem dX0_openBehind_31 : decode cX0_openBehind 31 = .ok (.aload_n 0, 1) := by decide +kernel
theorem dX0_openBehind_32 : decode cX0_openBehind 32 = .ok (.getfield 29, 3) := by decide +kernel
theorem dX0_openBehind_35 : decode cX0_openBehind 35 = .ok (.getfield 41, 3) := by decide +kernel
theorem dX0_openBehind_38 : decode cX0_openBehind 38 = .ok (.if_icmp .ge 39, 3) := by decide +kernel
theorem dX0_openBehind_41 : decode cX0_openBehind 41 = .ok (.aload_n 0, 1) := by decide +kernel
theorem dX0_openBehind_42 : decode cX0_openBehind 42 = .ok (.getfield 26, 3) := by decide +kernel
theorem dX0_openBehind_45 : decode cX0_openBehind 45 = .ok (.iload 6, 2) := by decide +kernel
theorem dX0_openBehind_47 : decode cX0_openBehind 47 = .ok (.aaload, 1) := by decide +kernel
theorem dX0_openBehind_48 : decode cX0_openBehind 48 = .ok (.iload 4, 2) := by decide +kernel
theorem dX0_openBehind_50 : decode cX0_openBehind 50 = .ok (.iaload, 1) := by decide +kernel
theorem dX0_openBehind_51 : decode cX0_openBehind 51 = .ok (.iload_n 1, 1) := by decide +kernel
theorem dX0_openBehind_52 : decode cX0_openBehind 52 = .ok (.iload 6, 2) := by decide +kernel
theorem dX0_openBehind_54 : decode cX0_openBehind 54 = .ok (.ishr, 1) := by decide +kernel
theorem dX0_openBehind_55 : decode cX0_openBehind 55 = .ok (.iconst 1, 1) := by decide +kernel
theorem dX0_openBehind_56 : decode cX0_openBehind 56 = .ok (.iand, 1) := by decide +kernel
theorem dX0_openBehind_57 : decode cX0_openBehind 57 = .ok (.iload_n 2, 1) := by decide +kernel
theorem dX0_openBehind_58 : decode cX0_openBehind 58 = .ok (.imul, 1) := by decide +kernel
theorem dX0_openBehind_59 : decode cX0_openBehind 59 = .ok (.iadd, 1) := by decide +kernel
theorem dX0_openBehind_60 : decode cX0_openBehind 60 = .ok (.istore 7, 2) := by decide +kernel
theorem dX0_openBehind_62 : decode cX0_openBehind 62 = .ok (.iload 5, 2) := by decide +kernel
theorem dX0_openBehind_64 : decode cX0_openBehind 64 = .ok (.iload 7, 2) := by decide +kernel
theorem dX0_openBehind_66 : decode cX0_openBehind 66 = .ok (.invokestatic 49, 3) := by decide +kernel
theorem dX0_openBehind_69 : decode cX0_openBehind 69 = .ok (.istore 5, 2) := by decide +kernel
theorem dX0_openBehind_71 : decode cX0_openBehind 71 = .ok (.iinc 6 1, 3) := by decide +kernel
theorem dX0_openBehind_74 : decode cX0_openBehind 74 = .ok (.goto (-45), 3) := by decide +kernel
theorem dX0_openBehind_77 : decode cX0_openBehind 77 = .ok (.iload_n 3, 1) := by decide +kernel
theorem dX0_openBehind_78 : decode cX0_openBehind 78 = .ok (.aload_n 0, 1) := by decide +kernel
theorem dX0_openBehind_79 : decode cX0_openBehind 79 = .ok (.getfield 18, 3) := by decide +kernel
theorem dX0_openBehind_82 : decode cX0_openBehind 82 = .ok (.iload 4, 2) := by decide +kernel
theorem dX0_openBehind_84 : decode cX0_openBehind 84 = .ok (.iaload, 1) := by decide +kernel
theorem dX0_openBehind_85 : decode cX0_openBehind 85 = .ok (.iload 5, 2) := by decide +kernel
theorem dX0_openBehind_87 : decode cX0_openBehind 87 = .ok (.iadd, 1) := by decide +kernel
theorem dX0_openBehind_88 : decode cX0_openBehind 88 = .ok (.aload_n 0, 1) := by decide +kernel
theorem dX0_openBehind_89 : decode cX0_openBehind 89 = .ok (.getfield 29, 3) := by decide +kernel
theorem dX0_openBehind_92 : decode cX0_openBehind 92 = .ok (.getfield 38, 3) := by decide +kernel
theorem dX0_openBehind_95 : decode cX0_openBehind 95 = .ok (.iload 4, 2) := by decide +kernel
theorem dX0_openBehind_97 : decode cX0_openBehind 97 = .ok (.iaload, 1) := by decide +kernel
theorem dX0_openBehind_98 : decode cX0_openBehind 98 = .ok (.if_icmp .gt 10, 3) := by decide +kernel
theorem dX0_openBehind_101 : decode cX0_openBehind 101 = .ok (.iconst 1, 1) := by decide +kernel
theorem dX0_openBehind_102 : decode cX0_openBehind 102 = .ok (.iload 4, 2) := by decide +kernel
theorem dX0_openBehind_104 : decode cX0_openBehind 104 = .ok (.ishl, 1) := by decide +kernel
theorem dX0_openBehind_105 : decode cX0_openBehind 105 = .ok (.goto 4, 3) := by decide +kernel
theorem dX0_openBehind_108 : decode cX0_openBehind 108 = .ok (.iconst 0, 1) := by decide +kernel
theorem dX0_openBehind_109 : decode cX0_openBehind 109 = .ok (.ior, 1) := by decide +kernel
theorem dX0_openBehind_110 : decode cX0_openBehind 110 = .ok (.istore_n 3, 1) := by decide +kernel
theorem dX0_openBehind_111 : decode cX0_openBehind 111 = .ok (.iinc 4 1, 3) := by decide +kernel
theorem dX0_openBehind_114 : decode cX0_openBehind 114 = .ok (.goto (-109), 3) := by decide +kernel
theorem dX0_openBehind_117 : decode cX0_openBehind 117 = .ok (.iload_n 3, 1) := by decide +kernel
theorem dX0_openBehind_118 : decode cX0_openBehind 118 = .ok (.iload_n 1, 1) := by decide +kernel
theorem dX0_openBehind_119 : decode cX0_openBehind 119 = .ok (.iconst (-1), 1) := by decide +kernel
theorem dX0_openBehind_120 : decode cX0_openBehind 120 = .ok (.ixor, 1) := by decide +kernel
theorem dX0_openBehind_121 : decode cX0_openBehind 121 = .ok (.iand, 1) := by decide +kernel
theorem dX0_openBehind_122 : decode cX0_openBehind 122 = .ok (.ireturn, 1) := by decide +kernel
def F_X0_openBehind_5  (K5 : Int32 → Int32 → Int32 → Int32 → Mm → Prop) (K29 : Int32 → Int32 → Int32 → Int32 → Int32 → Int32 → Mm → Prop) (q : Int32 → Mm → Prop) (x1 : Int32) (x2 : Int32) (x3 : Int32) (x4 : Int32) (μ : Mm) : Prop :=
  (((μ p_GR 7) ≤ x4 → q (x3 &&& (x1 ^^^ (-1 : Int32))) μ) ∧ (¬ ((μ p_GR 7) ≤ x4) → vp_in x4 9 ∧ K29 x1 x2 x3 x4 (μ p_BK_reserved (x4).toNatClampNeg) (0 : Int32) μ))
def F_X0_openBehind_29  (K5 : Int32 → Int32 → Int32 → Int32 → Mm → Prop) (K29 : Int32 → Int32 → Int32 → Int32 → Int32 → Int32 → Mm → Prop) (q : Int32 → Mm → Prop) (x1 : Int32) (x2 : Int32) (x3 : Int32) (x4 : Int32) (x5 : Int32) (x6 : Int32) (μ : Mm) : Prop :=
  (((μ p_GR 7) ≤ x6 → vp_in x4 9 ∧ vp_in x4 9 ∧ (((μ p_GR_linkRooms (x4).toNatClampNeg) < ((μ p_BK_linkNeeds (x4).toNatClampNeg) + x5) → K5 x1 x2 (x3 ||| (0 : Int32)) (x4 + (1 : Int32)) μ) ∧ (¬ ((μ p_GR_linkRooms (x4).toNatClampNeg) < ((μ p_BK_linkNeeds (x4).toNatClampNeg) + x5)) → K5 x1 x2 (x3 ||| ((1 : Int32) <<< (x4 &&& 31))) (x4 + (1 : Int32)) μ))) ∧ (¬ ((μ p_GR 7) ≤ x6) → vp_in x6 9 ∧ vp_in x4 9 ∧ K29 x1 x2 x3 x4 (imax x5 ((μ (p_BH + (x6).toNatClampNeg) (x4).toNatClampNeg) + (((x1 >>> (x6 &&& 31)) &&& (1 : Int32)) * x2))) (x6 + (1 : Int32)) μ))
def F_X0_openBehind_e  (K5 : Int32 → Int32 → Int32 → Int32 → Mm → Prop) (K29 : Int32 → Int32 → Int32 → Int32 → Int32 → Int32 → Mm → Prop) (q : Int32 → Mm → Prop) (x1 : Int32) (x2 : Int32) (μ : Mm) : Prop :=
  K5 x1 x2 (0 : Int32) (0 : Int32) μ
def Wp_X0_openBehind  (x1 : Int32) (x2 : Int32) (μ : Mm) (q : Int32 → Mm → Prop) : Prop := ∀ (K5 : Int32 → Int32 → Int32 → Int32 → Mm → Prop) (K29 : Int32 → Int32 → Int32 → Int32 → Int32 → Int32 → Mm → Prop), (∀ (x1 : Int32) (x2 : Int32) (x3 : Int32) (x4 : Int32) (μ : Mm), F_X0_openBehind_5  K5 K29 q x1 x2 x3 x4 μ → K5 x1 x2 x3 x4 μ) → (∀ (x1 : Int32) (x2 : Int32) (x3 : Int32) (x4 : Int32) (x5 : Int32) (x6 : Int32) (μ : Mm), F_X0_openBehind_29  K5 K29 q x1 x2 x3 x4 x5 x6 μ → K29 x1 x2 x3 x4 x5 x6 μ) → F_X0_openBehind_e  K5 K29 q x1 x2 μ
abbrev KK_X0_openBehind_5 (g : GE) (f : FE)  : Int32 → Int32 → Int32 → Int32 → Mm → Prop := fun x1 x2 x3 x4 μ => KW g f 8 0 0 5 [some (.ref p_BK), some (.int x1), some (.int x2), some (.int x3), some (.int x4), none, none, none] [] μ
abbrev KK_X0_openBehind_29 (g : GE) (f : FE)  : Int32 → Int32 → Int32 → Int32 → Int32 → Int32 → Mm → Prop := fun x1 x2 x3 x4 x5 x6 μ => KW g f 8 0 0 29 [some (.ref p_BK), some (.int x1), some (.int x2), some (.int x3), some (.int x4), some (.int x5), some (.int x6), none] [] μ
set_option maxHeartbeats 2000000 in
theorem b_X0_openBehind_5  {g : GE} {f : FE} {q : Int32 → Mm → Prop} (cx : Cx g f cX0_openBehind 8 RX0 1 21 0 0) (hr : (f_M f).sig.returnType = (some .int)) (hl : (f_M f).locks = false) (hQ : f_Q f = MQ (f_b f) (QW g (qI q)) (f_a f) (f_s f) 0 0 (fun q => g.2.2.2 ≤ q))  {x1 : Int32} {x2 : Int32} {x3 : Int32} {x4 : Int32} {μ : Mm} (h : F_X0_openBehind_5  (KK_X0_openBehind_5 g f ) (KK_X0_openBehind_29 g f ) q x1 x2 x3 x4 μ) : KK_X0_openBehind_5 g f  x1 x2 x3 x4 μ := by
  unfold F_X0_openBehind_5 at h
  show KW g f 8 0 0 5 [some (.ref p_BK), some (.int x1), some (.int x2), some (.int x3), some (.int x4), none, none, none] [] μ
  refine k_iload cx dX0_openBehind_5 rfl ?_
  refine k_aload_n cx dX0_openBehind_7 rfl rfl ?_
  refine k_get (o := some p_GR) (v := .ref p_GR) cx fl_X0_29 ob_BK rfl rfl dX0_openBehind_8 ?_
  refine k_get (o := none) (v := .int (μ p_GR 7)) cx fl_X0_41 ob_GR rfl rfl dX0_openBehind_11 ?_
  refine k_icmp_ge (tgt := 117) cx dX0_openBehind_14 (by decide) (fun hc => ?_) (fun hc => ?_)
  · replace h := h.1 hc
    refine k_iload_n cx dX0_openBehind_117 rfl rfl ?_
    refine k_iload_n cx dX0_openBehind_118 rfl rfl ?_
    refine k_iconst (v := (-1 : Int32)) cx dX0_openBehind_119 (by decide +kernel) ?_
    refine k_ixor cx dX0_openBehind_120 ?_
    refine k_iand cx dX0_openBehind_121 ?_
    exact k_ret_I cx hr hl hQ dX0_openBehind_122 h
  · replace h := h.2 hc
    refine k_aload_n cx dX0_openBehind_17 rfl rfl ?_
    refine k_get (o := some p_BK_reserved) (v := .ref p_BK_reserved) cx fl_X0_21 ob_BK rfl rfl dX0_openBehind_18 ?_
    refine k_iload cx dX0_openBehind_21 rfl ?_
    obtain ⟨hi, h⟩ := h
    refine k_iald cx ar_BK_reserved hi dX0_openBehind_23 ?_
    refine k_istore cx dX0_openBehind_24 (by decide) ?_
    refine k_iconst (v := (0 : Int32)) cx dX0_openBehind_26 (by decide +kernel) ?_
    refine k_istore cx dX0_openBehind_27 (by decide) ?_
    exact k_weak h (lsLe.keep (lsLe.keep (lsLe.keep (lsLe.keep (lsLe.keep (lsLe.keep (lsLe.keep (lsLe.keep lsLe.nil))))))))
set_option maxHeartbeats 2000000 in
theorem b_X0_openBehind_29  {g : GE} {f : FE} {q : Int32 → Mm → Prop} (cx : Cx g f cX0_openBehind 8 RX0 1 21 0 0) (hr : (f_M f).sig.returnType = (some .int)) (hl : (f_M f).locks = false) (hQ : f_Q f = MQ (f_b f) (QW g (qI q)) (f_a f) (f_s f) 0 0 (fun q => g.2.2.2 ≤ q))  {x1 : Int32} {x2 : Int32} {x3 : Int32} {x4 : Int32} {x5 : Int32} {x6 : Int32} {μ : Mm} (h : F_X0_openBehind_29  (KK_X0_openBehind_5 g f ) (KK_X0_openBehind_29 g f ) q x1 x2 x3 x4 x5 x6 μ) : KK_X0_openBehind_29 g f  x1 x2 x3 x4 x5 x6 μ := by
  unfold F_X0_openBehind_29 at h
  show KW g f 8 0 0 29 [some (.ref p_BK), some (.int x1), some (.int x2), some (.int x3), some (.int x4), some (.int x5), some (.int x6), none] [] μ
  refine k_iload cx dX0_openBehind_29 rfl ?_
  refine k_aload_n cx dX0_openBehind_31 rfl rfl ?_
  refine k_get (o := some p_GR) (v := .ref p_GR) cx fl_X0_29 ob_BK rfl rfl dX0_openBehind_32 ?_
  refine k_get (o := none) (v := .int (μ p_GR 7)) cx fl_X0_41 ob_GR rfl rfl dX0_openBehind_35 ?_
  refine k_icmp_ge (tgt := 77) cx dX0_openBehind_38 (by decide) (fun hc => ?_) (fun hc => ?_)
  · replace h := h.1 hc
    refine k_iload_n cx dX0_openBehind_77 rfl rfl ?_
    refine k_aload_n cx dX0_openBehind_78 rfl rfl ?_
    refine k_get (o := some p_BK_linkNeeds) (v := .ref p_BK_linkNeeds) cx fl_X0_18 ob_BK rfl rfl dX0_openBehind_79 ?_
    refine k_iload cx dX0_openBehind_82 rfl ?_
    obtain ⟨hi, h⟩ := h
    refine k_iald cx ar_BK_linkNeeds hi dX0_openBehind_84 ?_
    refine k_iload cx dX0_openBehind_85 rfl ?_
    refine k_iadd cx dX0_openBehind_87 ?_
    refine k_aload_n cx dX0_openBehind_88 rfl rfl ?_
    refine k_get (o := some p_GR) (v := .ref p_GR) cx fl_X0_29 ob_BK rfl rfl dX0_openBehind_89 ?_
    refine k_get (o := some p_GR_linkRooms) (v := .ref p_GR_linkRooms) cx fl_X0_38 ob_GR rfl rfl dX0_openBehind_92 ?_
    refine k_iload cx dX0_openBehind_95 rfl ?_
    obtain ⟨hi, h⟩ := h
    refine k_iald cx ar_GR_linkRooms hi dX0_openBehind_97 ?_
    refine k_icmp_gt (tgt := 108) cx dX0_openBehind_98 (by decide) (fun hc => ?_) (fun hc => ?_)
    · replace h := h.1 hc
      refine k_iconst (v := (0 : Int32)) cx dX0_openBehind_108 (by decide +kernel) ?_
      refine k_ior cx dX0_openBehind_109 ?_
      refine k_istore_n cx dX0_openBehind_110 rfl (by decide) ?_
      refine k_iinc (v := (x4 + (1 : Int32))) cx dX0_openBehind_111 rfl rfl (by decide) ?_
      refine k_goto (tgt := 5) cx dX0_openBehind_114 (by decide) ?_
      exact k_weak h (lsLe.keep (lsLe.keep (lsLe.keep (lsLe.keep (lsLe.keep (lsLe.drop (lsLe.drop (lsLe.keep lsLe.nil))))))))
    · replace h := h.2 hc
      refine k_iconst (v := (1 : Int32)) cx dX0_openBehind_101 (by decide +kernel) ?_
      refine k_iload cx dX0_openBehind_102 rfl ?_
      refine k_ishl cx dX0_openBehind_104 ?_
      refine k_goto (tgt := 109) cx dX0_openBehind_105 (by decide) ?_
      refine k_ior cx dX0_openBehind_109 ?_
      refine k_istore_n cx dX0_openBehind_110 rfl (by decide) ?_
      refine k_iinc (v := (x4 + (1 : Int32))) cx dX0_openBehind_111 rfl rfl (by decide) ?_
      refine k_goto (tgt := 5) cx dX0_openBehind_114 (by decide) ?_
      exact k_weak h (lsLe.keep (lsLe.keep (lsLe.keep (lsLe.keep (lsLe.keep (lsLe.drop (lsLe.drop (lsLe.keep lsLe.nil))))))))
  · replace h := h.2 hc
    refine k_aload_n cx dX0_openBehind_41 rfl rfl ?_
    refine k_get (o := some p_BK_behind) (v := .ref p_BK_behind) cx fl_X0_26 ob_BK rfl rfl dX0_openBehind_42 ?_
    refine k_iload cx dX0_openBehind_45 rfl ?_
    obtain ⟨hi1, h⟩ := h
    refine k_aald_BK_behind cx hi1 dX0_openBehind_47 ?_
    refine k_iload cx dX0_openBehind_48 rfl ?_
    obtain ⟨hi, h⟩ := h
    refine k_iald cx (ar_BH hi1) hi dX0_openBehind_50 ?_
    refine k_iload_n cx dX0_openBehind_51 rfl rfl ?_
    refine k_iload cx dX0_openBehind_52 rfl ?_
    refine k_ishr cx dX0_openBehind_54 ?_
    refine k_iconst (v := (1 : Int32)) cx dX0_openBehind_55 (by decide +kernel) ?_
    refine k_iand cx dX0_openBehind_56 ?_
    refine k_iload_n cx dX0_openBehind_57 rfl rfl ?_
    refine k_imul cx dX0_openBehind_58 ?_
    refine k_iadd cx dX0_openBehind_59 ?_
    refine k_istore cx dX0_openBehind_60 (by decide) ?_
    refine k_iload cx dX0_openBehind_62 rfl ?_
    refine k_iload cx dX0_openBehind_64 rfl ?_
    refine k_mmax cx mm_X0_49 (Nat.le_of_ble_eq_true rfl) (Nat.le_of_ble_eq_true rfl) (Nat.le_of_ble_eq_true rfl) dX0_openBehind_66 ?_
    refine k_istore cx dX0_openBehind_69 (by decide) ?_
    refine k_iinc (v := (x6 + (1 : Int32))) cx dX0_openBehind_71 rfl rfl (by decide) ?_
    refine k_goto (tgt := 29) cx dX0_openBehind_74 (by decide) ?_
    exact k_weak h (lsLe.keep (lsLe.keep (lsLe.keep (lsLe.keep (lsLe.keep (lsLe.keep (lsLe.keep (lsLe.drop lsLe.nil))))))))
set_option maxHeartbeats 2000000 in
theorem b_X0_openBehind_e  {g : GE} {f : FE} {q : Int32 → Mm → Prop} (cx : Cx g f cX0_openBehind 8 RX0 1 21 0 0) (hr : (f_M f).sig.returnType = (some .int)) (hl : (f_M f).locks = false) (hQ : f_Q f = MQ (f_b f) (QW g (qI q)) (f_a f) (f_s f) 0 0 (fun q => g.2.2.2 ≤ q))  {x1 : Int32} {x2 : Int32} {μ : Mm} (h : F_X0_openBehind_e  (KK_X0_openBehind_5 g f ) (KK_X0_openBehind_29 g f ) q x1 x2 μ) : KW g f 8 0 0 0 [some (.ref p_BK), some (.int x1), some (.int x2), none, none, none, none, none] [] μ := by
  unfold F_X0_openBehind_e at h
  refine k_iconst (v := (0 : Int32)) cx dX0_openBehind_0 (by decide +kernel) ?_
  refine k_istore_n cx dX0_openBehind_1 rfl (by decide) ?_
  refine k_iconst (v := (0 : Int32)) cx dX0_openBehind_2 (by decide +kernel) ?_
  refine k_istore cx dX0_openBehind_3 (by decide) ?_
  exact k_weak h (lsLe.keep (lsLe.keep (lsLe.keep (lsLe.keep (lsLe.keep (lsLe.keep (lsLe.keep (lsLe.keep lsLe.nil))))))))
theorem m_X0_openBehind {g : GE} {l : Launch} {μ : Mm} {q : Int32 → Mm → Prop} {x1 : Int32} {x2 : Int32}  (h : Wp_X0_openBehind  x1 x2 μ q) : MW g l yX0_openBehind cX0_openBehind 8 (some .int) 1 21 [.ref p_BK, .int x1, .int x2] μ (qI q) := by
  refine met_of (by decide) (Nat.le_of_ble_eq_true rfl) (by intro v hv; simp only [List.mem_cons, List.not_mem_nil, or_false] at hv; rcases hv with rfl | rfl | rfl <;> rfl) ?_
  intro f hfl cx hr hl hQ
  exact b_X0_openBehind_e  cx hr hl hQ (h (KK_X0_openBehind_5 g f ) (KK_X0_openBehind_29 g f ) (fun _ _ _ _ _ h => b_X0_openBehind_5  cx hr hl hQ h) (fun _ _ _ _ _ _ _ h => b_X0_openBehind_29  cx hr hl hQ h))
theorem dX0_openFor_0 : decode cX0_openFor 0 = .ok (.iconst 0, 1) := by decide +kernel
theorem dX0_openFor_1 : decode cX0_openFor 1 = .ok (.istore_n 2, 1) := by decide +kernel
theorem dX0_openFor_2 : decode cX0_openFor 2 = .ok (.iconst 0, 1) := by decide +kernel
theorem dX0_openFor_3 : decode cX0_openFor 3 = .ok (.istore_n 3, 1) := by decide +kernel
theorem dX0_openFor_4 : decode cX0_openFor 4 = .ok (.iload_n 3, 1) := by decide +kernel
theorem dX0_openFor_5 : decode cX0_openFor 5 = .ok (.aload_n 0, 1) := by decide +kernel
theorem dX0_openFor_6 : decode cX0_openFor 6 = .ok (.getfield 29, 3) := by decide +kernel
theorem dX0_openFor_9 : decode cX0_openFor 9 = .ok (.getfield 41, 3) := by decide +kernel
theorem dX0_openFor_12 : decode cX0_openFor 12 = .ok (.if_icmp .ge 28, 3) := by decide +kernel
theorem dX0_openFor_15 : decode cX0_openFor 15 = .ok (.iload_n 2, 1) := by decide +kernel
theorem dX0_openFor_16 : decode cX0_openFor 16 = .ok (.aload_n 0, 1) := by decide +kernel
theorem dX0_openFor_17 : decode cX0_openFor 17 = .ok (.iload_n 3, 1) := by decide +kernel
theorem dX0_openFor_18 : decode cX0_openFor 18 = .ok (.invokevirtual 45, 3) := by decide +kernel
theorem dX0_openFor_21 : decode cX0_openFor 21 = .ok (.iload_n 1, 1) := by decide +kernel
theorem dX0_openFor_22 : decode cX0_openFor 22 = .ok (.if_icmp .lt 9, 3) := by decide +kernel
theorem dX0_openFor_25 : decode cX0_openFor 25 = .ok (.iconst 1, 1) := by decide +kernel
theorem dX0_openFor_26 : decode cX0_openFor 26 = .ok (.iload_n 3, 1) := by decide +kernel
theorem dX0_openFor_27 : decode cX0_openFor 27 = .ok (.ishl, 1) := by decide +kernel
theorem dX0_openFor_28 : decode cX0_openFor 28 = .ok (.goto 4, 3) := by decide +kernel
theorem dX0_openFor_31 : decode cX0_openFor 31 = .ok (.iconst 0, 1) := by decide +kernel
theorem dX0_openFor_32 : decode cX0_openFor 32 = .ok (.ior, 1) := by decide +kernel
theorem dX0_openFor_33 : decode cX0_openFor 33 = .ok (.istore_n 2, 1) := by decide +kernel
theorem dX0_openFor_34 : decode cX0_openFor 34 = .ok (.iinc 3 1, 3) := by decide +kernel
theorem dX0_openFor_37 : decode cX0_openFor 37 = .ok (.goto (-33), 3) := by decide +kernel
theorem dX0_openFor_40 : decode cX0_openFor 40 = .ok (.iload_n 2, 1) := by decide +kernel
theorem dX0_openFor_41 : decode cX0_openFor 41 = .ok (.ireturn, 1) := by decide +kernel
def F_X0_openFor_4  (K4 : Int32 → Int32 → Int32 → Mm → Prop) (q : Int32 → Mm → Prop) (x1 : Int32) (x2 : Int32) (x3 : Int32) (μ : Mm) : Prop :=
  (((μ p_GR 7) ≤ x3 → q x2 μ) ∧ (¬ ((μ p_GR 7) ≤ x3) → Wp_X0_leftOnLink x3 μ (fun z2 μ1 => ((z2 < x1 → K4 x1 (x2 ||| (0 : Int32)) (x3 + (1 : Int32)) μ1) ∧ (¬ (z2 < x1) → K4 x1 (x2 ||| ((1 : Int32) <<< (x3 &&& 31))) (x3 + (1 : Int32)) μ1)))))
def F_X0_openFor_e  (K4 : Int32 → Int32 → Int32 → Mm → Prop) (q : Int32 → Mm → Prop) (x1 : Int32) (μ : Mm) : Prop :=
  K4 x1 (0 : Int32) (0 : Int32) μ
def Wp_X0_openFor  (x1 : Int32) (μ : Mm) (q : Int32 → Mm → Prop) : Prop := ∀ (K4 : Int32 → Int32 → Int32 → Mm → Prop), (∀ (x1 : Int32) (x2 : Int32) (x3 : Int32) (μ : Mm), F_X0_openFor_4  K4 q x1 x2 x3 μ → K4 x1 x2 x3 μ) → F_X0_openFor_e  K4 q x1 μ
abbrev KK_X0_openFor_4 (g : GE) (f : FE)  : Int32 → Int32 → Int32 → Mm → Prop := fun x1 x2 x3 μ => KW g f 4 0 0 4 [some (.ref p_BK), some (.int x1), some (.int x2), some (.int x3)] [] μ
set_option maxHeartbeats 2000000 in
theorem b_X0_openFor_4  {g : GE} {f : FE} {q : Int32 → Mm → Prop} (cx : Cx g f cX0_openFor 4 RX0 1 21 0 0) (hr : (f_M f).sig.returnType = (some .int)) (hl : (f_M f).locks = false) (hQ : f_Q f = MQ (f_b f) (QW g (qI q)) (f_a f) (f_s f) 0 0 (fun q => g.2.2.2 ≤ q))  {x1 : Int32} {x2 : Int32} {x3 : Int32} {μ : Mm} (h : F_X0_openFor_4  (KK_X0_openFor_4 g f ) q x1 x2 x3 μ) : KK_X0_openFor_4 g f  x1 x2 x3 μ := by
  unfold F_X0_openFor_4 at h
  show KW g f 4 0 0 4 [some (.ref p_BK), some (.int x1), some (.int x2), some (.int x3)] [] μ
  refine k_iload_n cx dX0_openFor_4 rfl rfl ?_
  refine k_aload_n cx dX0_openFor_5 rfl rfl ?_
  refine k_get (o := some p_GR) (v := .ref p_GR) cx fl_X0_29 ob_BK rfl rfl dX0_openFor_6 ?_
  refine k_get (o := none) (v := .int (μ p_GR 7)) cx fl_X0_41 ob_GR rfl rfl dX0_openFor_9 ?_
  refine k_icmp_ge (tgt := 40) cx dX0_openFor_12 (by decide) (fun hc => ?_) (fun hc => ?_)
  · replace h := h.1 hc
    refine k_iload_n cx dX0_openFor_40 rfl rfl ?_
    exact k_ret_I cx hr hl hQ dX0_openFor_41 h
  · replace h := h.2 hc
    refine k_iload_n cx dX0_openFor_15 rfl rfl ?_
    refine k_aload_n cx dX0_openFor_16 rfl rfl ?_
    refine k_iload_n cx dX0_openFor_17 rfl rfl ?_
    refine k_callV (As := [.int x3]) (rest := [.int x2]) cx (m_X0_leftOnLink h) cv_X0_45 ob_BK rfl rfl rfl rfl (Nat.le_of_ble_eq_true rfl) ⟨Nat.le_of_ble_eq_true rfl, Nat.le_of_ble_eq_true rfl⟩ dX0_openFor_18 (fun v μ1 hq => ?_)
    obtain ⟨z2, rfl, h⟩ := hq
    refine k_iload_n cx dX0_openFor_21 rfl rfl ?_
    refine k_icmp_lt (tgt := 31) cx dX0_openFor_22 (by decide) (fun hc => ?_) (fun hc => ?_)
    · replace h := h.1 hc
      refine k_iconst (v := (0 : Int32)) cx dX0_openFor_31 (by decide +kernel) ?_
      refine k_ior cx dX0_openFor_32 ?_
      refine k_istore_n cx dX0_openFor_33 rfl (by decide) ?_
      refine k_iinc (v := (x3 + (1 : Int32))) cx dX0_openFor_34 rfl rfl (by decide) ?_
      refine k_goto (tgt := 4) cx dX0_openFor_37 (by decide) ?_
      exact k_weak h (lsLe.keep (lsLe.keep (lsLe.keep (lsLe.keep lsLe.nil))))
    · replace h := h.2 hc
      refine k_iconst (v := (1 : Int32)) cx dX0_openFor_25 (by decide +kernel) ?_
      refine k_iload_n cx dX0_openFor_26 rfl rfl ?_
      refine k_ishl cx dX0_openFor_27 ?_
      refine k_goto (tgt := 32) cx dX0_openFor_28 (by decide) ?_
      refine k_ior cx dX0_openFor_32 ?_
      refine k_istore_n cx dX0_openFor_33 rfl (by decide) ?_
      refine k_iinc (v := (x3 + (1 : Int32))) cx dX0_openFor_34 rfl rfl (by decide) ?_
      refine k_goto (tgt := 4) cx dX0_openFor_37 (by decide) ?_
      exact k_weak h (lsLe.keep (lsLe.keep (lsLe.keep (lsLe.keep lsLe.nil))))
set_option maxHeartbeats 2000000 in
theorem b_X0_openFor_e  {g : GE} {f : FE} {q : Int32 → Mm → Prop} (cx : Cx g f cX0_openFor 4 RX0 1 21 0 0) (hr : (f_M f).sig.returnType = (some .int)) (hl : (f_M f).locks = false) (hQ : f_Q f = MQ (f_b f) (QW g (qI q)) (f_a f) (f_s f) 0 0 (fun q => g.2.2.2 ≤ q))  {x1 : Int32} {μ : Mm} (h : F_X0_openFor_e  (KK_X0_openFor_4 g f ) q x1 μ) : KW g f 4 0 0 0 [some (.ref p_BK), some (.int x1), none, none] [] μ := by
  unfold F_X0_openFor_e at h
  refine k_iconst (v := (0 : Int32)) cx dX0_openFor_0 (by decide +kernel) ?_
  refine k_istore_n cx dX0_openFor_1 rfl (by decide) ?_
  refine k_iconst (v := (0 : Int32)) cx dX0_openFor_2 (by decide +kernel) ?_
  refine k_istore_n cx dX0_openFor_3 rfl (by decide) ?_
  exact k_weak h (lsLe.keep (lsLe.keep (lsLe.keep (lsLe.keep lsLe.nil))))
theorem m_X0_openFor {g : GE} {l : Launch} {μ : Mm} {q : Int32 → Mm → Prop} {x1 : Int32}  (h : Wp_X0_openFor  x1 μ q) : MW g l yX0_openFor cX0_openFor 4 (some .int) 1 21 [.ref p_BK, .int x1] μ (qI q) := by
  refine met_of (by decide) (Nat.le_of_ble_eq_true rfl) (by intro v hv; simp only [List.mem_cons, List.not_mem_nil, or_false] at hv; rcases hv with rfl | rfl <;> rfl) ?_
  intro f hfl cx hr hl hQ
  exact b_X0_openFor_e  cx hr hl hQ (h (KK_X0_openFor_4 g f ) (fun _ _ _ _ h => b_X0_openFor_4  cx hr hl hQ h))
theorem dX1_prepare_0 : decode cX1_prepare 0 = .ok (.iconst 1, 1) := by decide +kernel
theorem dX1_prepare_1 : decode cX1_prepare 1 = .ok (.istore_n 2, 1) := by decide +kernel
theorem dX1_prepare_2 : decode cX1_prepare 2 = .ok (.iconst 0, 1) := by decide +kernel
theorem dX1_prepare_3 : decode cX1_prepare 3 = .ok (.istore_n 3, 1) := by decide +kernel
theorem dX1_prepare_4 : decode cX1_prepare 4 = .ok (.iload_n 3, 1) := by decide +kernel
theorem dX1_prepare_5 : decode cX1_prepare 5 = .ok (.aload_n 1, 1) := by decide +kernel
theorem dX1_prepare_6 : decode cX1_prepare 6 = .ok (.getfield 23, 3) := by decide +kernel
theorem dX1_prepare_9 : decode cX1_prepare 9 = .ok (.if_icmp .ge 96, 3) := by decide +kernel
theorem dX1_prepare_12 : decode cX1_prepare 12 = .ok (.aload_n 0, 1) := by decide +kernel
theorem dX1_prepare_13 : decode cX1_prepare 13 = .ok (.getfield 9, 3) := by decide +kernel
theorem dX1_prepare_16 : decode cX1_prepare 16 = .ok (.iload_n 3, 1) := by decide +kernel
theorem dX1_prepare_17 : decode cX1_prepare 17 = .ok (.iconst 0, 1) := by decide +kernel
theorem dX1_prepare_18 : decode cX1_prepare 18 = .ok (.iastore, 1) := by decide +kernel
theorem dX1_prepare_19 : decode cX1_prepare 19 = .ok (.iconst 0, 1) := by decide +kernel
theorem dX1_prepare_20 : decode cX1_prepare 20 = .ok (.istore 4, 2) := by decide +kernel
theorem dX1_prepare_22 : decode cX1_prepare 22 = .ok (.iload 4, 2) := by decide +kernel
theorem dX1_prepare_24 : decode cX1_prepare 24 = .ok (.aload_n 0, 1) := by decide +kernel
theorem dX1_prepare_25 : decode cX1_prepare 25 = .ok (.getfield 15, 3) := by decide +kernel
theorem dX1_prepare_28 : decode cX1_prepare 28 = .ok (.getfield 29, 3) := by decide +kernel
theorem dX1_prepare_31 : decode cX1_prepare 31 = .ok (.if_icmp .ge 63, 3) := by decide +kernel
theorem dX1_prepare_34 : decode cX1_prepare 34 = .ok (.aload_n 0, 1) := by decide +kernel
theorem dX1_prepare_35 : decode cX1_prepare 35 = .ok (.getfield 19, 3) := by decide +kernel
theorem dX1_prepare_38 : decode cX1_prepare 38 = .ok (.iload 4, 2) := by decide +kernel
theorem dX1_prepare_40 : decode cX1_prepare 40 = .ok (.invokevirtual 34, 3) := by decide +kernel
theorem dX1_prepare_43 : decode cX1_prepare 43 = .ok (.aload_n 1, 1) := by decide +kernel
theorem dX1_prepare_44 : decode cX1_prepare 44 = .ok (.getfield 40, 3) := by decide +kernel
theorem dX1_prepare_47 : decode cX1_prepare 47 = .ok (.iload_n 3, 1) := by decide +kernel
theorem dX1_prepare_48 : decode cX1_prepare 48 = .ok (.iaload, 1) := by decide +kernel
theorem dX1_prepare_49 : decode cX1_prepare 49 = .ok (.if_icmp .lt 7, 3) := by decide +kernel
theorem dX1_prepare_52 : decode cX1_prepare 52 = .ok (.iconst 1, 1) := by decide +kernel
theorem dX1_prepare_53 : decode cX1_prepare 53 = .ok (.goto 4, 3) := by decide +kernel
theorem dX1_prepare_56 : decode cX1_prepare 56 = .ok (.iconst 0, 1) := by decide +kernel
theorem dX1_prepare_57 : decode cX1_prepare 57 = .ok (.istore 5, 2) := by decide +kernel
theorem dX1_prepare_59 : decode cX1_prepare 59 = .ok (.aload_n 0, 1) := by decide +kernel
theorem dX1_prepare_60 : decode cX1_prepare 60 = .ok (.getfield 9, 3) := by decide +kernel
theorem dX1_prepare_63 : decode cX1_prepare 63 = .ok (.iload_n 3, 1) := by decide +kernel
theorem dX1_prepare_64 : decode cX1_prepare 64 = .ok (.dup2, 1) := by decide +kernel
theorem dX1_prepare_65 : decode cX1_prepare 65 = .ok (.iaload, 1) := by decide +kernel
theorem dX1_prepare_66 : decode cX1_prepare 66 = .ok (.iload 5, 2) := by decide +kernel
theorem dX1_prepare_68 : decode cX1_prepare 68 = .ok (.ifCond .eq 17, 3) := by decide +kernel
theorem dX1_prepare_71 : decode cX1_prepare 71 = .ok (.aload_n 1, 1) := by decide +kernel
theorem dX1_prepare_72 : decode cX1_prepare 72 = .ok (.getfield 43, 3) := by decide +kernel
theorem dX1_prepare_75 : decode cX1_prepare 75 = .ok (.iload_n 3, 1) := by decide +kernel
theorem dX1_prepare_76 : decode cX1_prepare 76 = .ok (.iaload, 1) := by decide +kernel
theorem dX1_prepare_77 : decode cX1_prepare 77 = .ok (.iconst 1, 1) := by decide +kernel
theorem dX1_prepare_78 : decode cX1_prepare 78 = .ok (.iload 4, 2) := by decide +kernel
theorem dX1_prepare_80 : decode cX1_prepare 80 = .ok (.ishl, 1) := by decide +kernel
theorem dX1_prepare_81 : decode cX1_prepare 81 = .ok (.iand, 1) := by decide +kernel
theorem dX1_prepare_82 : decode cX1_prepare 82 = .ok (.goto 4, 3) := by decide +kernel
theorem dX1_prepare_85 : decode cX1_prepare 85 = .ok (.iconst 0, 1) := by decide +kernel
theorem dX1_prepare_86 : decode cX1_prepare 86 = .ok (.ior, 1) := by decide +kernel
theorem dX1_prepare_87 : decode cX1_prepare 87 = .ok (.iastore, 1) := by decide +kernel
theorem dX1_prepare_88 : decode cX1_prepare 88 = .ok (.iinc 4 1, 3) := by decide +kernel
theorem dX1_prepare_91 : decode cX1_prepare 91 = .ok (.goto (-69), 3) := by decide +kernel
theorem dX1_prepare_94 : decode cX1_prepare 94 = .ok (.iload_n 2, 1) := by decide +kernel
theorem dX1_prepare_95 : decode cX1_prepare 95 = .ok (.bipush 6, 2) := by decide +kernel
theorem dX1_prepare_97 : decode cX1_prepare 97 = .ok (.imul, 1) := by decide +kernel
theorem dX1_prepare_98 : decode cX1_prepare 98 = .ok (.istore_n 2, 1) := by decide +kernel
theorem dX1_prepare_99 : decode cX1_prepare 99 = .ok (.iinc 3 1, 3) := by decide +kernel
theorem dX1_prepare_102 : decode cX1_prepare 102 = .ok (.goto (-98), 3) := by decide +kernel
theorem dX1_prepare_105 : decode cX1_prepare 105 = .ok (.iload_n 2, 1) := by decide +kernel
theorem dX1_prepare_106 : decode cX1_prepare 106 = .ok (.ireturn, 1) := by decide +kernel
def F_X1_prepare_4 (p0 : Nat) (p1 : Nat) (K4 : Int32 → Int32 → Mm → Prop) (K22 : Int32 → Int32 → Int32 → Mm → Prop) (K57 : Int32 → Int32 → Int32 → Int32 → Mm → Prop) (q : Int32 → Mm → Prop) (x2 : Int32) (x3 : Int32) (μ : Mm) : Prop :=
  (((μ p1 10) ≤ x3 → q x2 μ) ∧ (¬ ((μ p1 10) ≤ x3) → vp_in x3 3 ∧ K22 x2 x3 (0 : Int32) (up2 μ (p0 + 1) (x3).toNatClampNeg (0 : Int32))))
def F_X1_prepare_22 (p0 : Nat) (p1 : Nat) (K4 : Int32 → Int32 → Mm → Prop) (K22 : Int32 → Int32 → Int32 → Mm → Prop) (K57 : Int32 → Int32 → Int32 → Int32 → Mm → Prop) (q : Int32 → Mm → Prop) (x2 : Int32) (x3 : Int32) (x4 : Int32) (μ : Mm) : Prop :=
  (((μ p_GR 6) ≤ x4 → K4 (x2 * (6 : Int32)) (x3 + (1 : Int32)) μ) ∧ (¬ ((μ p_GR 6) ≤ x4) → Wp_X0_leftAtNode x4 μ (fun z2 μ1 => vp_in x3 3 ∧ ((z2 < (μ1 (p1 + 1) (x3).toNatClampNeg) → K57 x2 x3 x4 (0 : Int32) μ1) ∧ (¬ (z2 < (μ1 (p1 + 1) (x3).toNatClampNeg)) → K57 x2 x3 x4 (1 : Int32) μ1)))))
def F_X1_prepare_57 (p0 : Nat) (p1 : Nat) (K4 : Int32 → Int32 → Mm → Prop) (K22 : Int32 → Int32 → Int32 → Mm → Prop) (K57 : Int32 → Int32 → Int32 → Int32 → Mm → Prop) (q : Int32 → Mm → Prop) (x2 : Int32) (x3 : Int32) (x4 : Int32) (y0 : Int32) (μ : Mm) : Prop :=
  vp_in x3 3 ∧ ((y0 = 0 → vp_in x3 3 ∧ K22 x2 x3 (x4 + (1 : Int32)) (up2 μ (p0 + 1) (x3).toNatClampNeg ((μ (p0 + 1) (x3).toNatClampNeg) ||| (0 : Int32)))) ∧ (¬ (y0 = 0) → vp_in x3 3 ∧ vp_in x3 3 ∧ K22 x2 x3 (x4 + (1 : Int32)) (up2 μ (p0 + 1) (x3).toNatClampNeg ((μ (p0 + 1) (x3).toNatClampNeg) ||| ((μ (p1 + 2) (x3).toNatClampNeg) &&& ((1 : Int32) <<< (x4 &&& 31)))))))
def F_X1_prepare_e (p0 : Nat) (p1 : Nat) (K4 : Int32 → Int32 → Mm → Prop) (K22 : Int32 → Int32 → Int32 → Mm → Prop) (K57 : Int32 → Int32 → Int32 → Int32 → Mm → Prop) (q : Int32 → Mm → Prop)  (μ : Mm) : Prop :=
  K4 (1 : Int32) (0 : Int32) μ
def Wp_X1_prepare (p0 : Nat) (p1 : Nat)  (μ : Mm) (q : Int32 → Mm → Prop) : Prop := ∀ (K4 : Int32 → Int32 → Mm → Prop) (K22 : Int32 → Int32 → Int32 → Mm → Prop) (K57 : Int32 → Int32 → Int32 → Int32 → Mm → Prop), (∀ (x2 : Int32) (x3 : Int32) (μ : Mm), F_X1_prepare_4 p0 p1 K4 K22 K57 q x2 x3 μ → K4 x2 x3 μ) → (∀ (x2 : Int32) (x3 : Int32) (x4 : Int32) (μ : Mm), F_X1_prepare_22 p0 p1 K4 K22 K57 q x2 x3 x4 μ → K22 x2 x3 x4 μ) → (∀ (x2 : Int32) (x3 : Int32) (x4 : Int32) (y0 : Int32) (μ : Mm), F_X1_prepare_57 p0 p1 K4 K22 K57 q x2 x3 x4 y0 μ → K57 x2 x3 x4 y0 μ) → F_X1_prepare_e p0 p1 K4 K22 K57 q  μ
abbrev KK_X1_prepare_4 (g : GE) (f : FE) (p0 : Nat) (p1 : Nat) : Int32 → Int32 → Mm → Prop := fun x2 x3 μ => KW g f 6 0 0 4 [some (.ref p0), some (.ref p1), some (.int x2), some (.int x3), none, none] [] μ
abbrev KK_X1_prepare_22 (g : GE) (f : FE) (p0 : Nat) (p1 : Nat) : Int32 → Int32 → Int32 → Mm → Prop := fun x2 x3 x4 μ => KW g f 6 0 0 22 [some (.ref p0), some (.ref p1), some (.int x2), some (.int x3), some (.int x4), none] [] μ
abbrev KK_X1_prepare_57 (g : GE) (f : FE) (p0 : Nat) (p1 : Nat) : Int32 → Int32 → Int32 → Int32 → Mm → Prop := fun x2 x3 x4 y0 μ => KW g f 6 0 0 57 [some (.ref p0), some (.ref p1), some (.int x2), some (.int x3), some (.int x4), none] [.int y0] μ
set_option maxHeartbeats 2000000 in
theorem b_X1_prepare_4 {p0 : Nat} {p1 : Nat} (h_p0 : isCho p0) (h_p1 : isReq p1) {g : GE} {f : FE} {q : Int32 → Mm → Prop} (cx : Cx g f cX1_prepare 6 RX1 1 21 0 0) (hr : (f_M f).sig.returnType = (some .int)) (hl : (f_M f).locks = false) (hQ : f_Q f = MQ (f_b f) (QW g (qI q)) (f_a f) (f_s f) 0 0 (fun q => g.2.2.2 ≤ q))  {x2 : Int32} {x3 : Int32} {μ : Mm} (h : F_X1_prepare_4 p0 p1 (KK_X1_prepare_4 g f p0 p1) (KK_X1_prepare_22 g f p0 p1) (KK_X1_prepare_57 g f p0 p1) q x2 x3 μ) : KK_X1_prepare_4 g f p0 p1 x2 x3 μ := by
  unfold F_X1_prepare_4 at h
  show KW g f 6 0 0 4 [some (.ref p0), some (.ref p1), some (.int x2), some (.int x3), none, none] [] μ
  refine k_iload_n cx dX1_prepare_4 rfl rfl ?_
  refine k_aload_n cx dX1_prepare_5 rfl rfl ?_
  refine k_get (o := none) (v := .int (μ p1 10)) cx fl_X1_23 (ob_RQ h_p1) rfl rfl dX1_prepare_6 ?_
  refine k_icmp_ge (tgt := 105) cx dX1_prepare_9 (by decide) (fun hc => ?_) (fun hc => ?_)
  · replace h := h.1 hc
    refine k_iload_n cx dX1_prepare_105 rfl rfl ?_
    exact k_ret_I cx hr hl hQ dX1_prepare_106 h
  · replace h := h.2 hc
    refine k_aload_n cx dX1_prepare_12 rfl rfl ?_
    refine k_get (o := some (p0 + 1)) (v := .ref (p0 + 1)) cx fl_X1_9 (ob_CH h_p0) rfl rfl dX1_prepare_13 ?_
    refine k_iload_n cx dX1_prepare_16 rfl rfl ?_
    refine k_iconst (v := (0 : Int32)) cx dX1_prepare_17 (by decide +kernel) ?_
    obtain ⟨hi, h⟩ := h
    refine k_iast cx (ar_CH h_p0) hi dX1_prepare_18 ?_
    refine k_iconst (v := (0 : Int32)) cx dX1_prepare_19 (by decide +kernel) ?_
    refine k_istore cx dX1_prepare_20 (by decide) ?_
    exact k_weak h (lsLe.keep (lsLe.keep (lsLe.keep (lsLe.keep (lsLe.keep (lsLe.keep lsLe.nil))))))
set_option maxHeartbeats 2000000 in
theorem b_X1_prepare_22 {p0 : Nat} {p1 : Nat} (h_p0 : isCho p0) (h_p1 : isReq p1) {g : GE} {f : FE} {q : Int32 → Mm → Prop} (cx : Cx g f cX1_prepare 6 RX1 1 21 0 0) (hr : (f_M f).sig.returnType = (some .int)) (hl : (f_M f).locks = false) (hQ : f_Q f = MQ (f_b f) (QW g (qI q)) (f_a f) (f_s f) 0 0 (fun q => g.2.2.2 ≤ q))  {x2 : Int32} {x3 : Int32} {x4 : Int32} {μ : Mm} (h : F_X1_prepare_22 p0 p1 (KK_X1_prepare_4 g f p0 p1) (KK_X1_prepare_22 g f p0 p1) (KK_X1_prepare_57 g f p0 p1) q x2 x3 x4 μ) : KK_X1_prepare_22 g f p0 p1 x2 x3 x4 μ := by
  unfold F_X1_prepare_22 at h
  show KW g f 6 0 0 22 [some (.ref p0), some (.ref p1), some (.int x2), some (.int x3), some (.int x4), none] [] μ
  refine k_iload cx dX1_prepare_22 rfl ?_
  refine k_aload_n cx dX1_prepare_24 rfl rfl ?_
  refine k_get (o := some p_GR) (v := .ref p_GR) cx fl_X1_15 (ob_CH h_p0) rfl rfl dX1_prepare_25 ?_
  refine k_get (o := none) (v := .int (μ p_GR 6)) cx fl_X1_29 ob_GR rfl rfl dX1_prepare_28 ?_
  refine k_icmp_ge (tgt := 94) cx dX1_prepare_31 (by decide) (fun hc => ?_) (fun hc => ?_)
  · replace h := h.1 hc
    refine k_iload_n cx dX1_prepare_94 rfl rfl ?_
    refine k_bipush (v := (6 : Int32)) cx dX1_prepare_95 (by decide +kernel) ?_
    refine k_imul cx dX1_prepare_97 ?_
    refine k_istore_n cx dX1_prepare_98 rfl (by decide) ?_
    refine k_iinc (v := (x3 + (1 : Int32))) cx dX1_prepare_99 rfl rfl (by decide) ?_
    refine k_goto (tgt := 4) cx dX1_prepare_102 (by decide) ?_
    exact k_weak h (lsLe.keep (lsLe.keep (lsLe.keep (lsLe.keep (lsLe.drop (lsLe.keep lsLe.nil))))))
  · replace h := h.2 hc
    refine k_aload_n cx dX1_prepare_34 rfl rfl ?_
    refine k_get (o := some p_BK) (v := .ref p_BK) cx fl_X1_19 (ob_CH h_p0) rfl rfl dX1_prepare_35 ?_
    refine k_iload cx dX1_prepare_38 rfl ?_
    refine k_callV (As := [.int x4]) (rest := []) cx (m_X0_leftAtNode h) cv_X1_34 ob_BK rfl rfl rfl rfl (Nat.le_of_ble_eq_true rfl) ⟨Nat.le_of_ble_eq_true rfl, Nat.le_of_ble_eq_true rfl⟩ dX1_prepare_40 (fun v μ1 hq => ?_)
    obtain ⟨z2, rfl, h⟩ := hq
    refine k_aload_n cx dX1_prepare_43 rfl rfl ?_
    refine k_get (o := some (p1 + 1)) (v := .ref (p1 + 1)) cx fl_X1_40 (ob_RQ h_p1) rfl rfl dX1_prepare_44 ?_
    refine k_iload_n cx dX1_prepare_47 rfl rfl ?_
    obtain ⟨hi, h⟩ := h
    refine k_iald cx (ar_RQ h_p1 1 (by decide) (by decide)) hi dX1_prepare_48 ?_
    refine k_icmp_lt (tgt := 56) cx dX1_prepare_49 (by decide) (fun hc => ?_) (fun hc => ?_)
    · replace h := h.1 hc
      refine k_iconst (v := (0 : Int32)) cx dX1_prepare_56 (by decide +kernel) ?_
      exact k_weak h (lsLe.keep (lsLe.keep (lsLe.keep (lsLe.keep (lsLe.keep (lsLe.keep lsLe.nil))))))
    · replace h := h.2 hc
      refine k_iconst (v := (1 : Int32)) cx dX1_prepare_52 (by decide +kernel) ?_
      refine k_goto (tgt := 57) cx dX1_prepare_53 (by decide) ?_
      exact k_weak h (lsLe.keep (lsLe.keep (lsLe.keep (lsLe.keep (lsLe.keep (lsLe.keep lsLe.nil))))))
set_option maxHeartbeats 2000000 in
theorem b_X1_prepare_57 {p0 : Nat} {p1 : Nat} (h_p0 : isCho p0) (h_p1 : isReq p1) {g : GE} {f : FE} {q : Int32 → Mm → Prop} (cx : Cx g f cX1_prepare 6 RX1 1 21 0 0) (hr : (f_M f).sig.returnType = (some .int)) (hl : (f_M f).locks = false) (hQ : f_Q f = MQ (f_b f) (QW g (qI q)) (f_a f) (f_s f) 0 0 (fun q => g.2.2.2 ≤ q))  {x2 : Int32} {x3 : Int32} {x4 : Int32} {y0 : Int32} {μ : Mm} (h : F_X1_prepare_57 p0 p1 (KK_X1_prepare_4 g f p0 p1) (KK_X1_prepare_22 g f p0 p1) (KK_X1_prepare_57 g f p0 p1) q x2 x3 x4 y0 μ) : KK_X1_prepare_57 g f p0 p1 x2 x3 x4 y0 μ := by
  unfold F_X1_prepare_57 at h
  show KW g f 6 0 0 57 [some (.ref p0), some (.ref p1), some (.int x2), some (.int x3), some (.int x4), none] [.int y0] μ
  refine k_istore cx dX1_prepare_57 (by decide) ?_
  refine k_aload_n cx dX1_prepare_59 rfl rfl ?_
  refine k_get (o := some (p0 + 1)) (v := .ref (p0 + 1)) cx fl_X1_9 (ob_CH h_p0) rfl rfl dX1_prepare_60 ?_
  refine k_iload_n cx dX1_prepare_63 rfl rfl ?_
  refine k_dup2 cx dX1_prepare_64 rfl rfl ?_
  obtain ⟨hi, h⟩ := h
  refine k_iald cx (ar_CH h_p0) hi dX1_prepare_65 ?_
  refine k_iload cx dX1_prepare_66 rfl ?_
  refine k_if_eq (tgt := 85) cx dX1_prepare_68 (by decide) (fun hc => ?_) (fun hc => ?_)
  · replace h := h.1 hc
    refine k_iconst (v := (0 : Int32)) cx dX1_prepare_85 (by decide +kernel) ?_
    refine k_ior cx dX1_prepare_86 ?_
    obtain ⟨hi, h⟩ := h
    refine k_iast cx (ar_CH h_p0) hi dX1_prepare_87 ?_
    refine k_iinc (v := (x4 + (1 : Int32))) cx dX1_prepare_88 rfl rfl (by decide) ?_
    refine k_goto (tgt := 22) cx dX1_prepare_91 (by decide) ?_
    exact k_weak h (lsLe.keep (lsLe.keep (lsLe.keep (lsLe.keep (lsLe.keep (lsLe.drop lsLe.nil))))))
  · replace h := h.2 hc
    refine k_aload_n cx dX1_prepare_71 rfl rfl ?_
    refine k_get (o := some (p1 + 2)) (v := .ref (p1 + 2)) cx fl_X1_43 (ob_RQ h_p1) rfl rfl dX1_prepare_72 ?_
    refine k_iload_n cx dX1_prepare_75 rfl rfl ?_
    obtain ⟨hi, h⟩ := h
    refine k_iald cx (ar_RQ h_p1 2 (by decide) (by decide)) hi dX1_prepare_76 ?_
    refine k_iconst (v := (1 : Int32)) cx dX1_prepare_77 (by decide +kernel) ?_
    refine k_iload cx dX1_prepare_78 rfl ?_
    refine k_ishl cx dX1_prepare_80 ?_
    refine k_iand cx dX1_prepare_81 ?_
    refine k_goto (tgt := 86) cx dX1_prepare_82 (by decide) ?_
    refine k_ior cx dX1_prepare_86 ?_
    obtain ⟨hi, h⟩ := h
    refine k_iast cx (ar_CH h_p0) hi dX1_prepare_87 ?_
    refine k_iinc (v := (x4 + (1 : Int32))) cx dX1_prepare_88 rfl rfl (by decide) ?_
    refine k_goto (tgt := 22) cx dX1_prepare_91 (by decide) ?_
    exact k_weak h (lsLe.keep (lsLe.keep (lsLe.keep (lsLe.keep (lsLe.keep (lsLe.drop lsLe.nil))))))
set_option maxHeartbeats 2000000 in
theorem b_X1_prepare_e {p0 : Nat} {p1 : Nat} (h_p0 : isCho p0) (h_p1 : isReq p1) {g : GE} {f : FE} {q : Int32 → Mm → Prop} (cx : Cx g f cX1_prepare 6 RX1 1 21 0 0) (hr : (f_M f).sig.returnType = (some .int)) (hl : (f_M f).locks = false) (hQ : f_Q f = MQ (f_b f) (QW g (qI q)) (f_a f) (f_s f) 0 0 (fun q => g.2.2.2 ≤ q))   {μ : Mm} (h : F_X1_prepare_e p0 p1 (KK_X1_prepare_4 g f p0 p1) (KK_X1_prepare_22 g f p0 p1) (KK_X1_prepare_57 g f p0 p1) q  μ) : KW g f 6 0 0 0 [some (.ref p0), some (.ref p1), none, none, none, none] [] μ := by
  unfold F_X1_prepare_e at h
  refine k_iconst (v := (1 : Int32)) cx dX1_prepare_0 (by decide +kernel) ?_
  refine k_istore_n cx dX1_prepare_1 rfl (by decide) ?_
  refine k_iconst (v := (0 : Int32)) cx dX1_prepare_2 (by decide +kernel) ?_
  refine k_istore_n cx dX1_prepare_3 rfl (by decide) ?_
  exact k_weak h (lsLe.keep (lsLe.keep (lsLe.keep (lsLe.keep (lsLe.keep (lsLe.keep lsLe.nil))))))
theorem m_X1_prepare {g : GE} {l : Launch} {μ : Mm} {q : Int32 → Mm → Prop} {p0 : Nat} {p1 : Nat} (h_p0 : isCho p0) (h_p1 : isReq p1) (h : Wp_X1_prepare p0 p1  μ q) : MW g l yX1_prepare cX1_prepare 6 (some .int) 1 21 [.ref p0, .ref p1] μ (qI q) := by
  refine met_of (by decide) (Nat.le_of_ble_eq_true rfl) (by intro v hv; simp only [List.mem_cons, List.not_mem_nil, or_false] at hv; rcases hv with rfl | rfl <;> rfl) ?_
  intro f hfl cx hr hl hQ
  exact b_X1_prepare_e h_p0 h_p1 cx hr hl hQ (h (KK_X1_prepare_4 g f p0 p1) (KK_X1_prepare_22 g f p0 p1) (KK_X1_prepare_57 g f p0 p1) (fun _ _ _ h => b_X1_prepare_4 h_p0 h_p1 cx hr hl hQ h) (fun _ _ _ _ h => b_X1_prepare_22 h_p0 h_p1 cx hr hl hQ h) (fun _ _ _ _ _ h => b_X1_prepare_57 h_p0 h_p1 cx hr hl hQ h))
theorem dX1_take_0 : decode cX1_take 0 = .ok (.iload_n 2, 1) := by decide +kernel
theorem dX1_take_1 : decode cX1_take 1 = .ok (.istore_n 3, 1) := by decide +kernel
theorem dX1_take_2 : decode cX1_take 2 = .ok (.iconst 0, 1) := by decide +kernel
theorem dX1_take_3 : decode cX1_take 3 = .ok (.istore 4, 2) := by decide +kernel
theorem dX1_take_5 : decode cX1_take 5 = .ok (.aload_n 1, 1) := by decide +kernel
theorem dX1_take_6 : decode cX1_take 6 = .ok (.getfield 23, 3) := by decide +kernel
theorem dX1_take_9 : decode cX1_take 9 = .ok (.iconst 1, 1) := by decide +kernel
theorem dX1_take_10 : decode cX1_take 10 = .ok (.isub, 1) := by decide +kernel
theorem dX1_take_11 : decode cX1_take 11 = .ok (.istore 5, 2) := by decide +kernel
theorem dX1_take_13 : decode cX1_take 13 = .ok (.iload 5, 2) := by decide +kernel
theorem dX1_take_15 : decode cX1_take 15 = .ok (.ifCond .lt 65, 3) := by decide +kernel
theorem dX1_take_18 : decode cX1_take 18 = .ok (.iload_n 3, 1) := by decide +kernel
theorem dX1_take_19 : decode cX1_take 19 = .ok (.bipush 6, 2) := by decide +kernel
theorem dX1_take_21 : decode cX1_take 21 = .ok (.irem, 1) := by decide +kernel
theorem dX1_take_22 : decode cX1_take 22 = .ok (.istore 6, 2) := by decide +kernel
theorem dX1_take_24 : decode cX1_take 24 = .ok (.iload_n 3, 1) := by decide +kernel
theorem dX1_take_25 : decode cX1_take 25 = .ok (.bipush 6, 2) := by decide +kernel
theorem dX1_take_27 : decode cX1_take 27 = .ok (.idiv, 1) := by decide +kernel
theorem dX1_take_28 : decode cX1_take 28 = .ok (.istore_n 3, 1) := by decide +kernel
theorem dX1_take_29 : decode cX1_take 29 = .ok (.aload_n 0, 1) := by decide +kernel
theorem dX1_take_30 : decode cX1_take 30 = .ok (.getfield 9, 3) := by decide +kernel
theorem dX1_take_33 : decode cX1_take 33 = .ok (.iload 5, 2) := by decide +kernel
theorem dX1_take_35 : decode cX1_take 35 = .ok (.iaload, 1) := by decide +kernel
theorem dX1_take_36 : decode cX1_take 36 = .ok (.iload 6, 2) := by decide +kernel
theorem dX1_take_38 : decode cX1_take 38 = .ok (.ishr, 1) := by decide +kernel
theorem dX1_take_39 : decode cX1_take 39 = .ok (.iconst 1, 1) := by decide +kernel
theorem dX1_take_40 : decode cX1_take 40 = .ok (.iand, 1) := by decide +kernel
theorem dX1_take_41 : decode cX1_take 41 = .ok (.ifCond .eq 13, 3) := by decide +kernel
theorem dX1_take_44 : decode cX1_take 44 = .ok (.iload 4, 2) := by decide +kernel
theorem dX1_take_46 : decode cX1_take 46 = .ok (.iload 6, 2) := by decide +kernel
theorem dX1_take_48 : decode cX1_take 48 = .ok (.ishr, 1) := by decide +kernel
theorem dX1_take_49 : decode cX1_take 49 = .ok (.iconst 1, 1) := by decide +kernel
theorem dX1_take_50 : decode cX1_take 50 = .ok (.iand, 1) := by decide +kernel
theorem dX1_take_51 : decode cX1_take 51 = .ok (.ifCond .eq 5, 3) := by decide +kernel
theorem dX1_take_54 : decode cX1_take 54 = .ok (.iconst 0, 1) := by decide +kernel
theorem dX1_take_55 : decode cX1_take 55 = .ok (.ireturn, 1) := by decide +kernel
theorem dX1_take_56 : decode cX1_take 56 = .ok (.iload 4, 2) := by decide +kernel
theorem dX1_take_58 : decode cX1_take 58 = .ok (.iconst 1, 1) := by decide +kernel
theorem dX1_take_59 : decode cX1_take 59 = .ok (.iload 6, 2) := by decide +kernel
theorem dX1_take_61 : decode cX1_take 61 = .ok (.ishl, 1) := by decide +kernel
theorem dX1_take_62 : decode cX1_take 62 = .ok (.ior, 1) := by decide +kernel
theorem dX1_take_63 : decode cX1_take 63 = .ok (.istore 4, 2) := by decide +kernel
theorem dX1_take_65 : decode cX1_take 65 = .ok (.aload_n 1, 1) := by decide +kernel
theorem dX1_take_66 : decode cX1_take 66 = .ok (.getfield 46, 3) := by decide +kernel
theorem dX1_take_69 : decode cX1_take 69 = .ok (.iload 5, 2) := by decide +kernel
theorem dX1_take_71 : decode cX1_take 71 = .ok (.iload 6, 2) := by decide +kernel
theorem dX1_take_73 : decode cX1_take 73 = .ok (.iastore, 1) := by decide +kernel
theorem dX1_take_74 : decode cX1_take 74 = .ok (.iinc 5 (-1), 3) := by decide +kernel
theorem dX1_take_77 : decode cX1_take 77 = .ok (.goto (-64), 3) := by decide +kernel
theorem dX1_take_80 : decode cX1_take 80 = .ok (.iconst 1, 1) := by decide +kernel
theorem dX1_take_81 : decode cX1_take 81 = .ok (.ireturn, 1) := by decide +kernel
def F_X1_take_13 (p0 : Nat) (p1 : Nat) (K13 : Int32 → Int32 → Int32 → Mm → Prop) (q : Bool → Mm → Prop) (x3 : Int32) (x4 : Int32) (x5 : Int32) (μ : Mm) : Prop :=
  ((x5 < 0 → q true μ) ∧ (¬ (x5 < 0) → vp_in x5 3 ∧ (((((μ (p0 + 1) (x5).toNatClampNeg) >>> ((x3 - x3 / (6 : Int32) * (6 : Int32)) &&& 31)) &&& (1 : Int32)) = 0 → q false μ) ∧ (¬ ((((μ (p0 + 1) (x5).toNatClampNeg) >>> ((x3 - x3 / (6 : Int32) * (6 : Int32)) &&& 31)) &&& (1 : Int32)) = 0) → ((((x4 >>> ((x3 - x3 / (6 : Int32) * (6 : Int32)) &&& 31)) &&& (1 : Int32)) = 0 → vp_in x5 3 ∧ K13 (x3 / (6 : Int32)) (x4 ||| ((1 : Int32) <<< ((x3 - x3 / (6 : Int32) * (6 : Int32)) &&& 31))) (x5 + (-1 : Int32)) (up2 μ (p1 + 3) (x5).toNatClampNeg (x3 - x3 / (6 : Int32) * (6 : Int32)))) ∧ (¬ (((x4 >>> ((x3 - x3 / (6 : Int32) * (6 : Int32)) &&& 31)) &&& (1 : Int32)) = 0) → q false μ))))))
def F_X1_take_e (p0 : Nat) (p1 : Nat) (K13 : Int32 → Int32 → Int32 → Mm → Prop) (q : Bool → Mm → Prop) (x2 : Int32) (μ : Mm) : Prop :=
  K13 x2 (0 : Int32) ((μ p1 10) - (1 : Int32)) μ
def Wp_X1_take (p0 : Nat) (p1 : Nat) (x2 : Int32) (μ : Mm) (q : Bool → Mm → Prop) : Prop := ∀ (K13 : Int32 → Int32 → Int32 → Mm → Prop), (∀ (x3 : Int32) (x4 : Int32) (x5 : Int32) (μ : Mm), F_X1_take_13 p0 p1 K13 q x3 x4 x5 μ → K13 x3 x4 x5 μ) → F_X1_take_e p0 p1 K13 q x2 μ
abbrev KK_X1_take_13 (g : GE) (f : FE) (p0 : Nat) (p1 : Nat) : Int32 → Int32 → Int32 → Mm → Prop := fun x3 x4 x5 μ => KW g f 7 0 0 13 [some (.ref p0), some (.ref p1), none, some (.int x3), some (.int x4), some (.int x5), none] [] μ
set_option maxHeartbeats 2000000 in
theorem b_X1_take_13 {p0 : Nat} {p1 : Nat} (h_p0 : isCho p0) (h_p1 : isReq p1) {g : GE} {f : FE} {q : Bool → Mm → Prop} (cx : Cx g f cX1_take 7 RX1 0 0 0 0) (hr : (f_M f).sig.returnType = (some .boolean)) (hl : (f_M f).locks = false) (hQ : f_Q f = MQ (f_b f) (QW g (qZ q)) (f_a f) (f_s f) 0 0 (fun q => g.2.2.2 ≤ q))  {x3 : Int32} {x4 : Int32} {x5 : Int32} {μ : Mm} (h : F_X1_take_13 p0 p1 (KK_X1_take_13 g f p0 p1) q x3 x4 x5 μ) : KK_X1_take_13 g f p0 p1 x3 x4 x5 μ := by
  unfold F_X1_take_13 at h
  show KW g f 7 0 0 13 [some (.ref p0), some (.ref p1), none, some (.int x3), some (.int x4), some (.int x5), none] [] μ
  refine k_iload cx dX1_take_13 rfl ?_
  refine k_if_lt (tgt := 80) cx dX1_take_15 (by decide) (fun hc => ?_) (fun hc => ?_)
  · replace h := h.1 hc
    refine k_iconst (v := (1 : Int32)) cx dX1_take_80 (by decide +kernel) ?_
    exact k_ret_Z (b := true) cx hr hl hQ dX1_take_81 rfl h
  · replace h := h.2 hc
    refine k_iload_n cx dX1_take_18 rfl rfl ?_
    refine k_bipush (v := (6 : Int32)) cx dX1_take_19 (by decide +kernel) ?_
    refine k_irem cx dX1_take_21 (by decide) ?_
    refine k_istore cx dX1_take_22 (by decide) ?_
    refine k_iload_n cx dX1_take_24 rfl rfl ?_
    refine k_bipush (v := (6 : Int32)) cx dX1_take_25 (by decide +kernel) ?_
    refine k_idiv cx dX1_take_27 (by decide) ?_
    refine k_istore_n cx dX1_take_28 rfl (by decide) ?_
    refine k_aload_n cx dX1_take_29 rfl rfl ?_
    refine k_get (o := some (p0 + 1)) (v := .ref (p0 + 1)) cx fl_X1_9 (ob_CH h_p0) rfl rfl dX1_take_30 ?_
    refine k_iload cx dX1_take_33 rfl ?_
    obtain ⟨hi, h⟩ := h
    refine k_iald cx (ar_CH h_p0) hi dX1_take_35 ?_
    refine k_iload cx dX1_take_36 rfl ?_
    refine k_ishr cx dX1_take_38 ?_
    refine k_iconst (v := (1 : Int32)) cx dX1_take_39 (by decide +kernel) ?_
    refine k_iand cx dX1_take_40 ?_
    refine k_if_eq (tgt := 54) cx dX1_take_41 (by decide) (fun hc => ?_) (fun hc => ?_)
    · replace h := h.1 hc
      refine k_iconst (v := (0 : Int32)) cx dX1_take_54 (by decide +kernel) ?_
      exact k_ret_Z (b := false) cx hr hl hQ dX1_take_55 rfl h
    · replace h := h.2 hc
      refine k_iload cx dX1_take_44 rfl ?_
      refine k_iload cx dX1_take_46 rfl ?_
      refine k_ishr cx dX1_take_48 ?_
      refine k_iconst (v := (1 : Int32)) cx dX1_take_49 (by decide +kernel) ?_
      refine k_iand cx dX1_take_50 ?_
      refine k_if_eq (tgt := 56) cx dX1_take_51 (by decide) (fun hc => ?_) (fun hc => ?_)
      · replace h := h.1 hc
        refine k_iload cx dX1_take_56 rfl ?_
        refine k_iconst (v := (1 : Int32)) cx dX1_take_58 (by decide +kernel) ?_
        refine k_iload cx dX1_take_59 rfl ?_
        refine k_ishl cx dX1_take_61 ?_
        refine k_ior cx dX1_take_62 ?_
        refine k_istore cx dX1_take_63 (by decide) ?_
        refine k_aload_n cx dX1_take_65 rfl rfl ?_
        refine k_get (o := some (p1 + 3)) (v := .ref (p1 + 3)) cx fl_X1_46 (ob_RQ h_p1) rfl rfl dX1_take_66 ?_
        refine k_iload cx dX1_take_69 rfl ?_
        refine k_iload cx dX1_take_71 rfl ?_
        obtain ⟨hi, h⟩ := h
        refine k_iast cx (ar_RQ h_p1 3 (by decide) (by decide)) hi dX1_take_73 ?_
        refine k_iinc (v := (x5 + (-1 : Int32))) cx dX1_take_74 rfl rfl (by decide) ?_
        refine k_goto (tgt := 13) cx dX1_take_77 (by decide) ?_
        exact k_weak h (lsLe.keep (lsLe.keep (lsLe.keep (lsLe.keep (lsLe.keep (lsLe.keep (lsLe.drop lsLe.nil)))))))
      · replace h := h.2 hc
        refine k_iconst (v := (0 : Int32)) cx dX1_take_54 (by decide +kernel) ?_
        exact k_ret_Z (b := false) cx hr hl hQ dX1_take_55 rfl h
set_option maxHeartbeats 2000000 in
theorem b_X1_take_e {p0 : Nat} {p1 : Nat} (h_p0 : isCho p0) (h_p1 : isReq p1) {g : GE} {f : FE} {q : Bool → Mm → Prop} (cx : Cx g f cX1_take 7 RX1 0 0 0 0) (hr : (f_M f).sig.returnType = (some .boolean)) (hl : (f_M f).locks = false) (hQ : f_Q f = MQ (f_b f) (QW g (qZ q)) (f_a f) (f_s f) 0 0 (fun q => g.2.2.2 ≤ q))  {x2 : Int32} {μ : Mm} (h : F_X1_take_e p0 p1 (KK_X1_take_13 g f p0 p1) q x2 μ) : KW g f 7 0 0 0 [some (.ref p0), some (.ref p1), some (.int x2), none, none, none, none] [] μ := by
  unfold F_X1_take_e at h
  refine k_iload_n cx dX1_take_0 rfl rfl ?_
  refine k_istore_n cx dX1_take_1 rfl (by decide) ?_
  refine k_iconst (v := (0 : Int32)) cx dX1_take_2 (by decide +kernel) ?_
  refine k_istore cx dX1_take_3 (by decide) ?_
  refine k_aload_n cx dX1_take_5 rfl rfl ?_
  refine k_get (o := none) (v := .int (μ p1 10)) cx fl_X1_23 (ob_RQ h_p1) rfl rfl dX1_take_6 ?_
  refine k_iconst (v := (1 : Int32)) cx dX1_take_9 (by decide +kernel) ?_
  refine k_isub cx dX1_take_10 ?_
  refine k_istore cx dX1_take_11 (by decide) ?_
  exact k_weak h (lsLe.keep (lsLe.keep (lsLe.drop (lsLe.keep (lsLe.keep (lsLe.keep (lsLe.keep lsLe.nil)))))))
theorem m_X1_take {g : GE} {l : Launch} {μ : Mm} {q : Bool → Mm → Prop} {p0 : Nat} {p1 : Nat} {x2 : Int32} (h_p0 : isCho p0) (h_p1 : isReq p1) (h : Wp_X1_take p0 p1 x2 μ q) : MW g l yX1_take cX1_take 7 (some .boolean) 0 0 [.ref p0, .ref p1, .int x2] μ (qZ q) := by
  refine met_of (by decide) (Nat.le_of_ble_eq_true rfl) (by intro v hv; simp only [List.mem_cons, List.not_mem_nil, or_false] at hv; rcases hv with rfl | rfl | rfl <;> rfl) ?_
  intro f hfl cx hr hl hQ
  exact b_X1_take_e h_p0 h_p1 cx hr hl hQ (h (KK_X1_take_13 g f p0 p1) (fun _ _ _ _ h => b_X1_take_13 h_p0 h_p1 cx hr hl hQ h))
theorem dJ6_bitCount_0f7a4_0 : decode cJ6_bitCount_0f7a4 0 = .ok (.iload_n 0, 1) := by decide +kernel
theorem dJ6_bitCount_0f7a4_1 : decode cJ6_bitCount_0f7a4 1 = .ok (.iload_n 0, 1) := by decide +kernel
theorem dJ6_bitCount_0f7a4_2 : decode cJ6_bitCount_0f7a4 2 = .ok (.iconst 1, 1) := by decide +kernel
theorem dJ6_bitCount_0f7a4_3 : decode cJ6_bitCount_0f7a4 3 = .ok (.iushr, 1) := by decide +kernel
theorem dJ6_bitCount_0f7a4_4 : decode cJ6_bitCount_0f7a4 4 = .ok (.ldc_w 265, 3) := by decide +kernel
theorem dJ6_bitCount_0f7a4_7 : decode cJ6_bitCount_0f7a4 7 = .ok (.iand, 1) := by decide +kernel
theorem dJ6_bitCount_0f7a4_8 : decode cJ6_bitCount_0f7a4 8 = .ok (.isub, 1) := by decide +kernel
theorem dJ6_bitCount_0f7a4_9 : decode cJ6_bitCount_0f7a4 9 = .ok (.istore_n 0, 1) := by decide +kernel
theorem dJ6_bitCount_0f7a4_10 : decode cJ6_bitCount_0f7a4 10 = .ok (.iload_n 0, 1) := by decide +kernel
theorem dJ6_bitCount_0f7a4_11 : decode cJ6_bitCount_0f7a4 11 = .ok (.ldc_w 266, 3) := by decide +kernel
theorem dJ6_bitCount_0f7a4_14 : decode cJ6_bitCount_0f7a4 14 = .ok (.iand, 1) := by decide +kernel
theorem dJ6_bitCount_0f7a4_15 : decode cJ6_bitCount_0f7a4 15 = .ok (.iload_n 0, 1) := by decide +kernel
theorem dJ6_bitCount_0f7a4_16 : decode cJ6_bitCount_0f7a4 16 = .ok (.iconst 2, 1) := by decide +kernel
theorem dJ6_bitCount_0f7a4_17 : decode cJ6_bitCount_0f7a4 17 = .ok (.iushr, 1) := by decide +kernel
theorem dJ6_bitCount_0f7a4_18 : decode cJ6_bitCount_0f7a4 18 = .ok (.ldc_w 266, 3) := by decide +kernel
theorem dJ6_bitCount_0f7a4_21 : decode cJ6_bitCount_0f7a4 21 = .ok (.iand, 1) := by decide +kernel
theorem dJ6_bitCount_0f7a4_22 : decode cJ6_bitCount_0f7a4 22 = .ok (.iadd, 1) := by decide +kernel
theorem dJ6_bitCount_0f7a4_23 : decode cJ6_bitCount_0f7a4 23 = .ok (.istore_n 0, 1) := by decide +kernel
theorem dJ6_bitCount_0f7a4_24 : decode cJ6_bitCount_0f7a4 24 = .ok (.iload_n 0, 1) := by decide +kernel
theorem dJ6_bitCount_0f7a4_25 : decode cJ6_bitCount_0f7a4 25 = .ok (.iload_n 0, 1) := by decide +kernel
theorem dJ6_bitCount_0f7a4_26 : decode cJ6_bitCount_0f7a4 26 = .ok (.iconst 4, 1) := by decide +kernel
theorem dJ6_bitCount_0f7a4_27 : decode cJ6_bitCount_0f7a4 27 = .ok (.iushr, 1) := by decide +kernel
theorem dJ6_bitCount_0f7a4_28 : decode cJ6_bitCount_0f7a4 28 = .ok (.iadd, 1) := by decide +kernel
theorem dJ6_bitCount_0f7a4_29 : decode cJ6_bitCount_0f7a4 29 = .ok (.ldc_w 267, 3) := by decide +kernel
theorem dJ6_bitCount_0f7a4_32 : decode cJ6_bitCount_0f7a4 32 = .ok (.iand, 1) := by decide +kernel
theorem dJ6_bitCount_0f7a4_33 : decode cJ6_bitCount_0f7a4 33 = .ok (.istore_n 0, 1) := by decide +kernel
theorem dJ6_bitCount_0f7a4_34 : decode cJ6_bitCount_0f7a4 34 = .ok (.iload_n 0, 1) := by decide +kernel
theorem dJ6_bitCount_0f7a4_35 : decode cJ6_bitCount_0f7a4 35 = .ok (.iload_n 0, 1) := by decide +kernel
theorem dJ6_bitCount_0f7a4_36 : decode cJ6_bitCount_0f7a4 36 = .ok (.bipush 8, 2) := by decide +kernel
theorem dJ6_bitCount_0f7a4_38 : decode cJ6_bitCount_0f7a4 38 = .ok (.iushr, 1) := by decide +kernel
theorem dJ6_bitCount_0f7a4_39 : decode cJ6_bitCount_0f7a4 39 = .ok (.iadd, 1) := by decide +kernel
theorem dJ6_bitCount_0f7a4_40 : decode cJ6_bitCount_0f7a4 40 = .ok (.istore_n 0, 1) := by decide +kernel
theorem dJ6_bitCount_0f7a4_41 : decode cJ6_bitCount_0f7a4 41 = .ok (.iload_n 0, 1) := by decide +kernel
theorem dJ6_bitCount_0f7a4_42 : decode cJ6_bitCount_0f7a4 42 = .ok (.iload_n 0, 1) := by decide +kernel
theorem dJ6_bitCount_0f7a4_43 : decode cJ6_bitCount_0f7a4 43 = .ok (.bipush 16, 2) := by decide +kernel
theorem dJ6_bitCount_0f7a4_45 : decode cJ6_bitCount_0f7a4 45 = .ok (.iushr, 1) := by decide +kernel
theorem dJ6_bitCount_0f7a4_46 : decode cJ6_bitCount_0f7a4 46 = .ok (.iadd, 1) := by decide +kernel
theorem dJ6_bitCount_0f7a4_47 : decode cJ6_bitCount_0f7a4 47 = .ok (.istore_n 0, 1) := by decide +kernel
theorem dJ6_bitCount_0f7a4_48 : decode cJ6_bitCount_0f7a4 48 = .ok (.iload_n 0, 1) := by decide +kernel
theorem dJ6_bitCount_0f7a4_49 : decode cJ6_bitCount_0f7a4 49 = .ok (.bipush 63, 2) := by decide +kernel
theorem dJ6_bitCount_0f7a4_51 : decode cJ6_bitCount_0f7a4 51 = .ok (.iand, 1) := by decide +kernel
theorem dJ6_bitCount_0f7a4_52 : decode cJ6_bitCount_0f7a4 52 = .ok (.ireturn, 1) := by decide +kernel
def F_J6_bitCount_0f7a4_e   (q : Int32 → Mm → Prop) (x0 : Int32) (μ : Mm) : Prop :=
  q ((((((((x0 - ((x0.toUInt32 >>> (Int32.toUInt32 (1 : Int32) &&& Int32.toUInt32 31)).toInt32 &&& (1431655765 : Int32))) &&& (858993459 : Int32)) + (((x0 - ((x0.toUInt32 >>> (Int32.toUInt32 (1 : Int32) &&& Int32.toUInt32 31)).toInt32 &&& (1431655765 : Int32))).toUInt32 >>> (Int32.toUInt32 (2 : Int32) &&& Int32.toUInt32 31)).toInt32 &&& (858993459 : Int32))) + ((((x0 - ((x0.toUInt32 >>> (Int32.toUInt32 (1 : Int32) &&& Int32.toUInt32 31)).toInt32 &&& (1431655765 : Int32))) &&& (858993459 : Int32)) + (((x0 - ((x0.toUInt32 >>> (Int32.toUInt32 (1 : Int32) &&& Int32.toUInt32 31)).toInt32 &&& (1431655765 : Int32))).toUInt32 >>> (Int32.toUInt32 (2 : Int32) &&& Int32.toUInt32 31)).toInt32 &&& (858993459 : Int32))).toUInt32 >>> (Int32.toUInt32 (4 : Int32) &&& Int32.toUInt32 31)).toInt32) &&& (252645135 : Int32)) + ((((((x0 - ((x0.toUInt32 >>> (Int32.toUInt32 (1 : Int32) &&& Int32.toUInt32 31)).toInt32 &&& (1431655765 : Int32))) &&& (858993459 : Int32)) + (((x0 - ((x0.toUInt32 >>> (Int32.toUInt32 (1 : Int32) &&& Int32.toUInt32 31)).toInt32 &&& (1431655765 : Int32))).toUInt32 >>> (Int32.toUInt32 (2 : Int32) &&& Int32.toUInt32 31)).toInt32 &&& (858993459 : Int32))) + ((((x0 - ((x0.toUInt32 >>> (Int32.toUInt32 (1 : Int32) &&& Int32.toUInt32 31)).toInt32 &&& (1431655765 : Int32))) &&& (858993459 : Int32)) + (((x0 - ((x0.toUInt32 >>> (Int32.toUInt32 (1 : Int32) &&& Int32.toUInt32 31)).toInt32 &&& (1431655765 : Int32))).toUInt32 >>> (Int32.toUInt32 (2 : Int32) &&& Int32.toUInt32 31)).toInt32 &&& (858993459 : Int32))).toUInt32 >>> (Int32.toUInt32 (4 : Int32) &&& Int32.toUInt32 31)).toInt32) &&& (252645135 : Int32)).toUInt32 >>> (Int32.toUInt32 (8 : Int32) &&& Int32.toUInt32 31)).toInt32) + (((((((x0 - ((x0.toUInt32 >>> (Int32.toUInt32 (1 : Int32) &&& Int32.toUInt32 31)).toInt32 &&& (1431655765 : Int32))) &&& (858993459 : Int32)) + (((x0 - ((x0.toUInt32 >>> (Int32.toUInt32 (1 : Int32) &&& Int32.toUInt32 31)).toInt32 &&& (1431655765 : Int32))).toUInt32 >>> (Int32.toUInt32 (2 : Int32) &&& Int32.toUInt32 31)).toInt32 &&& (858993459 : Int32))) + ((((x0 - ((x0.toUInt32 >>> (Int32.toUInt32 (1 : Int32) &&& Int32.toUInt32 31)).toInt32 &&& (1431655765 : Int32))) &&& (858993459 : Int32)) + (((x0 - ((x0.toUInt32 >>> (Int32.toUInt32 (1 : Int32) &&& Int32.toUInt32 31)).toInt32 &&& (1431655765 : Int32))).toUInt32 >>> (Int32.toUInt32 (2 : Int32) &&& Int32.toUInt32 31)).toInt32 &&& (858993459 : Int32))).toUInt32 >>> (Int32.toUInt32 (4 : Int32) &&& Int32.toUInt32 31)).toInt32) &&& (252645135 : Int32)) + ((((((x0 - ((x0.toUInt32 >>> (Int32.toUInt32 (1 : Int32) &&& Int32.toUInt32 31)).toInt32 &&& (1431655765 : Int32))) &&& (858993459 : Int32)) + (((x0 - ((x0.toUInt32 >>> (Int32.toUInt32 (1 : Int32) &&& Int32.toUInt32 31)).toInt32 &&& (1431655765 : Int32))).toUInt32 >>> (Int32.toUInt32 (2 : Int32) &&& Int32.toUInt32 31)).toInt32 &&& (858993459 : Int32))) + ((((x0 - ((x0.toUInt32 >>> (Int32.toUInt32 (1 : Int32) &&& Int32.toUInt32 31)).toInt32 &&& (1431655765 : Int32))) &&& (858993459 : Int32)) + (((x0 - ((x0.toUInt32 >>> (Int32.toUInt32 (1 : Int32) &&& Int32.toUInt32 31)).toInt32 &&& (1431655765 : Int32))).toUInt32 >>> (Int32.toUInt32 (2 : Int32) &&& Int32.toUInt32 31)).toInt32 &&& (858993459 : Int32))).toUInt32 >>> (Int32.toUInt32 (4 : Int32) &&& Int32.toUInt32 31)).toInt32) &&& (252645135 : Int32)).toUInt32 >>> (Int32.toUInt32 (8 : Int32) &&& Int32.toUInt32 31)).toInt32).toUInt32 >>> (Int32.toUInt32 (16 : Int32) &&& Int32.toUInt32 31)).toInt32) &&& (63 : Int32)) μ
def Wp_J6_bitCount_0f7a4  (x0 : Int32) (μ : Mm) (q : Int32 → Mm → Prop) : Prop := F_J6_bitCount_0f7a4_e   q x0 μ
set_option maxHeartbeats 2000000 in
theorem b_J6_bitCount_0f7a4_e  {g : GE} {f : FE} {q : Int32 → Mm → Prop} (cx : Cx g f cJ6_bitCount_0f7a4 1 RJ6 0 0 0 0) (hr : (f_M f).sig.returnType = (some .int)) (hl : (f_M f).locks = false) (hQ : f_Q f = MQ (f_b f) (QW g (qI q)) (f_a f) (f_s f) 0 0 (fun q => g.2.2.2 ≤ q))  {x0 : Int32} {μ : Mm} (h : F_J6_bitCount_0f7a4_e   q x0 μ) : KW g f 1 0 0 0 [some (.int x0)] [] μ := by
  unfold F_J6_bitCount_0f7a4_e at h
  refine k_iload_n cx dJ6_bitCount_0f7a4_0 rfl rfl ?_
  refine k_iload_n cx dJ6_bitCount_0f7a4_1 rfl rfl ?_
  refine k_iconst (v := (1 : Int32)) cx dJ6_bitCount_0f7a4_2 (by decide +kernel) ?_
  refine k_iushr cx dJ6_bitCount_0f7a4_3 rfl ?_
  refine k_ldc_w (v := (1431655765 : Int32)) cx kc_J6_265 dJ6_bitCount_0f7a4_4 ?_
  refine k_iand cx dJ6_bitCount_0f7a4_7 ?_
  refine k_isub cx dJ6_bitCount_0f7a4_8 ?_
  refine k_istore_n cx dJ6_bitCount_0f7a4_9 rfl (by decide) ?_
  refine k_iload_n cx dJ6_bitCount_0f7a4_10 rfl rfl ?_
  refine k_ldc_w (v := (858993459 : Int32)) cx kc_J6_266 dJ6_bitCount_0f7a4_11 ?_
  refine k_iand cx dJ6_bitCount_0f7a4_14 ?_
  refine k_iload_n cx dJ6_bitCount_0f7a4_15 rfl rfl ?_
  refine k_iconst (v := (2 : Int32)) cx dJ6_bitCount_0f7a4_16 (by decide +kernel) ?_
  refine k_iushr cx dJ6_bitCount_0f7a4_17 rfl ?_
  refine k_ldc_w (v := (858993459 : Int32)) cx kc_J6_266 dJ6_bitCount_0f7a4_18 ?_
  refine k_iand cx dJ6_bitCount_0f7a4_21 ?_
  refine k_iadd cx dJ6_bitCount_0f7a4_22 ?_
  refine k_istore_n cx dJ6_bitCount_0f7a4_23 rfl (by decide) ?_
  refine k_iload_n cx dJ6_bitCount_0f7a4_24 rfl rfl ?_
  refine k_iload_n cx dJ6_bitCount_0f7a4_25 rfl rfl ?_
  refine k_iconst (v := (4 : Int32)) cx dJ6_bitCount_0f7a4_26 (by decide +kernel) ?_
  refine k_iushr cx dJ6_bitCount_0f7a4_27 rfl ?_
  refine k_iadd cx dJ6_bitCount_0f7a4_28 ?_
  refine k_ldc_w (v := (252645135 : Int32)) cx kc_J6_267 dJ6_bitCount_0f7a4_29 ?_
  refine k_iand cx dJ6_bitCount_0f7a4_32 ?_
  refine k_istore_n cx dJ6_bitCount_0f7a4_33 rfl (by decide) ?_
  refine k_iload_n cx dJ6_bitCount_0f7a4_34 rfl rfl ?_
  refine k_iload_n cx dJ6_bitCount_0f7a4_35 rfl rfl ?_
  refine k_bipush (v := (8 : Int32)) cx dJ6_bitCount_0f7a4_36 (by decide +kernel) ?_
  refine k_iushr cx dJ6_bitCount_0f7a4_38 rfl ?_
  refine k_iadd cx dJ6_bitCount_0f7a4_39 ?_
  refine k_istore_n cx dJ6_bitCount_0f7a4_40 rfl (by decide) ?_
  refine k_iload_n cx dJ6_bitCount_0f7a4_41 rfl rfl ?_
  refine k_iload_n cx dJ6_bitCount_0f7a4_42 rfl rfl ?_
  refine k_bipush (v := (16 : Int32)) cx dJ6_bitCount_0f7a4_43 (by decide +kernel) ?_
  refine k_iushr cx dJ6_bitCount_0f7a4_45 rfl ?_
  refine k_iadd cx dJ6_bitCount_0f7a4_46 ?_
  refine k_istore_n cx dJ6_bitCount_0f7a4_47 rfl (by decide) ?_
  refine k_iload_n cx dJ6_bitCount_0f7a4_48 rfl rfl ?_
  refine k_bipush (v := (63 : Int32)) cx dJ6_bitCount_0f7a4_49 (by decide +kernel) ?_
  refine k_iand cx dJ6_bitCount_0f7a4_51 ?_
  exact k_ret_I cx hr hl hQ dJ6_bitCount_0f7a4_52 h
theorem m_J6_bitCount_0f7a4 {g : GE} {l : Launch} {μ : Mm} {q : Int32 → Mm → Prop} {x0 : Int32}  (h : Wp_J6_bitCount_0f7a4  x0 μ q) : MW g l yJ6_bitCount_0f7a4 cJ6_bitCount_0f7a4 1 (some .int) 0 0 [.int x0] μ (qI q) := by
  refine met_of (by decide) (Nat.le_of_ble_eq_true rfl) (by intro v hv; simp only [List.mem_cons, List.not_mem_nil, or_false] at hv; subst hv; rfl) ?_
  intro f hfl cx hr hl hQ
  exact b_J6_bitCount_0f7a4_e  cx hr hl hQ (h  )
theorem dX2_beyond_0 : decode cX2_beyond 0 = .ok (.aload_n 0, 1) := by decide +kernel
theorem dX2_beyond_1 : decode cX2_beyond 1 = .ok (.getfield 18, 3) := by decide +kernel
theorem dX2_beyond_4 : decode cX2_beyond 4 = .ok (.iload_n 1, 1) := by decide +kernel
theorem dX2_beyond_5 : decode cX2_beyond 5 = .ok (.iaload, 1) := by decide +kernel
theorem dX2_beyond_6 : decode cX2_beyond 6 = .ok (.iload_n 2, 1) := by decide +kernel
theorem dX2_beyond_7 : decode cX2_beyond 7 = .ok (.if_icmp .ne 10, 3) := by decide +kernel
theorem dX2_beyond_10 : decode cX2_beyond 10 = .ok (.aload_n 0, 1) := by decide +kernel
theorem dX2_beyond_11 : decode cX2_beyond 11 = .ok (.getfield 21, 3) := by decide +kernel
theorem dX2_beyond_14 : decode cX2_beyond 14 = .ok (.iload_n 1, 1) := by decide +kernel
theorem dX2_beyond_15 : decode cX2_beyond 15 = .ok (.iaload, 1) := by decide +kernel
theorem dX2_beyond_16 : decode cX2_beyond 16 = .ok (.ireturn, 1) := by decide +kernel
theorem dX2_beyond_17 : decode cX2_beyond 17 = .ok (.aload_n 0, 1) := by decide +kernel
theorem dX2_beyond_18 : decode cX2_beyond 18 = .ok (.getfield 21, 3) := by decide +kernel
theorem dX2_beyond_21 : decode cX2_beyond 21 = .ok (.iload_n 1, 1) := by decide +kernel
theorem dX2_beyond_22 : decode cX2_beyond 22 = .ok (.iaload, 1) := by decide +kernel
theorem dX2_beyond_23 : decode cX2_beyond 23 = .ok (.iload_n 2, 1) := by decide +kernel
theorem dX2_beyond_24 : decode cX2_beyond 24 = .ok (.if_icmp .ne 12, 3) := by decide +kernel
theorem dX2_beyond_27 : decode cX2_beyond 27 = .ok (.aload_n 0, 1) := by decide +kernel
theorem dX2_beyond_28 : decode cX2_beyond 28 = .ok (.getfield 18, 3) := by decide +kernel
theorem dX2_beyond_31 : decode cX2_beyond 31 = .ok (.iload_n 1, 1) := by decide +kernel
theorem dX2_beyond_32 : decode cX2_beyond 32 = .ok (.iaload, 1) := by decide +kernel
theorem dX2_beyond_33 : decode cX2_beyond 33 = .ok (.goto 4, 3) := by decide +kernel
theorem dX2_beyond_36 : decode cX2_beyond 36 = .ok (.iconst (-1), 1) := by decide +kernel
theorem dX2_beyond_37 : decode cX2_beyond 37 = .ok (.ireturn, 1) := by decide +kernel
def F_X2_beyond_e   (q : Int32 → Mm → Prop) (x1 : Int32) (x2 : Int32) (μ : Mm) : Prop :=
  vp_in x1 9 ∧ ((¬ ((μ p_GR_linkStarts (x1).toNatClampNeg) = x2) → vp_in x1 9 ∧ ((¬ ((μ p_GR_linkEnds (x1).toNatClampNeg) = x2) → q (-1 : Int32) μ) ∧ ((μ p_GR_linkEnds (x1).toNatClampNeg) = x2 → vp_in x1 9 ∧ q (μ p_GR_linkStarts (x1).toNatClampNeg) μ))) ∧ ((μ p_GR_linkStarts (x1).toNatClampNeg) = x2 → vp_in x1 9 ∧ q (μ p_GR_linkEnds (x1).toNatClampNeg) μ))
def Wp_X2_beyond  (x1 : Int32) (x2 : Int32) (μ : Mm) (q : Int32 → Mm → Prop) : Prop := F_X2_beyond_e   q x1 x2 μ
set_option maxHeartbeats 2000000 in
theorem b_X2_beyond_e  {g : GE} {f : FE} {q : Int32 → Mm → Prop} (cx : Cx g f cX2_beyond 3 RX2 0 0 0 0) (hr : (f_M f).sig.returnType = (some .int)) (hl : (f_M f).locks = false) (hQ : f_Q f = MQ (f_b f) (QW g (qI q)) (f_a f) (f_s f) 0 0 (fun q => g.2.2.2 ≤ q))  {x1 : Int32} {x2 : Int32} {μ : Mm} (h : F_X2_beyond_e   q x1 x2 μ) : KW g f 3 0 0 0 [some (.ref p_GR), some (.int x1), some (.int x2)] [] μ := by
  unfold F_X2_beyond_e at h
  refine k_aload_n cx dX2_beyond_0 rfl rfl ?_
  refine k_get (o := some p_GR_linkStarts) (v := .ref p_GR_linkStarts) cx fl_X2_18 ob_GR rfl rfl dX2_beyond_1 ?_
  refine k_iload_n cx dX2_beyond_4 rfl rfl ?_
  obtain ⟨hi, h⟩ := h
  refine k_iald cx ar_GR_linkStarts hi dX2_beyond_5 ?_
  refine k_iload_n cx dX2_beyond_6 rfl rfl ?_
  refine k_icmp_ne (tgt := 17) cx dX2_beyond_7 (by decide) (fun hc => ?_) (fun hc => ?_)
  · replace h := h.1 hc
    refine k_aload_n cx dX2_beyond_17 rfl rfl ?_
    refine k_get (o := some p_GR_linkEnds) (v := .ref p_GR_linkEnds) cx fl_X2_21 ob_GR rfl rfl dX2_beyond_18 ?_
    refine k_iload_n cx dX2_beyond_21 rfl rfl ?_
    obtain ⟨hi, h⟩ := h
    refine k_iald cx ar_GR_linkEnds hi dX2_beyond_22 ?_
    refine k_iload_n cx dX2_beyond_23 rfl rfl ?_
    refine k_icmp_ne (tgt := 36) cx dX2_beyond_24 (by decide) (fun hc => ?_) (fun hc => ?_)
    · replace h := h.1 hc
      refine k_iconst (v := (-1 : Int32)) cx dX2_beyond_36 (by decide +kernel) ?_
      exact k_ret_I cx hr hl hQ dX2_beyond_37 h
    · replace h := h.2 hc
      refine k_aload_n cx dX2_beyond_27 rfl rfl ?_
      refine k_get (o := some p_GR_linkStarts) (v := .ref p_GR_linkStarts) cx fl_X2_18 ob_GR rfl rfl dX2_beyond_28 ?_
      refine k_iload_n cx dX2_beyond_31 rfl rfl ?_
      obtain ⟨hi, h⟩ := h
      refine k_iald cx ar_GR_linkStarts hi dX2_beyond_32 ?_
      refine k_goto (tgt := 37) cx dX2_beyond_33 (by decide) ?_
      exact k_ret_I cx hr hl hQ dX2_beyond_37 h
  · replace h := h.2 hc
    refine k_aload_n cx dX2_beyond_10 rfl rfl ?_
    refine k_get (o := some p_GR_linkEnds) (v := .ref p_GR_linkEnds) cx fl_X2_21 ob_GR rfl rfl dX2_beyond_11 ?_
    refine k_iload_n cx dX2_beyond_14 rfl rfl ?_
    obtain ⟨hi, h⟩ := h
    refine k_iald cx ar_GR_linkEnds hi dX2_beyond_15 ?_
    exact k_ret_I cx hr hl hQ dX2_beyond_16 h
theorem m_X2_beyond {g : GE} {l : Launch} {μ : Mm} {q : Int32 → Mm → Prop} {x1 : Int32} {x2 : Int32}  (h : Wp_X2_beyond  x1 x2 μ q) : MW g l yX2_beyond cX2_beyond 3 (some .int) 0 0 [.ref p_GR, .int x1, .int x2] μ (qI q) := by
  refine met_of (by decide) (Nat.le_of_ble_eq_true rfl) (by intro v hv; simp only [List.mem_cons, List.not_mem_nil, or_false] at hv; rcases hv with rfl | rfl | rfl <;> rfl) ?_
  intro f hfl cx hr hl hQ
  exact b_X2_beyond_e  cx hr hl hQ (h  )
theorem dX2_keepWay_0 : decode cX2_keepWay 0 = .ok (.iload_n 1, 1) := by decide +kernel
theorem dX2_keepWay_1 : decode cX2_keepWay 1 = .ok (.ifCond .lt 47, 3) := by decide +kernel
theorem dX2_keepWay_4 : decode cX2_keepWay 4 = .ok (.iload_n 1, 1) := by decide +kernel
theorem dX2_keepWay_5 : decode cX2_keepWay 5 = .ok (.aload_n 0, 1) := by decide +kernel
theorem dX2_keepWay_6 : decode cX2_keepWay 6 = .ok (.getfield 29, 3) := by decide +kernel
theorem dX2_keepWay_9 : decode cX2_keepWay 9 = .ok (.arraylength, 1) := by decide +kernel
theorem dX2_keepWay_10 : decode cX2_keepWay 10 = .ok (.if_icmp .ge 38, 3) := by decide +kernel
theorem dX2_keepWay_13 : decode cX2_keepWay 13 = .ok (.aload_n 0, 1) := by decide +kernel
theorem dX2_keepWay_14 : decode cX2_keepWay 14 = .ok (.getfield 29, 3) := by decide +kernel
theorem dX2_keepWay_17 : decode cX2_keepWay 17 = .ok (.iload_n 1, 1) := by decide +kernel
theorem dX2_keepWay_18 : decode cX2_keepWay 18 = .ok (.iaload, 1) := by decide +kernel
theorem dX2_keepWay_19 : decode cX2_keepWay 19 = .ok (.bipush 15, 2) := by decide +kernel
theorem dX2_keepWay_21 : decode cX2_keepWay 21 = .ok (.if_icmp .ge 27, 3) := by decide +kernel
theorem dX2_keepWay_24 : decode cX2_keepWay 24 = .ok (.aload_n 0, 1) := by decide +kernel
theorem dX2_keepWay_25 : decode cX2_keepWay 25 = .ok (.getfield 26, 3) := by decide +kernel
theorem dX2_keepWay_28 : decode cX2_keepWay 28 = .ok (.iload_n 1, 1) := by decide +kernel
theorem dX2_keepWay_29 : decode cX2_keepWay 29 = .ok (.aaload, 1) := by decide +kernel
theorem dX2_keepWay_30 : decode cX2_keepWay 30 = .ok (.aload_n 0, 1) := by decide +kernel
theorem dX2_keepWay_31 : decode cX2_keepWay 31 = .ok (.getfield 29, 3) := by decide +kernel
theorem dX2_keepWay_34 : decode cX2_keepWay 34 = .ok (.iload_n 1, 1) := by decide +kernel
theorem dX2_keepWay_35 : decode cX2_keepWay 35 = .ok (.iaload, 1) := by decide +kernel
theorem dX2_keepWay_36 : decode cX2_keepWay 36 = .ok (.iload_n 2, 1) := by decide +kernel
theorem dX2_keepWay_37 : decode cX2_keepWay 37 = .ok (.iastore, 1) := by decide +kernel
theorem dX2_keepWay_38 : decode cX2_keepWay 38 = .ok (.aload_n 0, 1) := by decide +kernel
theorem dX2_keepWay_39 : decode cX2_keepWay 39 = .ok (.getfield 29, 3) := by decide +kernel
theorem dX2_keepWay_42 : decode cX2_keepWay 42 = .ok (.iload_n 1, 1) := by decide +kernel
theorem dX2_keepWay_43 : decode cX2_keepWay 43 = .ok (.dup2, 1) := by decide +kernel
theorem dX2_keepWay_44 : decode cX2_keepWay 44 = .ok (.iaload, 1) := by decide +kernel
theorem dX2_keepWay_45 : decode cX2_keepWay 45 = .ok (.iconst 1, 1) := by decide +kernel
theorem dX2_keepWay_46 : decode cX2_keepWay 46 = .ok (.iadd, 1) := by decide +kernel
theorem dX2_keepWay_47 : decode cX2_keepWay 47 = .ok (.iastore, 1) := by decide +kernel
theorem dX2_keepWay_48 : decode cX2_keepWay 48 = .ok (.return_, 1) := by decide +kernel
def F_X2_keepWay_e   (q : Mm → Prop) (x1 : Int32) (x2 : Int32) (μ : Mm) : Prop :=
  ((x1 < 0 → q μ) ∧ (¬ (x1 < 0) → (((36 : Int32) ≤ x1 → q μ) ∧ (¬ ((36 : Int32) ≤ x1) → vp_in x1 36 ∧ (((15 : Int32) ≤ (μ p_GR_wayCounts (x1).toNatClampNeg) → q μ) ∧ (¬ ((15 : Int32) ≤ (μ p_GR_wayCounts (x1).toNatClampNeg)) → vp_in x1 36 ∧ vp_in x1 36 ∧ vp_in (μ p_GR_wayCounts (x1).toNatClampNeg) 15 ∧ vp_in x1 36 ∧ vp_in x1 36 ∧ q (up2 (up2 μ (p_WY + (x1).toNatClampNeg) ((μ p_GR_wayCounts (x1).toNatClampNeg)).toNatClampNeg x2) p_GR_wayCounts (x1).toNatClampNeg (((up2 μ (p_WY + (x1).toNatClampNeg) ((μ p_GR_wayCounts (x1).toNatClampNeg)).toNatClampNeg x2) p_GR_wayCounts (x1).toNatClampNeg) + (1 : Int32)))))))))
def Wp_X2_keepWay  (x1 : Int32) (x2 : Int32) (μ : Mm) (q : Mm → Prop) : Prop := F_X2_keepWay_e   q x1 x2 μ
set_option maxHeartbeats 2000000 in
theorem b_X2_keepWay_e  {g : GE} {f : FE} {q : Mm → Prop} (cx : Cx g f cX2_keepWay 3 RX2 0 0 0 0) (hr : (f_M f).sig.returnType = none) (hl : (f_M f).locks = false) (hQ : f_Q f = MQ (f_b f) (QW g (qV q)) (f_a f) (f_s f) 0 0 (fun q => g.2.2.2 ≤ q))  {x1 : Int32} {x2 : Int32} {μ : Mm} (h : F_X2_keepWay_e   q x1 x2 μ) : KW g f 3 0 0 0 [some (.ref p_GR), some (.int x1), some (.int x2)] [] μ := by
  unfold F_X2_keepWay_e at h
  refine k_iload_n cx dX2_keepWay_0 rfl rfl ?_
  refine k_if_lt (tgt := 48) cx dX2_keepWay_1 (by decide) (fun hc => ?_) (fun hc => ?_)
  · replace h := h.1 hc
    exact k_ret_V cx hr hl hQ dX2_keepWay_48 h
  · replace h := h.2 hc
    refine k_iload_n cx dX2_keepWay_4 rfl rfl ?_
    refine k_aload_n cx dX2_keepWay_5 rfl rfl ?_
    refine k_get (o := some p_GR_wayCounts) (v := .ref p_GR_wayCounts) cx fl_X2_29 ob_GR rfl rfl dX2_keepWay_6 ?_
    refine k_alen (v := (36 : Int32)) (t := 0) cx ar_GR_wayCounts (by decide) rfl (by decide +kernel) dX2_keepWay_9 ?_
    refine k_icmp_ge (tgt := 48) cx dX2_keepWay_10 (by decide) (fun hc => ?_) (fun hc => ?_)
    · replace h := h.1 hc
      exact k_ret_V cx hr hl hQ dX2_keepWay_48 h
    · replace h := h.2 hc
      refine k_aload_n cx dX2_keepWay_13 rfl rfl ?_
      refine k_get (o := some p_GR_wayCounts) (v := .ref p_GR_wayCounts) cx fl_X2_29 ob_GR rfl rfl dX2_keepWay_14 ?_
      refine k_iload_n cx dX2_keepWay_17 rfl rfl ?_
      obtain ⟨hi, h⟩ := h
      refine k_iald cx ar_GR_wayCounts hi dX2_keepWay_18 ?_
      refine k_bipush (v := (15 : Int32)) cx dX2_keepWay_19 (by decide +kernel) ?_
      refine k_icmp_ge (tgt := 48) cx dX2_keepWay_21 (by decide) (fun hc => ?_) (fun hc => ?_)
      · replace h := h.1 hc
        exact k_ret_V cx hr hl hQ dX2_keepWay_48 h
      · replace h := h.2 hc
        refine k_aload_n cx dX2_keepWay_24 rfl rfl ?_
        refine k_get (o := some p_GR_ways) (v := .ref p_GR_ways) cx fl_X2_26 ob_GR rfl rfl dX2_keepWay_25 ?_
        refine k_iload_n cx dX2_keepWay_28 rfl rfl ?_
        obtain ⟨hi1, h⟩ := h
        refine k_aald_GR_ways cx hi1 dX2_keepWay_29 ?_
        refine k_aload_n cx dX2_keepWay_30 rfl rfl ?_
        refine k_get (o := some p_GR_wayCounts) (v := .ref p_GR_wayCounts) cx fl_X2_29 ob_GR rfl rfl dX2_keepWay_31 ?_
        refine k_iload_n cx dX2_keepWay_34 rfl rfl ?_
        obtain ⟨hi, h⟩ := h
        refine k_iald cx ar_GR_wayCounts hi dX2_keepWay_35 ?_
        refine k_iload_n cx dX2_keepWay_36 rfl rfl ?_
        obtain ⟨hi, h⟩ := h
        refine k_iast cx (ar_WY hi1) hi dX2_keepWay_37 ?_
        refine k_aload_n cx dX2_keepWay_38 rfl rfl ?_
        refine k_get (o := some p_GR_wayCounts) (v := .ref p_GR_wayCounts) cx fl_X2_29 ob_GR rfl rfl dX2_keepWay_39 ?_
        refine k_iload_n cx dX2_keepWay_42 rfl rfl ?_
        refine k_dup2 cx dX2_keepWay_43 rfl rfl ?_
        obtain ⟨hi, h⟩ := h
        refine k_iald cx ar_GR_wayCounts hi dX2_keepWay_44 ?_
        refine k_iconst (v := (1 : Int32)) cx dX2_keepWay_45 (by decide +kernel) ?_
        refine k_iadd cx dX2_keepWay_46 ?_
        obtain ⟨hi, h⟩ := h
        refine k_iast cx ar_GR_wayCounts hi dX2_keepWay_47 ?_
        exact k_ret_V cx hr hl hQ dX2_keepWay_48 h
theorem m_X2_keepWay {g : GE} {l : Launch} {μ : Mm} {q : Mm → Prop} {x1 : Int32} {x2 : Int32}  (h : Wp_X2_keepWay  x1 x2 μ q) : MW g l yX2_keepWay cX2_keepWay 3 none 0 0 [.ref p_GR, .int x1, .int x2] μ (qV q) := by
  refine met_of (by decide) (Nat.le_of_ble_eq_true rfl) (by intro v hv; simp only [List.mem_cons, List.not_mem_nil, or_false] at hv; rcases hv with rfl | rfl | rfl <;> rfl) ?_
  intro f hfl cx hr hl hQ
  exact b_X2_keepWay_e  cx hr hl hQ (h  )
theorem dX2_pairOf_0 : decode cX2_pairOf 0 = .ok (.iload_n 0, 1) := by decide +kernel
theorem dX2_pairOf_1 : decode cX2_pairOf 1 = .ok (.bipush 6, 2) := by decide +kernel
theorem dX2_pairOf_3 : decode cX2_pairOf 3 = .ok (.imul, 1) := by decide +kernel
theorem dX2_pairOf_4 : decode cX2_pairOf 4 = .ok (.iload_n 1, 1) := by decide +kernel
theorem dX2_pairOf_5 : decode cX2_pairOf 5 = .ok (.iadd, 1) := by decide +kernel
theorem dX2_pairOf_6 : decode cX2_pairOf 6 = .ok (.ireturn, 1) := by decide +kernel
def F_X2_pairOf_e   (q : Int32 → Mm → Prop) (x0 : Int32) (x1 : Int32) (μ : Mm) : Prop :=
  q ((x0 * (6 : Int32)) + x1) μ
def Wp_X2_pairOf  (x0 : Int32) (x1 : Int32) (μ : Mm) (q : Int32 → Mm → Prop) : Prop := F_X2_pairOf_e   q x0 x1 μ
set_option maxHeartbeats 2000000 in
theorem b_X2_pairOf_e  {g : GE} {f : FE} {q : Int32 → Mm → Prop} (cx : Cx g f cX2_pairOf 2 RX2 0 0 0 0) (hr : (f_M f).sig.returnType = (some .int)) (hl : (f_M f).locks = false) (hQ : f_Q f = MQ (f_b f) (QW g (qI q)) (f_a f) (f_s f) 0 0 (fun q => g.2.2.2 ≤ q))  {x0 : Int32} {x1 : Int32} {μ : Mm} (h : F_X2_pairOf_e   q x0 x1 μ) : KW g f 2 0 0 0 [some (.int x0), some (.int x1)] [] μ := by
  unfold F_X2_pairOf_e at h
  refine k_iload_n cx dX2_pairOf_0 rfl rfl ?_
  refine k_bipush (v := (6 : Int32)) cx dX2_pairOf_1 (by decide +kernel) ?_
  refine k_imul cx dX2_pairOf_3 ?_
  refine k_iload_n cx dX2_pairOf_4 rfl rfl ?_
  refine k_iadd cx dX2_pairOf_5 ?_
  exact k_ret_I cx hr hl hQ dX2_pairOf_6 h
theorem m_X2_pairOf {g : GE} {l : Launch} {μ : Mm} {q : Int32 → Mm → Prop} {x0 : Int32} {x1 : Int32}  (h : Wp_X2_pairOf  x0 x1 μ q) : MW g l yX2_pairOf cX2_pairOf 2 (some .int) 0 0 [.int x0, .int x1] μ (qI q) := by
  refine met_of (by decide) (Nat.le_of_ble_eq_true rfl) (by intro v hv; simp only [List.mem_cons, List.not_mem_nil, or_false] at hv; rcases hv with rfl | rfl <;> rfl) ?_
  intro f hfl cx hr hl hQ
  exact b_X2_pairOf_e  cx hr hl hQ (h  )
end
