section
-- ===== PART A: goes FIRST, ahead of the names: the tables' words, and 'selects' of the private methods out of them =====
/-- a private method of a class that the tables say can be made, by its rows of tables_1 -/
def lw_okq (q : MethodName × Nat) : Prop := (q.1.cls ≠ "java/lang/invoke/MethodHandle" ∧ q.1.cls ≠ "java/lang/invoke/VarHandle") ∧ Cond.instantiable q.1.cls q.2 ∈ tables_1 ∧ Cond.privateMethod q.1 ∈ tables_1 ∧ Cond.instanceMethod q.1 ∈ tables_1
theorem lw_p0 : lw_okq (⟨"java/util/ArrayList", "add", "(Ljava/lang/Object;[Ljava/lang/Object;I)V"⟩, 3) := ⟨⟨by decide +kernel, by decide +kernel⟩, List.mem_of_getElem? (i := 33) (by decide +kernel), List.mem_of_getElem? (i := 117) (by decide +kernel), List.mem_of_getElem? (i := 118) (by decide +kernel)⟩
theorem lw_p1 : lw_okq (⟨"java/util/ArrayList", "grow", "()[Ljava/lang/Object;"⟩, 3) := ⟨⟨by decide +kernel, by decide +kernel⟩, List.mem_of_getElem? (i := 33) (by decide +kernel), List.mem_of_getElem? (i := 121) (by decide +kernel), List.mem_of_getElem? (i := 122) (by decide +kernel)⟩
theorem lw_p2 : lw_okq (⟨"java/util/ArrayList", "grow", "(I)[Ljava/lang/Object;"⟩, 3) := ⟨⟨by decide +kernel, by decide +kernel⟩, List.mem_of_getElem? (i := 33) (by decide +kernel), List.mem_of_getElem? (i := 125) (by decide +kernel), List.mem_of_getElem? (i := 126) (by decide +kernel)⟩
theorem lw_p3 : lw_okq (⟨"java/lang/Throwable", "fillInStackTrace", "(I)Ljava/lang/Throwable;"⟩, 6) := ⟨⟨by decide +kernel, by decide +kernel⟩, List.mem_of_getElem? (i := 285) (by decide +kernel), List.mem_of_getElem? (i := 283) (by decide +kernel), List.mem_of_getElem? (i := 284) (by decide +kernel)⟩
theorem lw_p4 : lw_okq (⟨"QuayMesh", "isTaken", "(II)Z"⟩, 8) := ⟨⟨by decide +kernel, by decide +kernel⟩, List.mem_of_getElem? (i := 25) (by decide +kernel), List.mem_of_getElem? (i := 331) (by decide +kernel), List.mem_of_getElem? (i := 332) (by decide +kernel)⟩
theorem lw_p5 : lw_okq (⟨"QuayMesh", "shipNumbered", "(I)LQuayMesh$Ship;"⟩, 8) := ⟨⟨by decide +kernel, by decide +kernel⟩, List.mem_of_getElem? (i := 25) (by decide +kernel), List.mem_of_getElem? (i := 391) (by decide +kernel), List.mem_of_getElem? (i := 392) (by decide +kernel)⟩
theorem lw_p6 : lw_okq (⟨"QuayMesh", "boxNumbered", "(I)LQuayMesh$Box;"⟩, 8) := ⟨⟨by decide +kernel, by decide +kernel⟩, List.mem_of_getElem? (i := 25) (by decide +kernel), List.mem_of_getElem? (i := 453) (by decide +kernel), List.mem_of_getElem? (i := 454) (by decide +kernel)⟩
theorem lw_p7 : lw_okq (⟨"QuayMesh", "leastBusyFor", "(I)LQuayMesh$Worker;"⟩, 8) := ⟨⟨by decide +kernel, by decide +kernel⟩, List.mem_of_getElem? (i := 25) (by decide +kernel), List.mem_of_getElem? (i := 464) (by decide +kernel), List.mem_of_getElem? (i := 465) (by decide +kernel)⟩
theorem lw_p8 : lw_okq (⟨"QuayMesh", "workerNumbered", "(I)LQuayMesh$Worker;"⟩, 8) := ⟨⟨by decide +kernel, by decide +kernel⟩, List.mem_of_getElem? (i := 25) (by decide +kernel), List.mem_of_getElem? (i := 468) (by decide +kernel), List.mem_of_getElem? (i := 469) (by decide +kernel)⟩
theorem lw_p9 : lw_okq (⟨"QuayMesh", "craneNumbered", "(I)LQuayMesh$Crane;"⟩, 8) := ⟨⟨by decide +kernel, by decide +kernel⟩, List.mem_of_getElem? (i := 25) (by decide +kernel), List.mem_of_getElem? (i := 472) (by decide +kernel), List.mem_of_getElem? (i := 473) (by decide +kernel)⟩
theorem lw_p10 : lw_okq (⟨"QuayMesh", "truckNumbered", "(I)LQuayMesh$Truck;"⟩, 8) := ⟨⟨by decide +kernel, by decide +kernel⟩, List.mem_of_getElem? (i := 25) (by decide +kernel), List.mem_of_getElem? (i := 476) (by decide +kernel), List.mem_of_getElem? (i := 477) (by decide +kernel)⟩
theorem lw_p11 : lw_okq (⟨"QuayMesh", "handOver", "(LQuayMesh$Worker;LQuayMesh$Message;)I"⟩, 8) := ⟨⟨by decide +kernel, by decide +kernel⟩, List.mem_of_getElem? (i := 25) (by decide +kernel), List.mem_of_getElem? (i := 528) (by decide +kernel), List.mem_of_getElem? (i := 529) (by decide +kernel)⟩
theorem lw_p12 : lw_okq (⟨"QuayMesh", "acknowledge", "(LQuayMesh$Worker;LQuayMesh$Message;)I"⟩, 8) := ⟨⟨by decide +kernel, by decide +kernel⟩, List.mem_of_getElem? (i := 25) (by decide +kernel), List.mem_of_getElem? (i := 535) (by decide +kernel), List.mem_of_getElem? (i := 536) (by decide +kernel)⟩
theorem lw_p13 : lw_okq (⟨"java/util/ArrayList", "fastRemove", "([Ljava/lang/Object;I)V"⟩, 3) := ⟨⟨by decide +kernel, by decide +kernel⟩, List.mem_of_getElem? (i := 33) (by decide +kernel), List.mem_of_getElem? (i := 550) (by decide +kernel), List.mem_of_getElem? (i := 551) (by decide +kernel)⟩
theorem lw_p14 : lw_okq (⟨"QuayMesh", "lift", "(LQuayMesh$Crane;LQuayMesh$Message;)I"⟩, 8) := ⟨⟨by decide +kernel, by decide +kernel⟩, List.mem_of_getElem? (i := 25) (by decide +kernel), List.mem_of_getElem? (i := 559) (by decide +kernel), List.mem_of_getElem? (i := 560) (by decide +kernel)⟩
theorem lw_p15 : lw_okq (⟨"QuayMesh", "canGo", "(II)Z"⟩, 8) := ⟨⟨by decide +kernel, by decide +kernel⟩, List.mem_of_getElem? (i := 25) (by decide +kernel), List.mem_of_getElem? (i := 563) (by decide +kernel), List.mem_of_getElem? (i := 564) (by decide +kernel)⟩
def lw_privs_1 : List (MethodName × Nat) := [(⟨"java/util/ArrayList", "add", "(Ljava/lang/Object;[Ljava/lang/Object;I)V"⟩, 3), (⟨"java/util/ArrayList", "grow", "()[Ljava/lang/Object;"⟩, 3), (⟨"java/util/ArrayList", "grow", "(I)[Ljava/lang/Object;"⟩, 3), (⟨"java/lang/Throwable", "fillInStackTrace", "(I)Ljava/lang/Throwable;"⟩, 6), (⟨"QuayMesh", "isTaken", "(II)Z"⟩, 8), (⟨"QuayMesh", "shipNumbered", "(I)LQuayMesh$Ship;"⟩, 8), (⟨"QuayMesh", "boxNumbered", "(I)LQuayMesh$Box;"⟩, 8), (⟨"QuayMesh", "leastBusyFor", "(I)LQuayMesh$Worker;"⟩, 8), (⟨"QuayMesh", "workerNumbered", "(I)LQuayMesh$Worker;"⟩, 8), (⟨"QuayMesh", "craneNumbered", "(I)LQuayMesh$Crane;"⟩, 8), (⟨"QuayMesh", "truckNumbered", "(I)LQuayMesh$Truck;"⟩, 8), (⟨"QuayMesh", "handOver", "(LQuayMesh$Worker;LQuayMesh$Message;)I"⟩, 8), (⟨"QuayMesh", "acknowledge", "(LQuayMesh$Worker;LQuayMesh$Message;)I"⟩, 8), (⟨"java/util/ArrayList", "fastRemove", "([Ljava/lang/Object;I)V"⟩, 3), (⟨"QuayMesh", "lift", "(LQuayMesh$Crane;LQuayMesh$Message;)I"⟩, 8), (⟨"QuayMesh", "canGo", "(II)Z"⟩, 8)]
theorem lw_r1 : ∀ q ∈ lw_privs_1, lw_okq q := List.forall_mem_cons.mpr ⟨lw_p0, List.forall_mem_cons.mpr ⟨lw_p1, List.forall_mem_cons.mpr ⟨lw_p2, List.forall_mem_cons.mpr ⟨lw_p3, List.forall_mem_cons.mpr ⟨lw_p4, List.forall_mem_cons.mpr ⟨lw_p5, List.forall_mem_cons.mpr ⟨lw_p6, List.forall_mem_cons.mpr ⟨lw_p7, List.forall_mem_cons.mpr ⟨lw_p8, List.forall_mem_cons.mpr ⟨lw_p9, List.forall_mem_cons.mpr ⟨lw_p10, List.forall_mem_cons.mpr ⟨lw_p11, List.forall_mem_cons.mpr ⟨lw_p12, List.forall_mem_cons.mpr ⟨lw_p13, List.forall_mem_cons.mpr ⟨lw_p14, List.forall_mem_cons.mpr ⟨lw_p15, fun _ h => absurd h List.not_mem_nil⟩⟩⟩⟩⟩⟩⟩⟩⟩⟩⟩⟩⟩⟩⟩⟩
theorem lw_p16 : lw_okq (⟨"QuayMesh", "countAt", "(II)I"⟩, 8) := ⟨⟨by decide +kernel, by decide +kernel⟩, List.mem_of_getElem? (i := 25) (by decide +kernel), List.mem_of_getElem? (i := 567) (by decide +kernel), List.mem_of_getElem? (i := 568) (by decide +kernel)⟩
theorem lw_p17 : lw_okq (⟨"QuayMesh", "noteMove", "(LQuayMesh$Message;)V"⟩, 8) := ⟨⟨by decide +kernel, by decide +kernel⟩, List.mem_of_getElem? (i := 25) (by decide +kernel), List.mem_of_getElem? (i := 579) (by decide +kernel), List.mem_of_getElem? (i := 580) (by decide +kernel)⟩
theorem lw_p18 : lw_okq (⟨"QuayMesh", "finish", "(LQuayMesh$Truck;LQuayMesh$Message;)I"⟩, 8) := ⟨⟨by decide +kernel, by decide +kernel⟩, List.mem_of_getElem? (i := 25) (by decide +kernel), List.mem_of_getElem? (i := 601) (by decide +kernel), List.mem_of_getElem? (i := 602) (by decide +kernel)⟩
theorem lw_p19 : lw_okq (⟨"QuayMesh", "canPutDown", "(LQuayMesh$Message;)Z"⟩, 8) := ⟨⟨by decide +kernel, by decide +kernel⟩, List.mem_of_getElem? (i := 25) (by decide +kernel), List.mem_of_getElem? (i := 605) (by decide +kernel), List.mem_of_getElem? (i := 606) (by decide +kernel)⟩
theorem lw_p20 : lw_okq (⟨"QuayMesh", "putDown", "(LQuayMesh$Message;)V"⟩, 8) := ⟨⟨by decide +kernel, by decide +kernel⟩, List.mem_of_getElem? (i := 25) (by decide +kernel), List.mem_of_getElem? (i := 613) (by decide +kernel), List.mem_of_getElem? (i := 614) (by decide +kernel)⟩
theorem lw_p21 : lw_okq (⟨"QuayMesh", "canTake", "(ILQuayMesh$Box;)Z"⟩, 8) := ⟨⟨by decide +kernel, by decide +kernel⟩, List.mem_of_getElem? (i := 25) (by decide +kernel), List.mem_of_getElem? (i := 621) (by decide +kernel), List.mem_of_getElem? (i := 622) (by decide +kernel)⟩
theorem lw_p22 : lw_okq (⟨"QuayMesh", "isUppermost", "(LQuayMesh$Box;)Z"⟩, 8) := ⟨⟨by decide +kernel, by decide +kernel⟩, List.mem_of_getElem? (i := 25) (by decide +kernel), List.mem_of_getElem? (i := 625) (by decide +kernel), List.mem_of_getElem? (i := 626) (by decide +kernel)⟩
theorem lw_p23 : lw_okq (⟨"QuayMesh", "isInAQueue", "(LQuayMesh$Message;)Z"⟩, 8) := ⟨⟨by decide +kernel, by decide +kernel⟩, List.mem_of_getElem? (i := 25) (by decide +kernel), List.mem_of_getElem? (i := 644) (by decide +kernel), List.mem_of_getElem? (i := 645) (by decide +kernel)⟩
theorem lw_p24 : lw_okq (⟨"QuayMesh", "slotsLeft", "(II)I"⟩, 8) := ⟨⟨by decide +kernel, by decide +kernel⟩, List.mem_of_getElem? (i := 25) (by decide +kernel), List.mem_of_getElem? (i := 684) (by decide +kernel), List.mem_of_getElem? (i := 685) (by decide +kernel)⟩
theorem lw_p25 : lw_okq (⟨"QuayMesh", "canComeOut", "(LQuayMesh$Box;I)Z"⟩, 8) := ⟨⟨by decide +kernel, by decide +kernel⟩, List.mem_of_getElem? (i := 25) (by decide +kernel), List.mem_of_getElem? (i := 692) (by decide +kernel), List.mem_of_getElem? (i := 693) (by decide +kernel)⟩
theorem lw_p26 : lw_okq (⟨"QuayMesh", "lastLoggedMoveOf", "(LQuayMesh$Box;)LQuayMesh$Message;"⟩, 8) := ⟨⟨by decide +kernel, by decide +kernel⟩, List.mem_of_getElem? (i := 25) (by decide +kernel), List.mem_of_getElem? (i := 728) (by decide +kernel), List.mem_of_getElem? (i := 729) (by decide +kernel)⟩
theorem lw_p27 : lw_okq (⟨"QuayMeshModel", "isFree", "(II)Z"⟩, 35) := ⟨⟨by decide +kernel, by decide +kernel⟩, List.mem_of_getElem? (i := 805) (by decide +kernel), List.mem_of_getElem? (i := 933) (by decide +kernel), List.mem_of_getElem? (i := 934) (by decide +kernel)⟩
theorem lw_p28 : lw_okq (⟨"QuayMeshModel", "isShip", "(I)Z"⟩, 35) := ⟨⟨by decide +kernel, by decide +kernel⟩, List.mem_of_getElem? (i := 805) (by decide +kernel), List.mem_of_getElem? (i := 941) (by decide +kernel), List.mem_of_getElem? (i := 942) (by decide +kernel)⟩
theorem lw_p29 : lw_okq (⟨"QuayMeshModel", "isBox", "(I)Z"⟩, 35) := ⟨⟨by decide +kernel, by decide +kernel⟩, List.mem_of_getElem? (i := 805) (by decide +kernel), List.mem_of_getElem? (i := 956) (by decide +kernel), List.mem_of_getElem? (i := 957) (by decide +kernel)⟩
theorem lw_p30 : lw_okq (⟨"QuayMeshModel", "freest", "(I)I"⟩, 35) := ⟨⟨by decide +kernel, by decide +kernel⟩, List.mem_of_getElem? (i := 805) (by decide +kernel), List.mem_of_getElem? (i := 963) (by decide +kernel), List.mem_of_getElem? (i := 964) (by decide +kernel)⟩
theorem lw_p31 : lw_okq (⟨"QuayMeshModel", "joins", "(II)V"⟩, 35) := ⟨⟨by decide +kernel, by decide +kernel⟩, List.mem_of_getElem? (i := 805) (by decide +kernel), List.mem_of_getElem? (i := 967) (by decide +kernel), List.mem_of_getElem? (i := 968) (by decide +kernel)⟩
def lw_privs_2 : List (MethodName × Nat) := [(⟨"QuayMesh", "countAt", "(II)I"⟩, 8), (⟨"QuayMesh", "noteMove", "(LQuayMesh$Message;)V"⟩, 8), (⟨"QuayMesh", "finish", "(LQuayMesh$Truck;LQuayMesh$Message;)I"⟩, 8), (⟨"QuayMesh", "canPutDown", "(LQuayMesh$Message;)Z"⟩, 8), (⟨"QuayMesh", "putDown", "(LQuayMesh$Message;)V"⟩, 8), (⟨"QuayMesh", "canTake", "(ILQuayMesh$Box;)Z"⟩, 8), (⟨"QuayMesh", "isUppermost", "(LQuayMesh$Box;)Z"⟩, 8), (⟨"QuayMesh", "isInAQueue", "(LQuayMesh$Message;)Z"⟩, 8), (⟨"QuayMesh", "slotsLeft", "(II)I"⟩, 8), (⟨"QuayMesh", "canComeOut", "(LQuayMesh$Box;I)Z"⟩, 8), (⟨"QuayMesh", "lastLoggedMoveOf", "(LQuayMesh$Box;)LQuayMesh$Message;"⟩, 8), (⟨"QuayMeshModel", "isFree", "(II)Z"⟩, 35), (⟨"QuayMeshModel", "isShip", "(I)Z"⟩, 35), (⟨"QuayMeshModel", "isBox", "(I)Z"⟩, 35), (⟨"QuayMeshModel", "freest", "(I)I"⟩, 35), (⟨"QuayMeshModel", "joins", "(II)V"⟩, 35)]
theorem lw_r2 : ∀ q ∈ lw_privs_2, lw_okq q := List.forall_mem_cons.mpr ⟨lw_p16, List.forall_mem_cons.mpr ⟨lw_p17, List.forall_mem_cons.mpr ⟨lw_p18, List.forall_mem_cons.mpr ⟨lw_p19, List.forall_mem_cons.mpr ⟨lw_p20, List.forall_mem_cons.mpr ⟨lw_p21, List.forall_mem_cons.mpr ⟨lw_p22, List.forall_mem_cons.mpr ⟨lw_p23, List.forall_mem_cons.mpr ⟨lw_p24, List.forall_mem_cons.mpr ⟨lw_p25, List.forall_mem_cons.mpr ⟨lw_p26, List.forall_mem_cons.mpr ⟨lw_p27, List.forall_mem_cons.mpr ⟨lw_p28, List.forall_mem_cons.mpr ⟨lw_p29, List.forall_mem_cons.mpr ⟨lw_p30, List.forall_mem_cons.mpr ⟨lw_p31, fun _ h => absurd h List.not_mem_nil⟩⟩⟩⟩⟩⟩⟩⟩⟩⟩⟩⟩⟩⟩⟩⟩
theorem lw_p32 : lw_okq (⟨"QuayMeshModel", "quits", "(II)V"⟩, 35) := ⟨⟨by decide +kernel, by decide +kernel⟩, List.mem_of_getElem? (i := 805) (by decide +kernel), List.mem_of_getElem? (i := 978) (by decide +kernel), List.mem_of_getElem? (i := 979) (by decide +kernel)⟩
theorem lw_p33 : lw_okq (⟨"QuayMeshModel", "acknowledges", "(II)I"⟩, 35) := ⟨⟨by decide +kernel, by decide +kernel⟩, List.mem_of_getElem? (i := 805) (by decide +kernel), List.mem_of_getElem? (i := 982) (by decide +kernel), List.mem_of_getElem? (i := 983) (by decide +kernel)⟩
theorem lw_p34 : lw_okq (⟨"QuayMeshModel", "lifts", "(II)I"⟩, 35) := ⟨⟨by decide +kernel, by decide +kernel⟩, List.mem_of_getElem? (i := 805) (by decide +kernel), List.mem_of_getElem? (i := 989) (by decide +kernel), List.mem_of_getElem? (i := 990) (by decide +kernel)⟩
theorem lw_p35 : lw_okq (⟨"QuayMeshModel", "canGo", "(II)Z"⟩, 35) := ⟨⟨by decide +kernel, by decide +kernel⟩, List.mem_of_getElem? (i := 805) (by decide +kernel), List.mem_of_getElem? (i := 993) (by decide +kernel), List.mem_of_getElem? (i := 994) (by decide +kernel)⟩
theorem lw_p36 : lw_okq (⟨"QuayMeshModel", "isTaken", "(I)Z"⟩, 35) := ⟨⟨by decide +kernel, by decide +kernel⟩, List.mem_of_getElem? (i := 805) (by decide +kernel), List.mem_of_getElem? (i := 997) (by decide +kernel), List.mem_of_getElem? (i := 998) (by decide +kernel)⟩
theorem lw_p37 : lw_okq (⟨"QuayMeshModel", "makes", "(I)V"⟩, 35) := ⟨⟨by decide +kernel, by decide +kernel⟩, List.mem_of_getElem? (i := 805) (by decide +kernel), List.mem_of_getElem? (i := 1001) (by decide +kernel), List.mem_of_getElem? (i := 1002) (by decide +kernel)⟩
theorem lw_p38 : lw_okq (⟨"QuayMeshModel", "finishes", "(II)I"⟩, 35) := ⟨⟨by decide +kernel, by decide +kernel⟩, List.mem_of_getElem? (i := 805) (by decide +kernel), List.mem_of_getElem? (i := 1009) (by decide +kernel), List.mem_of_getElem? (i := 1010) (by decide +kernel)⟩
theorem lw_p39 : lw_okq (⟨"QuayMeshModel", "puts", "(I)Z"⟩, 35) := ⟨⟨by decide +kernel, by decide +kernel⟩, List.mem_of_getElem? (i := 805) (by decide +kernel), List.mem_of_getElem? (i := 1013) (by decide +kernel), List.mem_of_getElem? (i := 1014) (by decide +kernel)⟩
theorem lw_p40 : lw_okq (⟨"QuayMeshModel", "isEmpty", "(I)Z"⟩, 35) := ⟨⟨by decide +kernel, by decide +kernel⟩, List.mem_of_getElem? (i := 805) (by decide +kernel), List.mem_of_getElem? (i := 1017) (by decide +kernel), List.mem_of_getElem? (i := 1018) (by decide +kernel)⟩
theorem lw_p41 : lw_okq (⟨"QuayMeshModel", "isUppermost", "(I)Z"⟩, 35) := ⟨⟨by decide +kernel, by decide +kernel⟩, List.mem_of_getElem? (i := 805) (by decide +kernel), List.mem_of_getElem? (i := 1021) (by decide +kernel), List.mem_of_getElem? (i := 1022) (by decide +kernel)⟩
theorem lw_p42 : lw_okq (⟨"QuayMeshModel", "isIn", "(II)Z"⟩, 35) := ⟨⟨by decide +kernel, by decide +kernel⟩, List.mem_of_getElem? (i := 805) (by decide +kernel), List.mem_of_getElem? (i := 1033) (by decide +kernel), List.mem_of_getElem? (i := 1034) (by decide +kernel)⟩
theorem lw_p43 : lw_okq (⟨"QuayMeshModel", "canBook", "(III)Z"⟩, 35) := ⟨⟨by decide +kernel, by decide +kernel⟩, List.mem_of_getElem? (i := 805) (by decide +kernel), List.mem_of_getElem? (i := 1053) (by decide +kernel), List.mem_of_getElem? (i := 1054) (by decide +kernel)⟩
theorem lw_p44 : lw_okq (⟨"QuayMeshModel", "slotsFor", "(II)I"⟩, 35) := ⟨⟨by decide +kernel, by decide +kernel⟩, List.mem_of_getElem? (i := 805) (by decide +kernel), List.mem_of_getElem? (i := 1057) (by decide +kernel), List.mem_of_getElem? (i := 1058) (by decide +kernel)⟩
theorem lw_p45 : lw_okq (⟨"QuayMeshModel", "asksBox", "(I)Z"⟩, 35) := ⟨⟨by decide +kernel, by decide +kernel⟩, List.mem_of_getElem? (i := 805) (by decide +kernel), List.mem_of_getElem? (i := 1081) (by decide +kernel), List.mem_of_getElem? (i := 1082) (by decide +kernel)⟩
theorem lw_p46 : lw_okq (⟨"QuayMeshModel", "asksMessage", "(I)Z"⟩, 35) := ⟨⟨by decide +kernel, by decide +kernel⟩, List.mem_of_getElem? (i := 805) (by decide +kernel), List.mem_of_getElem? (i := 1121) (by decide +kernel), List.mem_of_getElem? (i := 1122) (by decide +kernel)⟩
def lw_privs_3 : List (MethodName × Nat) := [(⟨"QuayMeshModel", "quits", "(II)V"⟩, 35), (⟨"QuayMeshModel", "acknowledges", "(II)I"⟩, 35), (⟨"QuayMeshModel", "lifts", "(II)I"⟩, 35), (⟨"QuayMeshModel", "canGo", "(II)Z"⟩, 35), (⟨"QuayMeshModel", "isTaken", "(I)Z"⟩, 35), (⟨"QuayMeshModel", "makes", "(I)V"⟩, 35), (⟨"QuayMeshModel", "finishes", "(II)I"⟩, 35), (⟨"QuayMeshModel", "puts", "(I)Z"⟩, 35), (⟨"QuayMeshModel", "isEmpty", "(I)Z"⟩, 35), (⟨"QuayMeshModel", "isUppermost", "(I)Z"⟩, 35), (⟨"QuayMeshModel", "isIn", "(II)Z"⟩, 35), (⟨"QuayMeshModel", "canBook", "(III)Z"⟩, 35), (⟨"QuayMeshModel", "slotsFor", "(II)I"⟩, 35), (⟨"QuayMeshModel", "asksBox", "(I)Z"⟩, 35), (⟨"QuayMeshModel", "asksMessage", "(I)Z"⟩, 35)]
theorem lw_r3 : ∀ q ∈ lw_privs_3, lw_okq q := List.forall_mem_cons.mpr ⟨lw_p32, List.forall_mem_cons.mpr ⟨lw_p33, List.forall_mem_cons.mpr ⟨lw_p34, List.forall_mem_cons.mpr ⟨lw_p35, List.forall_mem_cons.mpr ⟨lw_p36, List.forall_mem_cons.mpr ⟨lw_p37, List.forall_mem_cons.mpr ⟨lw_p38, List.forall_mem_cons.mpr ⟨lw_p39, List.forall_mem_cons.mpr ⟨lw_p40, List.forall_mem_cons.mpr ⟨lw_p41, List.forall_mem_cons.mpr ⟨lw_p42, List.forall_mem_cons.mpr ⟨lw_p43, List.forall_mem_cons.mpr ⟨lw_p44, List.forall_mem_cons.mpr ⟨lw_p45, List.forall_mem_cons.mpr ⟨lw_p46, fun _ h => absurd h List.not_mem_nil⟩⟩⟩⟩⟩⟩⟩⟩⟩⟩⟩⟩⟩⟩⟩
def lw_privs : List (MethodName × Nat) := lw_privs_1 ++ (lw_privs_2 ++ (lw_privs_3))
def lw_tbl : List Cond := k2_sels lw_privs ++ tables_1
theorem lw_privs_ok : ∀ q ∈ lw_privs, lw_okq q := by
  show ∀ q ∈ lw_privs_1 ++ (lw_privs_2 ++ (lw_privs_3)), lw_okq q
  exact List.forall_mem_append.mpr ⟨lw_r1, List.forall_mem_append.mpr ⟨lw_r2, lw_r3⟩⟩
-- ===== end of PART A; then your names; then what follows =====
end
section
/-! ===== BEGIN words of one list among another's, by their places ===== -/
theorem goodIn_r {big : List Cond} (ws : List Cond) (ps : List Nat) (hp : ws = ps.filterMap (fun i => big[i]?)) (h : ws.all goodWord = true) : GoodIn big ws := by
  intro w hw
  have h1 := List.all_eq_true.mp h w hw
  rw [hp] at hw
  obtain ⟨i, -, hi⟩ := List.mem_filterMap.mp hw
  have hm : w ∈ big := by first | exact List.mem_of_getElem? hi | exact List.getElem?_mem hi
  exact ⟨hm, good_of_word h1⟩
theorem goodIn_app {big a b : List Cond} (ha : GoodIn big a) (hb : GoodIn big b) : GoodIn big (a ++ b) := fun w h => (List.mem_append.mp h).elim (ha w) (hb w)
theorem goodIn_ca {big a b : List Cond} {c : Cond} (ha : GoodIn big (c :: a)) (hb : GoodIn big b) : GoodIn big (c :: (a ++ b)) := fun w h => (List.mem_cons.mp h).elim (fun e => ha w (List.mem_cons.mpr (Or.inl e))) (fun h => (List.mem_append.mp h).elim (fun h => ha w (List.mem_cons.mpr (Or.inr h))) (hb w))
theorem goodIn_sub {big ws : List Cond} (hm : ∀ w ∈ ws, w ∈ big) (h : ws.all goodWord = true) : GoodIn big ws := fun w hw => ⟨hm w hw, good_of_word (List.all_eq_true.mp h w hw)⟩
/-! ===== END ===== -/

/-! ===== BEGIN exceptions that leave a method, and their catching by the caller (launches without stack traces) ===== -/
section VXA
/-! The laws vx_back, vx_callV, vx_callS, vx_callSW, vx_throw0, vx_throwS follow proofs of the library, with one case more: JvmDerived/Free/Laws.lean (Back.of_free), Shelf42/LK1.lean (callV, callS), Shelf/KitTraced.lean (throwNew0V, throwNewS). -/
/-- where a method has thrown q: the class by its name, the cell, what was written, the world -/
def vx_T (XC : String → State → State → Prop) (st : State) (q : Addr) (t : State) (mc ms : Nat) (free : Addr → Prop) : Prop :=
  ∃ (E : String) (ce : Cell) (L : List Loc), XC E st t ∧ t.heap[q]? = some ce ∧ ce.vm = .none ∧ st.vm.findClass E = some ce.cls ∧ st.WarmedH t.vm ∧ st.sameButNew ({ t with vm := st.vm } : State) L mc ms ∧ ∀ z ∈ L, free z.base
def vx_Q (Qc : Array Value → State → Outcome → State → Prop) (XC : String → State → State → Prop) (mc ms : Nat) (free : Addr → Prop) : Array Value → State → Outcome → State → Prop := fun a st o t =>
  (Qc a st o t ∧ ∃ L, FrameEnd st o t L mc ms ∧ ∀ q ∈ L, free q.base) ∨ ∃ q, o = .threw q ∧ vx_T XC st q t mc ms free
/-- a callee that returns or throws -/
def vx_Met (l : Launch) (y : MethodName) (ws : List Cond) (rm : Room) (Pc : Array Value → State → Prop) (Qc : Array Value → State → Outcome → State → Prop) (XC : String → State → State → Prop) (mc ms : Nat) (free : Addr → Prop) : Prop :=
  MetFree l y (headSpec ws rm) Pc (fun _ _ _ _ _ => True) (vx_Q Qc XC mc ms free)
def vx_Post (XC : String → State → State → Prop) (mc ms : Nat) (free : Addr → Prop) : Pt → Array Value → Addr → Pt → Prop := fun A a q B =>
  ∃ (g : JFrame) (mk : MethodId) (t : State) (L : List Loc) (E : String) (ce : Cell), B.U.heap = t.heap ∧ B.U.vm = t.vm ∧ XC E (A.U.calling g mk a) t ∧ t.heap[q]? = some ce ∧ ce.vm = .none ∧ A.U.vm.findClass E = some ce.cls ∧ B.locs = A.locs ++ L ∧ (∀ z ∈ L, free z.base) ∧ B.cells = A.cells + mc ∧ B.slots = A.slots + ms
def vx_Back (l : Launch) (R : Room) (p : Program) (e : Env) (below : List Frame) (s : State) (sargs : Array Value) (y : MethodName) (len W9 : Nat)
    (Pre : Pt → Array Value → Prop) (Post : Pt → Array Value → Option Value → Pt → Prop) (PostX : Pt → Array Value → Addr → Pt → Prop) : Prop :=
  ∀ (m : MethodId) (meth : Method) (c : Code) (A : Pt) (g : JFrame) (ig : Instr) (mk : MethodId) (a : Array Value),
    Stand p l e R s m sargs below meth c A.U A.locs A.cells A.slots → g.method = m → g.locals.size = c.maxLocals → decode c.code g.pc = .ok (ig, len) →
    2 * g.monitorRoom + (g.stack.map fun v => v.category).sum ≤ W9 → A.U.methodNamed? y = some mk → Pre A a →
    (∃ (v : Option Value) (B : Pt), Stand p l e R s m sargs below meth c B.U B.locs B.cells B.slots ∧ Post A a v B ∧
      Steps p.tables e below (doInvoke e (A.U.setTop g) [] mk a).1 (B.U.setTop { g with pc := g.pc + len, stack := v.toList ++ g.stack })) ∨
    (∃ (q : Addr) (B : Pt), Stand p l e R s m sargs below meth c B.U B.locs B.cells B.slots ∧ PostX A a q B ∧
      Steps p.tables e below (doInvoke e (A.U.setTop g) [] mk a).1 ((B.U.setTop g).pushFrame (.throwing q)))
section Payer
variable {l : Launch} {R : Room} {p : Program} {e : Env} {below : List Frame} {s : State} {sargs : Array Value} {y : MethodName} {len W9 : Nat}
theorem vx_back {ws : List Cond} {rm : Room} {Pc : Array Value → State → Prop} {Qc : Array Value → State → Outcome → State → Prop} {XC : String → State → State → Prop} {mc ms : Nat} {free : Addr → Prop} {bytes : ByteArray} {maxL : Nat} {ret : Option FieldType}
    (hM : vx_Met l y ws rm Pc Qc XC mc ms free) (hblind : FrameBlind Pc) (hrc : rm.cells = mc) (hrs : rm.slots = ms)
    (hframes : rm.frames + 1 ≤ R.frames) (hlocals : W9 + (maxL + 11) + rm.locals ≤ R.locals)
    (hws : ∀ w ∈ ws, ∀ a' U, s.WarmedH U.vm → w.before a' U = true) (hcode : Cond.code y bytes maxL ret ∈ ws) (hinit : ∀ a' U, s.WarmedH U.vm → (Cond.initialized y.cls).before a' U = true) :
    vx_Back l R p e below s sargs y len W9 (PreOf R mc ms Pc) (PostOf Qc mc ms free) (vx_Post XC mc ms free) := by
  intro m meth c A g ig mk a X hg hsize hdg hW hn hp
  have h1 : (headSpec ws rm).pre.before a A.U = true := atoms_intro fun w hw => hws w hw _ _ X.warmed
  have h2 : (Cond.code y bytes maxL ret).before a A.U = true := hws _ hcode _ _ X.warmed
  have h3 : (Cond.initialized y.cls).before a A.U = true := hinit _ _ X.warmed
  have h4 : A.cells + (headSpec ws rm).room.cells ≤ R.cells := by rw [show (headSpec ws rm).room.cells = mc from hrc]; exact hp.1
  have h5 : A.slots + (headSpec ws rm).room.slots ≤ R.slots := by rw [show (headSpec ws rm).room.slots = ms from hrs]; exact hp.2.1
  have hPc : Pc a (A.U.calling g mk a) := hblind _ _ _ _ hp.2.2
  obtain ⟨U, Ls, c0, s0⟩ := A
  dsimp only [Pt.U, Pt.locs, Pt.cells, Pt.slots] at h1 h2 h3 h4 h5 X hn hPc ⊢
  obtain ⟨methY, cY, hmY, hcY, -, hlY, -, -, -, -⟩ := Cond.code_spec hn h2
  obtain ⟨kY, hkY, -⟩ := className_of_methodNamed hn
  have hinitY : kY.init = .initialized := Cond.initialized_spec (findClass_of_methodNamed hn) hkY h3
  have h : At U g.method c below := by rw [hg]; exact X.here
  have hlocals9 : W9 + (maxL + 11) + (headSpec ws rm).room.locals ≤ R.locals := hlocals
  have happ : (headSpec ws rm).appliesLoose y e.platform (U.calling g mk a) = true :=
    Spec.appliesLoose_calling (g := g) h hdg hn hkY hinitY
      (X.room_calling (g := g) (R' := (headSpec ws rm).room) hsize hmY hcY hframes (by rw [hlY]; omega) h4 h5) h1
  obtain ⟨mid, hmid⟩ := h.above
  have hfr : (U.setTop g).frames = (.java g :: mid) ++ below := by rw [State.frames_setTop' g h.top, hmid]; rfl
  obtain ⟨o, s₂, hsteps, -, hend, hq⟩ := Steps.callFree hM p X.admits X.cas X.clock (acts := []) hfr happ hPc trivial
  have hq' : vx_Q Qc XC mc ms free a (U.calling g mk a) o s₂ := hq
  rw [State.frames_setTop' g h.top] at hend
  obtain ⟨g₀, hg0⟩ := Option.isSome_iff_exists.mp h.top
  obtain ⟨r, hr⟩ := State.topJava?_eq_some.mp hg0
  have hr' : (({ U with heap := s₂.heap, slotsUsed := s₂.slotsUsed } : State).setVm s₂.vm).frames = .java g₀ :: r := hr
  rcases hq' with ⟨hqc, L, hfe, hL⟩ | ⟨q, rfl, E, ce, L, hx, hce, hcv, hcl, hW₂, hsm, hL⟩
  · obtain ⟨⟨v, rfl⟩, hW₂, e2, q2, q3, q4, q5, q6⟩ := id hfe
    have e3 : s₂ = ({ (U.calling g mk a).setFrames s₂.frames with heap := s₂.heap, slotsUsed := s₂.slotsUsed } : State).setVm s₂.vm := by
      have : s₂ = ({ s₂ with vm := (U.calling g mk a).vm } : State).setVm s₂.vm := rfl
      rw [e2] at this
      exact this
    obtain ⟨c₂, i₂, len₂, hc₂, hd₂, hf₂⟩ := hend
    have hW' : U.WarmedH s₂.vm := hW₂
    have hcc : c₂ = c := by
      have h1 : s₂.code? g.method = U.code? g.method := by
        rw [State.code?_eq, State.code?_eq, hW'.alike.method?]
      exact Option.some.inj (hc₂.symm.trans (h1.trans h.code))
    subst hcc
    have hlen : len₂ = len := by rw [hdg] at hd₂; cases hd₂; rfl
    subst hlen
    have hs₂ : s₂ = (({ U with heap := s₂.heap, slotsUsed := s₂.slotsUsed } : State).setVm s₂.vm).setTop { g with pc := g.pc + len₂, stack := v.toList ++ g.stack } := by
      refine e3.trans ?_
      rw [hf₂, State.calling_eq h.top, State.setFrames_setFrames, State.setTop_of_frames _ hr', hr]
      rfl
    have hsame : U.sameButNew ({ U with heap := s₂.heap, slotsUsed := s₂.slotsUsed } : State) L mc ms := by
      refine ⟨?_, q2, q3, q4, q5, q6⟩
      obtain ⟨t, ht, -⟩ := State.frames_cons hr
      show ({ U with heap := s₂.heap, slotsUsed := s₂.slotsUsed } : State) = { U.setFrames U.frames with heap := s₂.heap, slotsUsed := s₂.slotsUsed }
      rw [State.setFrames_self ht]
    subst hg
    refine Or.inl ⟨v, ⟨(({ U with heap := s₂.heap, slotsUsed := s₂.slotsUsed } : State).setVm s₂.vm), Ls ++ L, c0 + mc, s0 + ms⟩,
      ⟨X.admits, X.cas, X.clock, X.frames, X.room, X.hears, X.method, X.code, (X.here.setHeapUsed s₂.heap s₂.slotsUsed).setVm hW'.alike, X.tail, State.WarmedH.trans X.warmed hW', X.limits, X.bytes, X.same.trans (hsame.setVm s.vm)⟩,
      ⟨g, mk, s₂, L, rfl, rfl, hqc, rfl, hL, rfl, rfl⟩, ?_⟩
    show Steps p.tables e below _ ((({ U with heap := s₂.heap, slotsUsed := s₂.slotsUsed } : State).setVm s₂.vm).setTop { g with pc := g.pc + len₂, stack := v.toList ++ g.stack })
    rw [← hs₂]
    exact hsteps
  · obtain ⟨e2, q2, q3, q4, q5, q6⟩ := id hsm
    have e3 : s₂ = ({ (U.calling g mk a).setFrames s₂.frames with heap := s₂.heap, slotsUsed := s₂.slotsUsed } : State).setVm s₂.vm := by
      have : s₂ = ({ s₂ with vm := (U.calling g mk a).vm } : State).setVm s₂.vm := rfl
      rw [e2] at this
      exact this
    have hf₂ : s₂.frames = .throwing q :: .java g :: U.frames.tail := hend
    have hW' : U.WarmedH s₂.vm := hW₂
    have hs₂ : s₂ = ((({ U with heap := s₂.heap, slotsUsed := s₂.slotsUsed } : State).setVm s₂.vm).setTop g).pushFrame (.throwing q) := by
      refine e3.trans ?_
      rw [hf₂, State.calling_eq h.top, State.setFrames_setFrames, State.pushFrame, State.frames_setTop _ hr', State.setTop_of_frames _ hr', State.setFrames_setFrames, hr]
      rfl
    have hsame : U.sameButNew ({ U with heap := s₂.heap, slotsUsed := s₂.slotsUsed } : State) L mc ms := by
      refine ⟨?_, q2, q3, q4, q5, q6⟩
      obtain ⟨t, ht, -⟩ := State.frames_cons hr
      show ({ U with heap := s₂.heap, slotsUsed := s₂.slotsUsed } : State) = { U.setFrames U.frames with heap := s₂.heap, slotsUsed := s₂.slotsUsed }
      rw [State.setFrames_self ht]
    subst hg
    refine Or.inr ⟨q, ⟨(({ U with heap := s₂.heap, slotsUsed := s₂.slotsUsed } : State).setVm s₂.vm), Ls ++ L, c0 + mc, s0 + ms⟩,
      ⟨X.admits, X.cas, X.clock, X.frames, X.room, X.hears, X.method, X.code, (X.here.setHeapUsed s₂.heap s₂.slotsUsed).setVm hW'.alike, X.tail, State.WarmedH.trans X.warmed hW', X.limits, X.bytes, X.same.trans (hsame.setVm s.vm)⟩,
      ⟨g, mk, s₂, L, E, ce, rfl, rfl, hx, hce, hcv, hcl, rfl, hL, rfl, rfl⟩, ?_⟩
    show Steps p.tables e below _ (((({ U with heap := s₂.heap, slotsUsed := s₂.slotsUsed } : State).setVm s₂.vm).setTop g).pushFrame (.throwing q))
    rw [← hs₂]
    exact hsteps
end Payer
section Calls
variable {p : Program} {l : Launch} {e : Env} {R : Room} {s : State} {m : MethodId} {args : Array Value} {below : List Frame} {meth : Method} {c : Code} {T : State} {locs : List Loc} {cells slots : Nat}
theorem vx_callV (X : Stand p l e R s m args below meth c T locs cells slots) (hexec : p.tables.exec = Jvm.exec) {own C : String} {index : Nat} {y : MethodName} {bytes : ByteArray} {maxL : Nat} {ret : Option FieldType}
    (hown : s.vm.findClass own = some m.cls) (hlink : (Cond.methodLink own index y).before args s = true) (hinst : (Cond.instanceMethod y).before args s = true) (hsel : (Cond.selects C y y).before args s = true)
    (hcode : (Cond.code y bytes maxL ret).before args s = true) (hy : y.cls ≠ "java/lang/invoke/MethodHandle" ∧ y.cls ≠ "java/lang/invoke/VarHandle")
    {W9 : Nat} {Pre : Pt → Array Value → Prop} {Post : Pt → Array Value → Option Value → Pt → Prop} {PostX : Pt → Array Value → Addr → Pt → Prop} (hK : vx_Back l R p e below s args y 3 W9 Pre Post PostX)
    {b : Addr} {cellB : Cell} (hcell : T.heap[b]? = some cellB) (hobj : cellB.vm.isStatics = false) (hcls : s.vm.findClass C = some cellB.cls)
    {g : JFrame} (hg : g.method = m) (hsize : g.locals.size = c.maxLocals) {argsL rest : List Value} (hlen : ∀ sig, parseMethodDescriptor y.desc = some sig → argsL.length = sig.parameters.length)
    (hstack : g.stack = argsL.reverse ++ .ref b :: rest) (hW : 2 * g.monitorRoom + (rest.map fun v => v.category).sum ≤ W9) (hdg : decode c.code g.pc = .ok (.invokevirtual index, 3))
    (hpre : ∀ vm₁, s.WarmedH vm₁ → Pre ⟨T.setVm vm₁, locs, cells, slots⟩ (Value.ref b :: argsL).toArray) :
    (∃ (v : Option Value) (vm₁ : Vm) (B : Pt), s.WarmedH vm₁ ∧ Stand p l e R s m args below meth c B.U B.locs B.cells B.slots ∧ Post ⟨T.setVm vm₁, locs, cells, slots⟩ (Value.ref b :: argsL).toArray v B ∧
      ∀ target, Steps p.tables e below (B.U.setTop { g with pc := g.pc + 3, stack := v.toList ++ rest }) target → Steps p.tables e below (T.setTop g) target) ∨
    (∃ (q : Addr) (vm₁ : Vm) (B : Pt), s.WarmedH vm₁ ∧ Stand p l e R s m args below meth c B.U B.locs B.cells B.slots ∧ PostX ⟨T.setVm vm₁, locs, cells, slots⟩ (Value.ref b :: argsL).toArray q B ∧
      Steps p.tables e below (T.setTop g) ((B.U.setTop { g with stack := rest }).pushFrame (.throwing q))) := by
  obtain ⟨mk, methM, hnamed, hmethM, hstM, habM⟩ := Cond.instanceMethod_spec hinst
  obtain ⟨methM', cM, hmethM', -, -, -, -, -, -, hsigM⟩ := Cond.code_spec hnamed hcode
  cases hmethM.symm.trans hmethM'
  obtain ⟨c2, r2, m2, q1, q2, q3, q4, kP, hkP, hkPi⟩ := Cond.selects_spec hsel
  cases hcls.symm.trans q1
  cases (State.methodFound?_of_named hnamed hy).symm.trans q2
  cases hnamed.symm.trans q3
  have hselP : selectMethod e.platform s.vm cellB.cls mk = .method mk := by rw [Launch.admits_selectMethod X.admits]; exact q4
  obtain ⟨vm₁, X₁, hstep₁⟩ := X.invokevirtual hexec hown hlink hnamed hmethM hstM hkP hkPi hy (a := b) (cell := cellB) hcell
    (fun z h => by rw [h] at hobj; cases hobj) hselP hmethM habM hkP hkPi (g := g) hg (argsL := argsL) (rest := rest) (hlen _ hsigM) hstack hdg
  rcases hK m meth c ⟨T.setVm vm₁, locs, cells, slots⟩ { g with stack := rest } (.invokevirtual index) mk (Value.ref b :: argsL).toArray X₁ hg hsize hdg hW (X₁.named hnamed) (hpre vm₁ X₁.warmed) with ⟨v, B, X', hpost, hsteps⟩ | ⟨q, B, X', hpost, hsteps⟩
  · exact Or.inl ⟨v, vm₁, B, X₁.warmed, X', hpost, fun target h => hstep₁ _ fun acts => by rw [doInvoke_state]; exact hsteps.trans h⟩
  · exact Or.inr ⟨q, vm₁, B, X₁.warmed, X', hpost, hstep₁ _ fun acts => by rw [doInvoke_state]; exact hsteps⟩
theorem vx_callS (X : Stand p l e R s m args below meth c T locs cells slots) (hexec : p.tables.exec = Jvm.exec) {own : String} {index : Nat} {y : MethodName} {bytes : ByteArray} {maxL : Nat} {ret : Option FieldType}
    (hown : s.vm.findClass own = some m.cls) (hlink : (Cond.methodLink own index y).before args s = true) (hstat : (Cond.static y).before args s = true) (hinit : (Cond.initialized y.cls).before args s = true)
    (hcode : (Cond.code y bytes maxL ret).before args s = true) (hy : y.cls ≠ "java/lang/invoke/MethodHandle" ∧ y.cls ≠ "java/lang/invoke/VarHandle")
    {W9 : Nat} {Pre : Pt → Array Value → Prop} {Post : Pt → Array Value → Option Value → Pt → Prop} {PostX : Pt → Array Value → Addr → Pt → Prop} (hK : vx_Back l R p e below s args y 3 W9 Pre Post PostX)
    {g : JFrame} (hg : g.method = m) (hsize : g.locals.size = c.maxLocals) {argsL rest : List Value} (hlen : ∀ sig, parseMethodDescriptor y.desc = some sig → argsL.length = sig.parameters.length)
    (hstack : g.stack = argsL.reverse ++ rest) (hW : 2 * g.monitorRoom + (rest.map fun v => v.category).sum ≤ W9) (hdg : decode c.code g.pc = .ok (.invokestatic index, 3))
    (hpre : ∀ vm₁, s.WarmedH vm₁ → Pre ⟨T.setVm vm₁, locs, cells, slots⟩ argsL.toArray) :
    (∃ (v : Option Value) (vm₁ : Vm) (B : Pt), s.WarmedH vm₁ ∧ Stand p l e R s m args below meth c B.U B.locs B.cells B.slots ∧ Post ⟨T.setVm vm₁, locs, cells, slots⟩ argsL.toArray v B ∧
      ∀ target, Steps p.tables e below (B.U.setTop { g with pc := g.pc + 3, stack := v.toList ++ rest }) target → Steps p.tables e below (T.setTop g) target) ∨
    (∃ (q : Addr) (vm₁ : Vm) (B : Pt), s.WarmedH vm₁ ∧ Stand p l e R s m args below meth c B.U B.locs B.cells B.slots ∧ PostX ⟨T.setVm vm₁, locs, cells, slots⟩ argsL.toArray q B ∧
      Steps p.tables e below (T.setTop g) ((B.U.setTop { g with stack := rest }).pushFrame (.throwing q))) := by
  obtain ⟨mk, hnamed⟩ := Cond.code_named hcode
  obtain ⟨methM, cM, hmethM, -, -, -, -, -, -, hsigM⟩ := Cond.code_spec hnamed hcode
  have hstatic : methM.isStatic = true := Cond.static_spec hnamed hmethM hstat
  obtain ⟨kP, hkP, -⟩ := className_of_methodNamed hnamed
  have hinitP : kP.init = .initialized := Cond.initialized_spec (findClass_of_methodNamed hnamed) hkP hinit
  obtain ⟨vm₁, X₁, hstep₁⟩ := X.invokestatic hexec hown hlink hnamed hmethM hstatic hkP hinitP hy (g := g) hg (argsL := argsL) (rest := rest) (hlen _ hsigM) hstack hdg
  rcases hK m meth c ⟨T.setVm vm₁, locs, cells, slots⟩ { g with stack := rest } (.invokestatic index) mk argsL.toArray X₁ hg hsize hdg hW (X₁.named hnamed) (hpre vm₁ X₁.warmed) with ⟨v, B, X', hpost, hsteps⟩ | ⟨q, B, X', hpost, hsteps⟩
  · exact Or.inl ⟨v, vm₁, B, X₁.warmed, X', hpost, fun target h => hstep₁ _ fun acts => by rw [doInvoke_state]; exact hsteps.trans h⟩
  · exact Or.inr ⟨q, vm₁, B, X₁.warmed, X', hpost, hstep₁ _ fun acts => by rw [doInvoke_state]; exact hsteps⟩
end Calls
theorem vx_cls {s : State} {T : State} {vm₁ : Vm} {E : String} {k : ClassId} (hW : s.WarmedH vm₁) (h : (T.setVm vm₁).vm.findClass E = some k) : s.vm.findClass E = some k := by
  have h1 : vm₁.findClass E = some k := h
  rw [hW.alike.findClass] at h1
  exact h1
/-- the method's frame g, with q thrown over it -/
def vx_W (p : Program) (l : Launch) (e : Env) (R : Room) (s : State) (m : MethodId) (args : Array Value) (below : List Frame) (meth : Method) (c : Code) (H : Heap) (locs : List Loc) (cells slots : Nat) (Q : State → Prop) (g : JFrame) (q : Addr) : Prop :=
  ∀ T : State, T.heap = H → Stand p l e R s m args below meth c T locs cells slots → ∃ t, Steps p.tables e below ((T.setTop g).pushFrame (.throwing q)) t ∧ Q t
def vx_Run (p : Program) (l : Launch) (e : Env) (R : Room) (s : State) (m : MethodId) (args : Array Value) (below : List Frame) (meth : Method) (c : Code) (H : Heap) (locs : List Loc) (cells slots mc ms : Nat) (g : JFrame) (rest : List Value) (Qa : State → Outcome → State → Prop) (XC : String → State → State → Prop) (free : Addr → Prop) : Prop :=
  ∀ T : State, T.heap = H → Stand p l e R s m args below meth c T locs cells slots →
    (∃ (v : Option Value) (st₀ t T' : State) (L : List Loc), st₀.heap = H ∧ Stand p l e R s m args below meth c T' (locs ++ L) (cells + mc) (slots + ms) ∧ (∀ q ∈ L, free q.base) ∧ T'.heap = t.heap ∧ T'.vm = t.vm ∧ Qa st₀ (.returned v) t ∧
      Goes p e below T g T' { g with pc := g.pc + 3, stack := v.toList ++ rest }) ∨
    (∃ (q : Addr) (st₀ t T' : State) (L : List Loc) (E : String) (ce : Cell), st₀.heap = H ∧ Stand p l e R s m args below meth c T' (locs ++ L) (cells + mc) (slots + ms) ∧ (∀ z ∈ L, free z.base) ∧ T'.heap = t.heap ∧ T'.vm = t.vm ∧ XC E st₀ t ∧ t.heap[q]? = some ce ∧ ce.vm = .none ∧ s.vm.findClass E = some ce.cls ∧
      Steps p.tables e below (T.setTop g) ((T'.setTop { g with stack := rest }).pushFrame (.throwing q)))
def vx_X {S : Type} (px : S → Prop) (B : String → S → State → Prop) (A : Nat → Prop) : String → State → State → Prop := fun E st t => ∃ u : S, px u ∧ B E u t ∧ va_F A st t
section Runs
variable {p : Program} {l : Launch} {e : Env} {R : Room} {s : State} {m : MethodId} {args : Array Value} {below : List Frame} {meth : Method} {c : Code} {H : Heap} {locs : List Loc} {cells slots : Nat}
variable {y : MethodName} {bytes cc : ByteArray} {maxL nL mc ms n index : Nat} {ret : Option FieldType} {ws : List Cond} {rm : Room} {Pc : Array Value → State → Prop} {Qc : Array Value → State → Outcome → State → Prop} {XC : String → State → State → Prop} {free : Addr → Prop} {Ts : List Cond} {own C : String} {b : Addr} {As rest : List Value} {g : JFrame}
theorem vx_callBack (cb : CallB R s args own index y bytes maxL ret ws rm mc ms n) (hM : vx_Met l y ws rm Pc Qc XC mc ms free) (hbl : FrameBlind Pc) : vx_Back l R p e below s args y 3 8 (PreOf R mc ms Pc) (PostOf Qc mc ms free) (vx_Post XC mc ms free) := by
  obtain ⟨hrc, hrs, hfr, hlo, hws, hcw, -, hini, -⟩ := cb
  exact vx_back (bytes := bytes) (maxL := maxL) (ret := ret) hM hbl hrc hrs hfr hlo hws hcw (fun a' U hW => word_at hW (Or.inl (by first | rfl | simp [Cond.onTables, Cond.keeps, Cond.steady])) hini)
theorem vx_runV (S : CallFix p m c cc nL s args Ts own) (hM : vx_Met l y ws rm Pc Qc XC mc ms free) (cw : CallW R s args own C index y bytes maxL ret ws rm mc ms n) (hp : PreV s H C b Pc As)
    (hg : g.method = m) (hn : As.length = n) (hsize : g.locals.size = nL) (hstack : g.stack = As.reverse ++ .ref b :: rest) (hW : 2 * g.monitorRoom + (rest.map fun v => v.category).sum ≤ 8) (hdg : decode cc g.pc = .ok (.invokevirtual index, 3)) (hf : cells + mc ≤ R.cells ∧ slots + ms ≤ R.slots) :
    vx_Run p l e R s m args below meth c H locs cells slots mc ms g rest (Qc (Value.ref b :: As).toArray) XC free := by
  have hK : vx_Back l R p e below s args y 3 8 (PreOf R mc ms Pc) (PostOf Qc mc ms free) (vx_Post XC mc ms free) := vx_callBack cw.1 hM hp.1
  obtain ⟨⟨-, -, -, -, -, -, hcode, -, hy, hlen, hl⟩, hin, hse⟩ := cw
  obtain ⟨hx, hb, hml, ho, -⟩ := S
  obtain ⟨-, ⟨cellB, hcB, hoB, hclB⟩, hPc⟩ := hp
  intro T hT X
  rcases vx_callV X hx (C := C) (bytes := bytes) (maxL := maxL) (ret := ret) ho hl hin hse hcode hy hK (by rw [hT]; exact hcB) hoB hclB hg (hsize.trans hml.symm) (argsL := As) (rest := rest) (fun sig h => hn.trans (hlen sig h)) hstack hW (by rw [hb]; exact hdg)
    (fun vm₁ hW₁ => ⟨hf.1, hf.2, hPc (T.setVm vm₁) hT hW₁⟩) with ⟨v, vm₁, ⟨U', l2, c2, s2⟩, hW₁, X', ⟨g', mk, t, L, e1, e2, hq, h1, hL, h2, h3⟩, st⟩ | ⟨q, vm₁, ⟨U', l2, c2, s2⟩, hW₁, X', ⟨g', mk, t, L, E, ce, e1, e2, hq, hce, hcv, hcl, h1, hL, h2, h3⟩, st⟩
  · dsimp only [Pt.U, Pt.locs, Pt.cells, Pt.slots] at X' e1 e2 h1 h2 h3 st
    subst h1; subst h2; subst h3
    exact Or.inl ⟨v, (T.setVm vm₁).calling g' mk (Value.ref b :: As).toArray, t, U', L, hT, X', hL, e1, e2, hq, st⟩
  · dsimp only [Pt.U, Pt.locs, Pt.cells, Pt.slots] at X' e1 e2 h1 h2 h3 st hcl
    subst h1; subst h2; subst h3
    exact Or.inr ⟨q, (T.setVm vm₁).calling g' mk (Value.ref b :: As).toArray, t, U', L, E, ce, hT, X', hL, e1, e2, hq, hce, hcv, vx_cls hW₁ hcl, st⟩
theorem vx_runS (S : CallFix p m c cc nL s args Ts own) (hM : vx_Met l y ws rm Pc Qc XC mc ms free) (cw : CallB R s args own index y bytes maxL ret ws rm mc ms n ∧ (Cond.static y).before args s = true) (hp : PreS s H Pc As)
    (hg : g.method = m) (hn : As.length = n) (hsize : g.locals.size = nL) (hstack : g.stack = As.reverse ++ rest) (hW : 2 * g.monitorRoom + (rest.map fun v => v.category).sum ≤ 8) (hdg : decode cc g.pc = .ok (.invokestatic index, 3)) (hf : cells + mc ≤ R.cells ∧ slots + ms ≤ R.slots) :
    vx_Run p l e R s m args below meth c H locs cells slots mc ms g rest (Qc As.toArray) XC free := by
  have hK : vx_Back l R p e below s args y 3 8 (PreOf R mc ms Pc) (PostOf Qc mc ms free) (vx_Post XC mc ms free) := vx_callBack cw.1 hM hp.1
  obtain ⟨⟨-, -, -, -, -, -, hcode, hini, hy, hlen, hl⟩, hstt⟩ := cw
  obtain ⟨hx, hb, hml, ho, -⟩ := S
  intro T hT X
  rcases vx_callS X hx (bytes := bytes) (maxL := maxL) (ret := ret) ho hl hstt hini hcode hy hK hg (hsize.trans hml.symm) (argsL := As) (rest := rest) (fun sig h => hn.trans (hlen sig h)) hstack hW (by rw [hb]; exact hdg)
    (fun vm₁ hW₁ => ⟨hf.1, hf.2, hp.2 (T.setVm vm₁) hT hW₁⟩) with ⟨v, vm₁, ⟨U', l2, c2, s2⟩, hW₁, X', ⟨g', mk, t, L, e1, e2, hq, h1, hL, h2, h3⟩, st⟩ | ⟨q, vm₁, ⟨U', l2, c2, s2⟩, hW₁, X', ⟨g', mk, t, L, E, ce, e1, e2, hq, hce, hcv, hcl, h1, hL, h2, h3⟩, st⟩
  · dsimp only [Pt.U, Pt.locs, Pt.cells, Pt.slots] at X' e1 e2 h1 h2 h3 st
    subst h1; subst h2; subst h3
    exact Or.inl ⟨v, (T.setVm vm₁).calling g' mk As.toArray, t, U', L, hT, X', hL, e1, e2, hq, st⟩
  · dsimp only [Pt.U, Pt.locs, Pt.cells, Pt.slots] at X' e1 e2 h1 h2 h3 st hcl
    subst h1; subst h2; subst h3
    exact Or.inr ⟨q, (T.setVm vm₁).calling g' mk As.toArray, t, U', L, E, ce, hT, X', hL, e1, e2, hq, hce, hcv, vx_cls hW₁ hcl, st⟩
end Runs
section Rows
variable {p : Program} {l : Launch} {e : Env} {R : Room} {s : State} {m : MethodId} {args : Array Value} {below : List Frame} {meth : Method} {c : Code} {H : Heap} {locs : List Loc} {cells slots : Nat} {Q : State → Prop}
variable {mc ms : Nat} {free : Addr → Prop} {A0 A1 : Nat → Prop} {H0 : Heap} {a : Array Value} {pc : Nat} {ls : Array Slot} {st0 rest : List Value}
theorem vx_keep {st₀ t T' : State} {L : List Loc} (h0 : st₀.heap = H) (e1 : T'.heap = t.heap) (hS : va_S A0 H0 H locs) (hA : ∀ q, q < H.size → A1 q → A0 q) (hf : ∀ q, free q → A0 q) (hL : ∀ q ∈ L, free q.base) (hF : va_F A1 st₀ t) :
    H.size ≤ T'.heap.size ∧ (∀ q : Nat, q < H.size → ¬ A1 q → T'.heap[q]? = H[q]?) ∧ va_S A0 H0 T'.heap (locs ++ L) := by
  obtain ⟨hz, hk⟩ := hF
  rw [h0] at hz hk
  exact ⟨by rw [e1]; exact hz, fun q h1 h2 => by rw [e1]; exact hk q h1 h2,
    ⟨Nat.le_trans hS.1 (by rw [e1]; exact hz), fun q h1 h2 => by rw [e1, hk q (Nat.lt_of_lt_of_le h1 hS.1) (fun z => h2 (hA q (Nat.lt_of_lt_of_le h1 hS.1) z))]; exact hS.2.1 q h1 h2, fun q hq => by
      rcases List.mem_append.mp hq with h | h
      · exact hS.2.2 q h
      · exact hf _ (hL q h)⟩⟩
theorem vx_calli {S SX : Type} {post : Int32 → S → Prop} {px : SX → Prop} {B : S → State → Prop} {BX : String → SX → State → Prop} {AX : Nat → Prop} (hr : vx_Run p l e R s m args below meth c H locs cells slots mc ms (F0 m pc ls st0) rest (va_Qi post B A1 a) (vx_X px BX AX) free) (hS : va_S A0 H0 H locs) (hA : ∀ q, q < H.size → A1 q → A0 q) (hf : ∀ q, free q → A0 q) (hAX : ∀ q, q < H.size → AX q → A0 q)
    (kx : ∀ (E : String) (ce : Cell) (q9 : Addr) (u : SX) (t : State) (H1 : Heap) (locs1 : List Loc), t.heap = H1 → s.vm.Alike t.vm → px u → BX E u t → H.size ≤ H1.size → (∀ q : Nat, q < H.size → ¬ AX q → H1[q]? = H[q]?) → va_S A0 H0 H1 locs1 → H1[q9]? = some ce → ce.vm = .none → s.vm.findClass E = some ce.cls → vx_W p l e R s m args below meth c H1 locs1 (cells + mc) (slots + ms) Q (F0 m pc ls rest) q9)
    (kk : ∀ (r : Int32) (u : S) (t : State) (H1 : Heap) (locs1 : List Loc), t.heap = H1 → s.vm.Alike t.vm → post r u → B u t → H.size ≤ H1.size → (∀ q : Nat, q < H.size → ¬ A1 q → H1[q]? = H[q]?) → va_S A0 H0 H1 locs1 → W p l e R s m args below meth c H1 locs1 (cells + mc) (slots + ms) Q (F0 m (pc + 3) ls (.int r :: rest))) : W p l e R s m args below meth c H locs cells slots Q (F0 m pc ls st0) := by
  intro T hT X
  rcases hr T hT X with ⟨v, st₀, t, T', L, h0, X', hL, e1, e2, ⟨⟨r, u, hv, hp, hb⟩, hF⟩, st⟩ | ⟨q, st₀, t, T', L, E, ce, h0, X', hL, e1, e2, ⟨u, hp, hb, hF⟩, hce, hcv, hcl, st⟩
  · cases hv
    obtain ⟨k1, k2, k3⟩ := vx_keep h0 e1 hS hA hf hL hF
    obtain ⟨t2, a1, b1⟩ := kk r u t T'.heap (locs ++ L) e1.symm (by rw [← e2]; exact X'.warmed.alike) hp hb k1 k2 k3 T' rfl X'
    exact ⟨t2, st t2 a1, b1⟩
  · obtain ⟨k1, k2, k3⟩ := vx_keep h0 e1 hS hAX hf hL hF
    obtain ⟨t2, a1, b1⟩ := kx E ce q u t T'.heap (locs ++ L) e1.symm (by rw [← e2]; exact X'.warmed.alike) hp hb k1 k2 k3 (by rw [e1]; exact hce) hcv hcl T' rfl X'
    exact ⟨t2, st.trans a1, b1⟩
theorem vx_calll {S SX : Type} {post : Int64 → S → Prop} {px : SX → Prop} {B : S → State → Prop} {BX : String → SX → State → Prop} {AX : Nat → Prop} (hr : vx_Run p l e R s m args below meth c H locs cells slots mc ms (F0 m pc ls st0) rest (va_Ql post B A1 a) (vx_X px BX AX) free) (hS : va_S A0 H0 H locs) (hA : ∀ q, q < H.size → A1 q → A0 q) (hf : ∀ q, free q → A0 q) (hAX : ∀ q, q < H.size → AX q → A0 q)
    (kx : ∀ (E : String) (ce : Cell) (q9 : Addr) (u : SX) (t : State) (H1 : Heap) (locs1 : List Loc), t.heap = H1 → s.vm.Alike t.vm → px u → BX E u t → H.size ≤ H1.size → (∀ q : Nat, q < H.size → ¬ AX q → H1[q]? = H[q]?) → va_S A0 H0 H1 locs1 → H1[q9]? = some ce → ce.vm = .none → s.vm.findClass E = some ce.cls → vx_W p l e R s m args below meth c H1 locs1 (cells + mc) (slots + ms) Q (F0 m pc ls rest) q9)
    (kk : ∀ (r : Int64) (u : S) (t : State) (H1 : Heap) (locs1 : List Loc), t.heap = H1 → s.vm.Alike t.vm → post r u → B u t → H.size ≤ H1.size → (∀ q : Nat, q < H.size → ¬ A1 q → H1[q]? = H[q]?) → va_S A0 H0 H1 locs1 → W p l e R s m args below meth c H1 locs1 (cells + mc) (slots + ms) Q (F0 m (pc + 3) ls (.long r :: rest))) : W p l e R s m args below meth c H locs cells slots Q (F0 m pc ls st0) := by
  intro T hT X
  rcases hr T hT X with ⟨v, st₀, t, T', L, h0, X', hL, e1, e2, ⟨⟨r, u, hv, hp, hb⟩, hF⟩, st⟩ | ⟨q, st₀, t, T', L, E, ce, h0, X', hL, e1, e2, ⟨u, hp, hb, hF⟩, hce, hcv, hcl, st⟩
  · cases hv
    obtain ⟨k1, k2, k3⟩ := vx_keep h0 e1 hS hA hf hL hF
    obtain ⟨t2, a1, b1⟩ := kk r u t T'.heap (locs ++ L) e1.symm (by rw [← e2]; exact X'.warmed.alike) hp hb k1 k2 k3 T' rfl X'
    exact ⟨t2, st t2 a1, b1⟩
  · obtain ⟨k1, k2, k3⟩ := vx_keep h0 e1 hS hAX hf hL hF
    obtain ⟨t2, a1, b1⟩ := kx E ce q u t T'.heap (locs ++ L) e1.symm (by rw [← e2]; exact X'.warmed.alike) hp hb k1 k2 k3 (by rw [e1]; exact hce) hcv hcl T' rfl X'
    exact ⟨t2, st.trans a1, b1⟩
theorem vx_callf {S SX : Type} {post : UInt32 → S → Prop} {px : SX → Prop} {B : S → State → Prop} {BX : String → SX → State → Prop} {AX : Nat → Prop} (hr : vx_Run p l e R s m args below meth c H locs cells slots mc ms (F0 m pc ls st0) rest (va_Qf post B A1 a) (vx_X px BX AX) free) (hS : va_S A0 H0 H locs) (hA : ∀ q, q < H.size → A1 q → A0 q) (hf : ∀ q, free q → A0 q) (hAX : ∀ q, q < H.size → AX q → A0 q)
    (kx : ∀ (E : String) (ce : Cell) (q9 : Addr) (u : SX) (t : State) (H1 : Heap) (locs1 : List Loc), t.heap = H1 → s.vm.Alike t.vm → px u → BX E u t → H.size ≤ H1.size → (∀ q : Nat, q < H.size → ¬ AX q → H1[q]? = H[q]?) → va_S A0 H0 H1 locs1 → H1[q9]? = some ce → ce.vm = .none → s.vm.findClass E = some ce.cls → vx_W p l e R s m args below meth c H1 locs1 (cells + mc) (slots + ms) Q (F0 m pc ls rest) q9)
    (kk : ∀ (r : UInt32) (u : S) (t : State) (H1 : Heap) (locs1 : List Loc), t.heap = H1 → s.vm.Alike t.vm → post r u → B u t → H.size ≤ H1.size → (∀ q : Nat, q < H.size → ¬ A1 q → H1[q]? = H[q]?) → va_S A0 H0 H1 locs1 → W p l e R s m args below meth c H1 locs1 (cells + mc) (slots + ms) Q (F0 m (pc + 3) ls (.float r :: rest))) : W p l e R s m args below meth c H locs cells slots Q (F0 m pc ls st0) := by
  intro T hT X
  rcases hr T hT X with ⟨v, st₀, t, T', L, h0, X', hL, e1, e2, ⟨⟨r, u, hv, hp, hb⟩, hF⟩, st⟩ | ⟨q, st₀, t, T', L, E, ce, h0, X', hL, e1, e2, ⟨u, hp, hb, hF⟩, hce, hcv, hcl, st⟩
  · cases hv
    obtain ⟨k1, k2, k3⟩ := vx_keep h0 e1 hS hA hf hL hF
    obtain ⟨t2, a1, b1⟩ := kk r u t T'.heap (locs ++ L) e1.symm (by rw [← e2]; exact X'.warmed.alike) hp hb k1 k2 k3 T' rfl X'
    exact ⟨t2, st t2 a1, b1⟩
  · obtain ⟨k1, k2, k3⟩ := vx_keep h0 e1 hS hAX hf hL hF
    obtain ⟨t2, a1, b1⟩ := kx E ce q u t T'.heap (locs ++ L) e1.symm (by rw [← e2]; exact X'.warmed.alike) hp hb k1 k2 k3 (by rw [e1]; exact hce) hcv hcl T' rfl X'
    exact ⟨t2, st.trans a1, b1⟩
theorem vx_calld {S SX : Type} {post : UInt64 → S → Prop} {px : SX → Prop} {B : S → State → Prop} {BX : String → SX → State → Prop} {AX : Nat → Prop} (hr : vx_Run p l e R s m args below meth c H locs cells slots mc ms (F0 m pc ls st0) rest (va_Qd post B A1 a) (vx_X px BX AX) free) (hS : va_S A0 H0 H locs) (hA : ∀ q, q < H.size → A1 q → A0 q) (hf : ∀ q, free q → A0 q) (hAX : ∀ q, q < H.size → AX q → A0 q)
    (kx : ∀ (E : String) (ce : Cell) (q9 : Addr) (u : SX) (t : State) (H1 : Heap) (locs1 : List Loc), t.heap = H1 → s.vm.Alike t.vm → px u → BX E u t → H.size ≤ H1.size → (∀ q : Nat, q < H.size → ¬ AX q → H1[q]? = H[q]?) → va_S A0 H0 H1 locs1 → H1[q9]? = some ce → ce.vm = .none → s.vm.findClass E = some ce.cls → vx_W p l e R s m args below meth c H1 locs1 (cells + mc) (slots + ms) Q (F0 m pc ls rest) q9)
    (kk : ∀ (r : UInt64) (u : S) (t : State) (H1 : Heap) (locs1 : List Loc), t.heap = H1 → s.vm.Alike t.vm → post r u → B u t → H.size ≤ H1.size → (∀ q : Nat, q < H.size → ¬ A1 q → H1[q]? = H[q]?) → va_S A0 H0 H1 locs1 → W p l e R s m args below meth c H1 locs1 (cells + mc) (slots + ms) Q (F0 m (pc + 3) ls (.double r :: rest))) : W p l e R s m args below meth c H locs cells slots Q (F0 m pc ls st0) := by
  intro T hT X
  rcases hr T hT X with ⟨v, st₀, t, T', L, h0, X', hL, e1, e2, ⟨⟨r, u, hv, hp, hb⟩, hF⟩, st⟩ | ⟨q, st₀, t, T', L, E, ce, h0, X', hL, e1, e2, ⟨u, hp, hb, hF⟩, hce, hcv, hcl, st⟩
  · cases hv
    obtain ⟨k1, k2, k3⟩ := vx_keep h0 e1 hS hA hf hL hF
    obtain ⟨t2, a1, b1⟩ := kk r u t T'.heap (locs ++ L) e1.symm (by rw [← e2]; exact X'.warmed.alike) hp hb k1 k2 k3 T' rfl X'
    exact ⟨t2, st t2 a1, b1⟩
  · obtain ⟨k1, k2, k3⟩ := vx_keep h0 e1 hS hAX hf hL hF
    obtain ⟨t2, a1, b1⟩ := kx E ce q u t T'.heap (locs ++ L) e1.symm (by rw [← e2]; exact X'.warmed.alike) hp hb k1 k2 k3 (by rw [e1]; exact hce) hcv hcl T' rfl X'
    exact ⟨t2, st.trans a1, b1⟩
theorem vx_callv {S SX : Type} {post : S → Prop} {px : SX → Prop} {B : S → State → Prop} {BX : String → SX → State → Prop} {AX : Nat → Prop} (hr : vx_Run p l e R s m args below meth c H locs cells slots mc ms (F0 m pc ls st0) rest (va_Qv post B A1 a) (vx_X px BX AX) free) (hS : va_S A0 H0 H locs) (hA : ∀ q, q < H.size → A1 q → A0 q) (hf : ∀ q, free q → A0 q) (hAX : ∀ q, q < H.size → AX q → A0 q)
    (kx : ∀ (E : String) (ce : Cell) (q9 : Addr) (u : SX) (t : State) (H1 : Heap) (locs1 : List Loc), t.heap = H1 → s.vm.Alike t.vm → px u → BX E u t → H.size ≤ H1.size → (∀ q : Nat, q < H.size → ¬ AX q → H1[q]? = H[q]?) → va_S A0 H0 H1 locs1 → H1[q9]? = some ce → ce.vm = .none → s.vm.findClass E = some ce.cls → vx_W p l e R s m args below meth c H1 locs1 (cells + mc) (slots + ms) Q (F0 m pc ls rest) q9)
    (kk : ∀ (u : S) (t : State) (H1 : Heap) (locs1 : List Loc), t.heap = H1 → s.vm.Alike t.vm → post u → B u t → H.size ≤ H1.size → (∀ q : Nat, q < H.size → ¬ A1 q → H1[q]? = H[q]?) → va_S A0 H0 H1 locs1 → W p l e R s m args below meth c H1 locs1 (cells + mc) (slots + ms) Q (F0 m (pc + 3) ls (rest))) : W p l e R s m args below meth c H locs cells slots Q (F0 m pc ls st0) := by
  intro T hT X
  rcases hr T hT X with ⟨v, st₀, t, T', L, h0, X', hL, e1, e2, ⟨⟨u, hv, hp, hb⟩, hF⟩, st⟩ | ⟨q, st₀, t, T', L, E, ce, h0, X', hL, e1, e2, ⟨u, hp, hb, hF⟩, hce, hcv, hcl, st⟩
  · cases hv
    obtain ⟨k1, k2, k3⟩ := vx_keep h0 e1 hS hA hf hL hF
    obtain ⟨t2, a1, b1⟩ := kk u t T'.heap (locs ++ L) e1.symm (by rw [← e2]; exact X'.warmed.alike) hp hb k1 k2 k3 T' rfl X'
    exact ⟨t2, st t2 a1, b1⟩
  · obtain ⟨k1, k2, k3⟩ := vx_keep h0 e1 hS hAX hf hL hF
    obtain ⟨t2, a1, b1⟩ := kx E ce q u t T'.heap (locs ++ L) e1.symm (by rw [← e2]; exact X'.warmed.alike) hp hb k1 k2 k3 (by rw [e1]; exact hce) hcv hcl T' rfl X'
    exact ⟨t2, st.trans a1, b1⟩
/-- caught by the row x of this method's table; the rows ahead don't take it -/
theorem vx_catch {own name : String} {E : String} {ce : Cell} {q : Addr} (hown : s.vm.findClass own = some m.cls) (pre : List ExceptionTableEntry) (x : ExceptionTableEntry) (suf : List ExceptionTableEntry) (hsplit : c.exceptionTable.toList = pre ++ x :: suf)
    (hpass : ∀ z ∈ pre, covers z pc = false ∨ (z.catchType ≠ 0 ∧ ∃ nm : String, (Cond.classLink own z.catchType nm).before args s = true ∧ va_Nc E nm s)) (hx : covers x pc = true) (h0 : x.catchType ≠ 0)
    (hlink : (Cond.classLink own x.catchType name).before args s = true) (hcast : (Cond.castable E name).before args s = true) (hcell : H[q]? = some ce) (hv : ce.vm = .none) (hcl : s.vm.findClass E = some ce.cls)
    (kk : W p l e R s m args below meth c H locs cells slots Q (F0 m x.handlerPc ls [.ref q])) : vx_W p l e R s m args below meth c H locs cells slots Q (F0 m pc ls rest) q := by
  intro T hT X
  have hpl : e.platform.magicAccessors = ({} : Platform).magicAccessors := by rw [X.admits.platform]
  obtain ⟨c3, c4, hc3, hc4, hasg⟩ := Cond.castable_spec hcast
  cases Option.some.inj (hc3.symm.trans hcl)
  obtain ⟨c5, hc5, hcl5⟩ := Cond.classLink_spec hown hlink e.platform hpl
  cases Option.some.inj (hc4.symm.trans hc5)
  obtain ⟨vm', X', st⟩ := X.thenCaughtThrough q (g := F0 m pc ls rest) rfl (Steps.refl _) (by rw [hT]; exact hcell) (by rw [hv]; rfl) (by obtain ⟨k9, h9, -⟩ := Vm.findClass_spec hcl; exact ⟨k9, h9⟩) pre x suf hsplit
    (fun z hz => by
      rcases hpass z hz with h | ⟨hz0, nm, hl1, hn1⟩
      · exact Or.inl h
      · obtain ⟨c6, hc6, hcl6⟩ := Cond.classLink_spec hown hl1 e.platform hpl
        obtain ⟨a8, b8, h1, h2, h3⟩ := hn1
        cases Option.some.inj (h1.symm.trans hcl)
        cases Option.some.inj (h2.symm.trans hc6)
        exact Or.inr ⟨hz0, _, hcl6, h3⟩) hx (Or.inr ⟨h0, c4, hcl5, hasg⟩)
  obtain ⟨t, a1, b1⟩ := kk (T.setVm vm') hT X'
  exact ⟨t, st.trans a1, b1⟩
end Rows
section Ends
variable {p : Program} {l : Launch} {e : Env} {R : Room} {s : State} {m : MethodId} {args : Array Value} {below : List Frame} {meth : Method} {c : Code} {H : Heap} {locs : List Loc} {cells slots : Nat} {Q : State → Prop}
variable {mc ms : Nat} {free : Addr → Prop} {A0 A1 : Nat → Prop} {H0 : Heap} {a : Array Value} {ls : Array Slot} {st0 rest : List Value}
variable {Qc : Array Value → State → Outcome → State → Prop} {XC : String → State → State → Prop}
/-- what a body that may throw owes at its end -/
def vx_MQ (below : List Frame) (Qc : Array Value → State → Outcome → State → Prop) (XC : String → State → State → Prop) (a : Array Value) (s : State) (mc ms : Nat) (free : Addr → Prop) : State → Prop := fun t =>
  ∃ o, t.status = .running ∧ Ended t below o ∧ vx_Q Qc XC mc ms free a s o t
theorem vx_ret {g : JFrame} {mc ms : Nat} (k : W p l e R s m args below meth c H locs cells slots (MQ below Qc args s mc ms free) g) : W p l e R s m args below meth c H locs cells slots (vx_MQ below Qc XC args s mc ms free) g := by
  intro T hT X
  obtain ⟨t, a1, o, b1, b2, b3, b4⟩ := k T hT X
  exact ⟨t, a1, o, b1, b2, Or.inl ⟨b3, b4⟩⟩
/-- not caught here: it goes on to the caller -/
theorem vx_widen {g : JFrame} {q : Addr} {k n : Nat} (h1 : cells ≤ k) (h2 : slots ≤ n) (kk : vx_W p l e R s m args below meth c H locs k n Q g q) : vx_W p l e R s m args below meth c H locs cells slots Q g q := fun T hT X => kk T hT (stand_widen X h1 h2)
theorem vx_out {pc : Nat} {E : String} {ce : Cell} {q : Addr} {mc ms : Nat} (hout : ∀ x ∈ c.exceptionTable.toList, covers x pc = false) (hlocks : meth.locks = false) (hcell : H[q]? = some ce) (hv : ce.vm = .none) (hcl : s.vm.findClass E = some ce.cls)
    (hx : ∀ t : State, t.heap = H → s.vm.Alike t.vm → XC E s t) (hf : ∀ z ∈ locs, free z.base) (hc : cells ≤ mc) (hs : slots ≤ ms) :
    vx_W p l e R s m args below meth c H locs cells slots (vx_MQ below Qc XC args s mc ms free) (F0 m pc ls rest) q := by
  intro T hT X
  obtain ⟨st1, hrun, hend, hW, hsm⟩ := X.leaveThrown q (g := F0 m pc ls rest) rfl rfl rfl hout hlocks
  have hcell9 : (T.setFrames (.throwing q :: below)).heap[q]? = some ce := by
    show T.heap[q]? = some ce
    rw [hT]; exact hcell
  exact ⟨_, st1, .threw q, hrun, hend, Or.inr ⟨q, rfl, E, ce, locs, hx _ hT hW.alike, hcell9, hv, hcl, hW, hsm.mono hc hs, hf⟩⟩
theorem vx_frame {U : State} {k n : Nat} (h : s.sameButNew ({ U with vm := s.vm } : State) locs k n) : s.heap.size ≤ U.heap.size ∧ ∀ q : Nat, q < s.heap.size → (∀ z ∈ locs, z.base ≠ q) → U.heap[q]? = s.heap[q]? := by
  obtain ⟨-, h2, -, -, -, h6⟩ := h
  refine ⟨h2, fun q hq hz => ?_⟩
  obtain ⟨c9, e1, e2, e3, e4⟩ := h6 q _ (Array.getElem?_eq_getElem hq)
  have hs : c9.slots = (s.heap[q]).slots := Array.ext_getElem? fun i => e4 i fun hm => hz _ hm rfl
  have h9 : c9 = s.heap[q] := by
    rw [hs] at e2
    exact e2
  have e5 : U.heap[q]? = some c9 := e1
  rw [e5, h9, Array.getElem?_eq_getElem hq]
/-- the words of a throw but the four that speak of the heap -/
def vx_no (w : Cond) : Bool := decide (w ≠ .isRef (.static Bundle.tN "UNASSIGNED_STACK" Bundle.steD)) && decide (w ≠ .isRef (.static Bundle.tN "SUPPRESSED_SENTINEL" Bundle.listD)) && decide (w ≠ .laysStatic Bundle.tN "UNASSIGNED_STACK" Bundle.steD) && decide (w ≠ .laysStatic Bundle.tN "SUPPRESSED_SENTINEL" Bundle.listD)
def vx_at0 (own : String) (ic : Nat) (X : String) (names : List String) : List Cond := (Bundle.ownAtoms0 own ic X names).filter vx_no
def vx_atS (own : String) (ic : Nat) (X : String) (names : List String) : List Cond := (Bundle.ownAtoms own ic X names).filter vx_no
/-- a word that the tables alone decide, or a good one -/
def vx_ot (w : Cond) : Bool := w.onTables || goodWord w
theorem vx_ot_at {args a' : Array Value} {s U : State} {w : Cond} (hW : s.WarmedH U.vm) (hvm : s.vm = U.vm) (hg : vx_ot w = true) (h : w.before args s = true) : w.before a' U = true := by
  simp only [vx_ot, Bool.or_eq_true] at hg
  rcases hg with hg | hg
  · exact va_tabs hg hvm h
  · exact word_at hW (good_of_word hg) h
/-- a list's words: the good ones out of the method's own list, the others by premises of their own -/
theorem vx_hat {args : Array Value} {s : State} {L B : List Cond} (h1 : ∀ w ∈ L.filter goodWord, w.before args s = true) (h2 : ∀ w ∈ L.filter (fun w => !goodWord w), w ∈ B) (h3 : ∀ w ∈ B, w.before args s = true) : ∀ w ∈ L, w.before args s = true := by
  intro w hw
  by_cases g : goodWord w = true
  · exact h1 w (List.mem_filter.mpr ⟨hw, g⟩)
  · refine h3 w (h2 w (List.mem_filter.mpr ⟨hw, ?_⟩))
    show (!goodWord w) = true
    cases hgw : goodWord w
    · rfl
    · exact absurd hgw g
theorem vx_c {args : Array Value} {s : State} {w : Cond} {B : List Cond} (h : w.before args s = true) (t : ∀ w ∈ B, w.before args s = true) : ∀ w' ∈ w :: B, w'.before args s = true := fun w' h' => (List.mem_cons.mp h').elim (fun e => by rw [e]; exact h) (t w')
theorem vx_n {args : Array Value} {s : State} : ∀ w ∈ ([] : List Cond), w.before args s = true := fun _ h => nomatch h
theorem vx_own {args : Array Value} {s : State} {L : List Cond} (h1 : ∀ w ∈ L.filter vx_no, w.before args s = true)
    (hU : (Cond.isRef (.static Bundle.tN "UNASSIGNED_STACK" Bundle.steD)).before args s = true) (hN : (Cond.isRef (.static Bundle.tN "SUPPRESSED_SENTINEL" Bundle.listD)).before args s = true)
    (lU : (Cond.laysStatic Bundle.tN "UNASSIGNED_STACK" Bundle.steD).before args s = true) (lN : (Cond.laysStatic Bundle.tN "SUPPRESSED_SENTINEL" Bundle.listD).before args s = true) : ∀ w ∈ L, w.before args s = true := by
  intro w hw
  by_cases e1 : w = .isRef (.static Bundle.tN "UNASSIGNED_STACK" Bundle.steD)
  · rw [e1]; exact hU
  · by_cases e2 : w = .isRef (.static Bundle.tN "SUPPRESSED_SENTINEL" Bundle.listD)
    · rw [e2]; exact hN
    · by_cases e3 : w = .laysStatic Bundle.tN "UNASSIGNED_STACK" Bundle.steD
      · rw [e3]; exact lU
      · by_cases e4 : w = .laysStatic Bundle.tN "SUPPRESSED_SENTINEL" Bundle.listD
        · rw [e4]; exact lN
        · exact h1 w (List.mem_filter.mpr ⟨hw, by unfold vx_no; rw [decide_eq_true e1, decide_eq_true e2, decide_eq_true e3, decide_eq_true e4]; rfl⟩)
/-- where a static field lies, its class's statics cell in H -/
def vx_L (C n d : String) (A : Nat → Prop) (U : State) (H : Heap) : Prop := ∃ (c : ClassId) (k : Class) (i : Nat) (f : Field) (a : Nat) (cell : Cell), U.vm.findClass C = some c ∧ U.fieldFound? C n d = some (c, k, i, f) ∧ f.isStatic = true ∧ k.statics = some a ∧ H[a]? = some cell ∧ cell.vm.isStatics = true ∧ cell.cls = c ∧ f.slot < cell.slots.size ∧ k.staticTypes[f.slot]? = some f.type ∧ ¬ A a
theorem vx_L.moved {C n d : String} {A : Nat → Prop} {u U : State} {H : Heap} (hvm : u.vm.Alike U.vm) (h : vx_L C n d A u H) : vx_L C n d A U H := by
  obtain ⟨c, k, i, f, a, cell, h1, h2, h3, h4, h5, h6, h7, h8, h9, h10⟩ := h
  obtain ⟨k', hi', he⟩ := State.fieldFound?_setVm hvm h2
  exact ⟨c, k', i, f, a, cell, by rw [hvm.findClass]; exact h1, hi', h3, by rw [he]; exact h4, h5, h6, h7, h8, by rw [he]; exact h9, h10⟩
theorem vx_L.kept {C n d : String} {A : Nat → Prop} {U : State} {H H1 : Heap} (h : vx_L C n d A U H) (hq : ∀ a : Nat, a < H.size → ¬ A a → H1[a]? = H[a]?) : vx_L C n d A U H1 := by
  obtain ⟨c, k, i, f, a, cell, h1, h2, h3, h4, h5, h6, h7, h8, h9, h10⟩ := h
  exact ⟨c, k, i, f, a, cell, h1, h2, h3, h4, by rw [hq a (Array.getElem?_eq_some_iff.mp h5).1 h10]; exact h5, h6, h7, h8, h9, h10⟩
theorem vx_L.narrow {C n d : String} {A B : Nat → Prop} {U : State} {H : Heap} (h : vx_L C n d A U H) (hAB : ∀ q, B q → A q) : vx_L C n d B U H := by
  obtain ⟨c, k, i, f, a, cell, h1, h2, h3, h4, h5, h6, h7, h8, h9, h10⟩ := h
  exact ⟨c, k, i, f, a, cell, h1, h2, h3, h4, h5, h6, h7, h8, h9, fun z => h10 (hAB _ z)⟩
theorem vx_L.word {C n d : String} {A : Nat → Prop} {s : State} {args : Array Value} (h : vx_L C n d A s s.heap) : (Cond.laysStatic C n d).before args s = true := by
  obtain ⟨c, k, i, f, a, cell, h1, h2, h3, h4, h5, h6, h7, h8, h9, -⟩ := h
  show (Cond.laysStatic C n d).holds args s none s [] = true
  exact Cond.laysStatic_of h1 h2 h3 h4 h5 h6 h7 h8 h9
/-- .. and what it holds: null or some reference -/
def vx_Zq (C n d : String) (A : Nat → Prop) (U : State) (H : Heap) : Prop := va_Zq C n d A U H ∧ vx_L C n d A U H
theorem vx_Zq.moved {C n d : String} {A : Nat → Prop} {u U : State} {H : Heap} (hvm : u.vm.Alike U.vm) (h : vx_Zq C n d A u H) : vx_Zq C n d A U H := ⟨va_Zq.moved hvm h.1, vx_L.moved hvm h.2⟩
theorem vx_Zq.kept {C n d : String} {A : Nat → Prop} {U : State} {H H1 : Heap} (h : vx_Zq C n d A U H) (hq : ∀ a : Nat, a < H.size → ¬ A a → H1[a]? = H[a]?) : vx_Zq C n d A U H1 := ⟨va_Zq.kept h.1 hq, vx_L.kept h.2 hq⟩
theorem vx_Zq.narrow {C n d : String} {A B : Nat → Prop} {U : State} {H : Heap} (h : vx_Zq C n d A U H) (hAB : ∀ q, B q → A q) : vx_Zq C n d B U H := ⟨va_Zq.narrow h.1 hAB, vx_L.narrow h.2 hAB⟩
theorem vx_Zqof {args : Array Value} {s : State} {C n d : String} {A : Nat → Prop} (hl : (Cond.laysStatic C n d).before args s = true) (hini : (Cond.initialized C).before args s = true) (h : (Cond.isRef (.static C n d)).before args s = true) (hA : ∀ a : Nat, a < s.heap.size → ¬ A a) : vx_Zq C n d A s s.heap := by
  refine ⟨va_Zqof hl hini h hA, ?_⟩
  obtain ⟨c, k, i, f, a, cell, h1, h2, h3, h4, h5, h6, h7, h8, h9⟩ := Cond.laysStatic_spec hl
  exact ⟨c, k, i, f, a, cell, h1, h2, h3, h4, h5, h6, h7, h8, h9, hA a (Array.getElem?_eq_some_iff.mp h5).1⟩
theorem vx_isRef {C n d : String} {v : Value} {A : Nat → Prop} {s : State} {args : Array Value} (h : va_Z C n d v A s s.heap) (hv : v.isRef = true) : (Cond.isRef (.static C n d)).before args s = true := by
  obtain ⟨cf, kf, fi, f, a, cell, h1, h2, h3, h4, h5, h6, h7, -⟩ := h
  have he : (Term.static C n d).eval args s none [] s = some v := by
    simp [Term.eval, State.fieldNamed?, h1, h2, h4, h5, h6, h7]
  simp only [Cond.before, Cond.holds, Cond.value, he]
  cases v <;> simp_all [Value.isRef]
theorem vx_isRefq {C n d : String} {A : Nat → Prop} {s : State} {args : Array Value} (h : va_Zq C n d A s s.heap) : (Cond.isRef (.static C n d)).before args s = true := by
  rcases h with h | ⟨t, h⟩
  · exact vx_isRef h rfl
  · exact vx_isRef h rfl
/-- the same frame, seen from here: as if the method were called anew in this heap -/
theorem vx_rebase {T : State} (X : Stand p l e R s m args below meth c T locs cells slots) {R' : Room} (hf : R'.frames ≤ R.frames) (hl : R'.locals ≤ R.locals) (hc : cells + R'.cells ≤ R.cells) (hs : slots + R'.slots ≤ R.slots) :
    Stand p l e R' ((T.setVm s.vm).setFrames (.invoking m args :: below)) m args below meth c T [] 0 0 := by
  have htop : (T.setVm s.vm).topJava?.isSome := X.here.top
  have hF : ((T.setVm s.vm).setFrames (.invoking m args :: below)).frames = .invoking m args :: below := State.frames_setFrames _ (State.cur_lt_of_top htop)
  obtain ⟨g₀, hg0⟩ := Option.isSome_iff_exists.mp htop
  obtain ⟨r, hr⟩ := State.topJava?_eq_some.mp hg0
  have hl9 : e.platform.stackLimits (T.setVm s.vm).me = e.platform.stackLimits s.me := X.limits
  have hb9 : (T.setVm s.vm).me.stackBytes = s.me.stackBytes := X.bytes
  refine ⟨X.admits, X.cas, X.clock, hF, ?_, X.hears, X.method, X.code, X.here, X.tail, X.warmed, ?_, ?_, ?_⟩
  · have h := X.room
    have hU : ((T.setVm s.vm).setFrames (.invoking m args :: below)).localsInUse = s.localsInUse := by
      rw [State.localsInUse_invoking hF (meth := meth) (c := c) X.method X.code, State.localsInUse_invoking X.frames X.method X.code]
    simp only [State.hasRoom, Bool.and_eq_true, decide_eq_true_eq] at h ⊢
    obtain ⟨⟨⟨⟨h1, h2, h3, h4, h5, h6⟩, h7⟩, h8⟩, h9⟩ := h
    rw [X.frames, List.length_cons] at h2 h3
    have q1 := X.heapSize
    have q2 := X.used
    simp only [hF, hU, List.length_cons, State.stackLimits_setFrames, State.stackBytes_setFrames, hl9, hb9]
    refine ⟨⟨⟨⟨by omega, by omega, by omega, by omega, by omega, h6⟩, ?_⟩, ?_⟩, X.book⟩
    · show T.heap.size + R'.cells ≤ e.platform.maxCells
      omega
    · show T.slotsUsed + R'.slots ≤ e.platform.maxSlots
      omega
  · rw [State.stackLimits_setFrames]; rfl
  · rw [State.stackBytes_setFrames]; rfl
  · refine ⟨?_, Nat.le_refl _, Nat.le_refl _, ?_, ?_, fun a c9 h9 => ⟨c9, h9, rfl, rfl, fun _ _ => rfl⟩⟩
    · obtain ⟨t, ht, -⟩ := State.frames_cons hr
      show T.setVm s.vm = { ((T.setVm s.vm).setFrames (.invoking m args :: below)).setFrames (T.setVm s.vm).frames with heap := T.heap, slotsUsed := T.slotsUsed }
      rw [State.setFrames_setFrames, State.setFrames_self ht]
      rfl
    · show T.slotsUsed = T.slotsUsed + ((T.heap.toList.drop T.heap.size).map (·.slots.size)).sum
      rw [List.drop_eq_nil_of_le (Nat.le_of_eq Array.length_toList)]
      rfl
    · show ((T.heap.toList.drop T.heap.size).map (·.slots.size)).sum ≤ 0
      rw [List.drop_eq_nil_of_le (Nat.le_of_eq Array.length_toList)]
      exact Nat.le_refl _
/-- 'throw new E()': new; dup; invokespecial; athrow -/
theorem vx_throw0 {cc : ByteArray} {pc : Nat} (hexec : p.tables.exec = Jvm.exec) (hb : c.code = cc) (hl : l.stackTraces = false) {own cls : String} {names : List String} {ik ic mc ms : Nat} {A : Nat → Prop}
    (hown : s.vm.findClass own = some m.cls) (hcls : Bundle.fit cls = true) (hnames : ∀ n ∈ names, Bundle.fit n = true)
    (hk : (Cond.classLink own ik cls).before args s = true) (hini : (Cond.initialized cls).before args s = true) (hat : ∀ w ∈ vx_at0 own ic cls names, w.before args s = true)
    (hgood : ∀ w ∈ Cond.classLink own ik cls :: Cond.initialized cls :: vx_at0 own ic cls names, vx_ot w = true)
    (hU : vx_Zq Bundle.tN "UNASSIGNED_STACK" Bundle.steD A s s.heap) (hN : vx_Zq Bundle.tN "SUPPRESSED_SENTINEL" Bundle.listD A s s.heap) (hS : va_S A s.heap H locs) (hsize : ls.size = c.maxLocals)
    (d0 : decode cc pc = .ok (.new ik, 3)) (d3 : decode cc (pc + 3) = .ok (.dup, 1)) (d4 : decode cc (pc + 4) = .ok (.invokespecial ic, 3)) (d7 : decode cc (pc + 7) = .ok (.athrow, 1))
    (hout : ∀ x ∈ c.exceptionTable.toList, covers x (pc + 7) = false)
    (hRframes : names.length + 3 < R.frames) (hRlocals : (rest.map fun v => v.category).sum + (13 * (names.length + 1) + 42) ≤ R.locals) (hRcells : cells + 1 ≤ R.cells) (hRslots : slots + 6 ≤ R.slots) (hlocks : meth.locks = false)
    (hx : ∀ t : State, s.vm.Alike t.vm → H.size ≤ t.heap.size → (∀ q : Nat, q < H.size → t.heap[q]? = H[q]?) → XC cls s t)
    (hf : ∀ z ∈ locs, free z.base) (hc : cells + 1 ≤ mc) (hs : slots + 6 ≤ ms) :
    W p l e R s m args below meth c H locs cells slots (vx_MQ below Qc XC args s mc ms free) (F0 m pc ls rest) := by
  intro T hT X
  have htr : e.platform.stackTraces = false := (show e.platform.stackTraces = l.stackTraces by rw [X.admits.platform]).trans hl
  have Y := vx_rebase X (R' := { frames := R.frames, locals := R.locals, cells := 1, slots := 6 }) (Nat.le_refl _) (Nat.le_refl _) hRcells hRslots
  obtain ⟨s', hA⟩ : ∃ z, z = (T.setVm s.vm).setFrames (.invoking m args :: below) := ⟨_, rfl⟩
  rw [← hA] at Y
  have hvm : s'.vm = s.vm := by rw [hA]; rfl
  have hhp : s'.heap = H := by rw [hA]; exact hT
  have hW0 : s.WarmedH s'.vm := by rw [hvm]; exact State.WarmedH.refl s
  have hat' : ∀ w ∈ vx_at0 own ic cls names, w.before args s' = true := fun w hw => vx_ot_at hW0 hvm.symm (hgood w (List.mem_cons_of_mem _ (List.mem_cons_of_mem _ hw))) (hat w hw)
  have hk' : (Cond.classLink own ik cls).before args s' = true := vx_ot_at hW0 hvm.symm (hgood _ List.mem_cons_self) hk
  have hini' : (Cond.initialized cls).before args s' = true := vx_ot_at hW0 hvm.symm (hgood _ (List.mem_cons_of_mem _ List.mem_cons_self)) hini
  have hU' : vx_Zq Bundle.tN "UNASSIGNED_STACK" Bundle.steD A s' s'.heap := by rw [hhp]; exact vx_Zq.moved hW0.alike (hU.kept hS.2.1)
  have hN' : vx_Zq Bundle.tN "SUPPRESSED_SENTINEL" Bundle.listD A s' s'.heap := by rw [hhp]; exact vx_Zq.moved hW0.alike (hN.kept hS.2.1)
  have h : ∀ w ∈ Bundle.ownAtoms0 own ic cls names, w.before args s' = true := vx_own hat' (vx_isRefq hU'.1) (vx_isRefq hN'.1) hU'.2.word hN'.2.word
  have hown' : s'.vm.findClass own = some m.cls := by rw [hvm]; exact hown
  have hins : (Cond.instantiable cls 6).before args s' = true := h _ (by simp [Bundle.ownAtoms0])
  obtain ⟨vm₁, cX, kX, hfX, hkX, -, -, X₁, st1⟩ := Y.newCold hexec (own := own) (C := cls) (index := ik) (n := 6) hown' hk' hins hini'
    (g := F0 m pc ls rest) rfl (by rw [hb]; exact d0) (Nat.le_refl _) (Nat.le_refl _)
  generalize hT1 : (T.setVm vm₁).pushCell { cls := cX, slots := kX.instanceTypes.map defaultValue, vm := .none } = T1 at X₁ st1
  have hcat : (Value.ref T.heap.size).category = 1 := rfl
  have hcellA : T1.heap[T.heap.size]? = some (freshCell cX kX) := by rw [← hT1]; exact State.heap_pushCell_size _ _
  have d3' : decode c.code (pc + 3) = .ok (.dup, 1) := by rw [hb]; exact d3
  obtain ⟨U, hsteps, hrun, hend, hW, hsame, ce, hce, hO⟩ := X₁.ctorThrow0 hexec htr (own := own) (cls := cls) (names := names) (ic := ic) hown' hcls hnames h (fun x hx => nomatch hx) hfX hkX hcellA (by rw [hhp, hT]; exact Nat.le_refl _)
    (g := { method := m, pc := pc + 4, locals := ls, stack := .ref T.heap.size :: .ref T.heap.size :: rest, locked := none }) rfl hsize rfl rfl (rest := rest) rfl
    (by rw [hb]; exact d4) (by rw [hb]; exact d7) hout hRframes (by simp only [List.map_cons, List.sum_cons, hcat]; omega) hlocks
  obtain ⟨f1, f2⟩ := vx_frame hsame
  rw [hhp] at f1 f2
  have hWs : s.WarmedH U.vm := State.WarmedH.trans hW0 hW
  have hcl : s.vm.findClass cls = some ce.cls := by
    have h9 := hO.cls
    rw [hvm] at h9
    exact h9
  have hall : s.sameButNew ({ U with vm := s.vm } : State) locs mc ms := by
    subst hA
    obtain ⟨e1, e2⟩ := hsame
    rw [State.setFrames_setFrames] at e1
    have h2 : (T.setVm s.vm).sameButNew ({ U with vm := s.vm } : State) [] (0 + 1) (0 + 6) := ⟨e1, e2⟩
    have h3 := X.same.trans h2
    rw [List.append_nil] at h3
    exact h3.mono hc hs
  refine ⟨U, ?_, .threw T.heap.size, hrun, hend, Or.inr ⟨T.heap.size, rfl, cls, ce, locs, hx U hWs.alike f1 (fun q hq => f2 q hq (fun z hz => nomatch hz)), hce, hO.vm, hcl, hWs, hall, hf⟩⟩
  refine st1 _ ?_
  show Steps p.tables e below (T1.setTop { method := m, pc := pc + 3, locals := ls, stack := .ref T.heap.size :: rest, locked := none }) _
  jvm_step X₁.here [X₁.here.top, hexec, d3', Value.category]
  exact hsteps
/-- 'throw new E("text")': new; dup; ldc; invokespecial; athrow -/
theorem vx_throwS {cc : ByteArray} {pc : Nat} (hexec : p.tables.exec = Jvm.exec) (hb : c.code = cc) (hl : l.stackTraces = false) {own cls text : String} {names : List String} {ik is ic mc ms sa : Nat} {A : Nat → Prop}
    (hown : s.vm.findClass own = some m.cls) (hcls : Bundle.fit cls = true) (hnames : ∀ n ∈ names, Bundle.fit n = true)
    (hk : (Cond.classLink own ik cls).before args s = true) (hini : (Cond.initialized cls).before args s = true) (hstr : vk_R own is text sa s) (hat : ∀ w ∈ vx_atS own ic cls names, w.before args s = true)
    (hgood : ∀ w ∈ Cond.classLink own ik cls :: Cond.initialized cls :: vx_atS own ic cls names, vx_ot w = true)
    (hU : vx_Zq Bundle.tN "UNASSIGNED_STACK" Bundle.steD A s s.heap) (hN : vx_Zq Bundle.tN "SUPPRESSED_SENTINEL" Bundle.listD A s s.heap) (hS : va_S A s.heap H locs) (hsize : ls.size = c.maxLocals)
    (d0 : decode cc pc = .ok (.new ik, 3)) (d3 : decode cc (pc + 3) = .ok (.dup, 1)) (d4 : decode cc (pc + 4) = .ok (.ldc is, 2)) (d6 : decode cc (pc + 6) = .ok (.invokespecial ic, 3)) (d9 : decode cc (pc + 9) = .ok (.athrow, 1))
    (hout : ∀ x ∈ c.exceptionTable.toList, covers x (pc + 9) = false)
    (hRframes : names.length + 3 < R.frames) (hRlocals : (rest.map fun v => v.category).sum + (13 * (names.length + 1) + 43) ≤ R.locals) (hRcells : cells + 1 ≤ R.cells) (hRslots : slots + 6 ≤ R.slots) (hlocks : meth.locks = false)
    (hx : ∀ t : State, s.vm.Alike t.vm → H.size ≤ t.heap.size → (∀ q : Nat, q < H.size → t.heap[q]? = H[q]?) → XC cls s t)
    (hf : ∀ z ∈ locs, free z.base) (hc : cells + 1 ≤ mc) (hs : slots + 6 ≤ ms) :
    W p l e R s m args below meth c H locs cells slots (vx_MQ below Qc XC args s mc ms free) (F0 m pc ls rest) := by
  intro T hT X
  have htr : e.platform.stackTraces = false := (show e.platform.stackTraces = l.stackTraces by rw [X.admits.platform]).trans hl
  have Y := vx_rebase X (R' := { frames := R.frames, locals := R.locals, cells := 1, slots := 6 }) (Nat.le_refl _) (Nat.le_refl _) hRcells hRslots
  obtain ⟨s', hA⟩ : ∃ z, z = (T.setVm s.vm).setFrames (.invoking m args :: below) := ⟨_, rfl⟩
  rw [← hA] at Y
  have hvm : s'.vm = s.vm := by rw [hA]; rfl
  have hhp : s'.heap = H := by rw [hA]; exact hT
  have hW0 : s.WarmedH s'.vm := by rw [hvm]; exact State.WarmedH.refl s
  have hat' : ∀ w ∈ vx_atS own ic cls names, w.before args s' = true := fun w hw => vx_ot_at hW0 hvm.symm (hgood w (List.mem_cons_of_mem _ (List.mem_cons_of_mem _ hw))) (hat w hw)
  have hk' : (Cond.classLink own ik cls).before args s' = true := vx_ot_at hW0 hvm.symm (hgood _ List.mem_cons_self) hk
  have hini' : (Cond.initialized cls).before args s' = true := vx_ot_at hW0 hvm.symm (hgood _ (List.mem_cons_of_mem _ List.mem_cons_self)) hini
  have hU' : vx_Zq Bundle.tN "UNASSIGNED_STACK" Bundle.steD A s' s'.heap := by rw [hhp]; exact vx_Zq.moved hW0.alike (hU.kept hS.2.1)
  have hN' : vx_Zq Bundle.tN "SUPPRESSED_SENTINEL" Bundle.listD A s' s'.heap := by rw [hhp]; exact vx_Zq.moved hW0.alike (hN.kept hS.2.1)
  have h : ∀ w ∈ Bundle.ownAtoms own ic cls names, w.before args s' = true := vx_own hat' (vx_isRefq hU'.1) (vx_isRefq hN'.1) hU'.2.word hN'.2.word
  have hown' : s'.vm.findClass own = some m.cls := by rw [hvm]; exact hown
  have hins : (Cond.instantiable cls 6).before args s' = true := h _ (by simp [Bundle.ownAtoms])
  obtain ⟨vm₁, cX, kX, hfX, hkX, -, -, X₁, st1⟩ := Y.newCold hexec (own := own) (C := cls) (index := ik) (n := 6) hown' hk' hins hini'
    (g := F0 m pc ls rest) rfl (by rw [hb]; exact d0) (Nat.le_refl _) (Nat.le_refl _)
  generalize hT1 : (T.setVm vm₁).pushCell { cls := cX, slots := kX.instanceTypes.map defaultValue, vm := .none } = T1 at X₁ st1
  have hcat : (Value.ref T.heap.size).category = 1 := rfl
  have hcellA : T1.heap[T.heap.size]? = some (freshCell cX kX) := by rw [← hT1]; exact State.heap_pushCell_size _ _
  have d3' : decode c.code (pc + 3) = .ok (.dup, 1) := by rw [hb]; exact d3
  have d4' : decode c.code (pc + 4) = .ok (.ldc is, 2) := by rw [hb]; exact d4
  have hstr' : vk_R own is text sa s' := vk_R.warm hW0 hstr
  obtain ⟨U, hsteps, hrun, hend, hW, hsame, ce, hce, hO⟩ := X₁.ctorThrowS hexec htr (own := own) (cls := cls) (names := names) (ic := ic) hown' hcls hnames h (fun x hx => nomatch hx) hfX hkX hcellA (by rw [hhp, hT]; exact Nat.le_refl _) (msg := .ref sa) rfl
    (g := { method := m, pc := pc + 6, locals := ls, stack := .ref sa :: .ref T.heap.size :: .ref T.heap.size :: rest, locked := none }) rfl hsize rfl rfl (rest := rest) rfl
    (by rw [hb]; exact d6) (by rw [hb]; exact d9) hout hRframes (by simp only [List.map_cons, List.sum_cons, hcat]; omega) hlocks
  obtain ⟨f1, f2⟩ := vx_frame hsame
  rw [hhp] at f1 f2
  have hWs : s.WarmedH U.vm := State.WarmedH.trans hW0 hW
  have hcl : s.vm.findClass cls = some ce.cls := by
    have h9 := hO.cls
    rw [hvm] at h9
    exact h9
  have hall : s.sameButNew ({ U with vm := s.vm } : State) locs mc ms := by
    subst hA
    obtain ⟨e1, e2⟩ := hsame
    rw [State.setFrames_setFrames] at e1
    have h2 : (T.setVm s.vm).sameButNew ({ U with vm := s.vm } : State) [] (0 + 1) (0 + 6) := ⟨e1, e2⟩
    have h3 := X.same.trans h2
    rw [List.append_nil] at h3
    exact h3.mono hc hs
  refine ⟨U, ?_, .threw T.heap.size, hrun, hend, Or.inr ⟨T.heap.size, rfl, cls, ce, locs, hx U hWs.alike f1 (fun q hq => f2 q hq (fun z hz => nomatch hz)), hce, hO.vm, hcl, hWs, hall, hf⟩⟩
  refine st1 _ ?_
  show Steps p.tables e below (T1.setTop { method := m, pc := pc + 3, locals := ls, stack := .ref T.heap.size :: rest, locked := none }) _
  jvm_step X₁.here [X₁.here.top, hexec, d3', Value.category]
  exact X₁.ldcString hexec (own := own) (text := text) (index := is) (a := sa) hown' hstr'.1 hstr'.2
    (g := { method := m, pc := pc + 4, locals := ls, stack := .ref T.heap.size :: .ref T.heap.size :: rest, locked := none }) rfl d4' _ hsteps
/-- 'throw new E("text")', the text by a wide index -/
theorem vx_throwSW {cc : ByteArray} {pc : Nat} (hexec : p.tables.exec = Jvm.exec) (hb : c.code = cc) (hl : l.stackTraces = false) {own cls text : String} {names : List String} {ik is ic mc ms sa : Nat} {A : Nat → Prop}
    (hown : s.vm.findClass own = some m.cls) (hcls : Bundle.fit cls = true) (hnames : ∀ n ∈ names, Bundle.fit n = true)
    (hk : (Cond.classLink own ik cls).before args s = true) (hini : (Cond.initialized cls).before args s = true) (hstr : vk_R own is text sa s) (hat : ∀ w ∈ vx_atS own ic cls names, w.before args s = true)
    (hgood : ∀ w ∈ Cond.classLink own ik cls :: Cond.initialized cls :: vx_atS own ic cls names, vx_ot w = true)
    (hU : vx_Zq Bundle.tN "UNASSIGNED_STACK" Bundle.steD A s s.heap) (hN : vx_Zq Bundle.tN "SUPPRESSED_SENTINEL" Bundle.listD A s s.heap) (hS : va_S A s.heap H locs) (hsize : ls.size = c.maxLocals)
    (d0 : decode cc pc = .ok (.new ik, 3)) (d3 : decode cc (pc + 3) = .ok (.dup, 1)) (d4 : decode cc (pc + 4) = .ok (.ldc_w is, 3)) (d7 : decode cc (pc + 7) = .ok (.invokespecial ic, 3)) (d10 : decode cc (pc + 10) = .ok (.athrow, 1))
    (hout : ∀ x ∈ c.exceptionTable.toList, covers x (pc + 10) = false)
    (hRframes : names.length + 3 < R.frames) (hRlocals : (rest.map fun v => v.category).sum + (13 * (names.length + 1) + 43) ≤ R.locals) (hRcells : cells + 1 ≤ R.cells) (hRslots : slots + 6 ≤ R.slots) (hlocks : meth.locks = false)
    (hx : ∀ t : State, s.vm.Alike t.vm → H.size ≤ t.heap.size → (∀ q : Nat, q < H.size → t.heap[q]? = H[q]?) → XC cls s t)
    (hf : ∀ z ∈ locs, free z.base) (hc : cells + 1 ≤ mc) (hs : slots + 6 ≤ ms) :
    W p l e R s m args below meth c H locs cells slots (vx_MQ below Qc XC args s mc ms free) (F0 m pc ls rest) := by
  intro T hT X
  have htr : e.platform.stackTraces = false := (show e.platform.stackTraces = l.stackTraces by rw [X.admits.platform]).trans hl
  have Y := vx_rebase X (R' := { frames := R.frames, locals := R.locals, cells := 1, slots := 6 }) (Nat.le_refl _) (Nat.le_refl _) hRcells hRslots
  obtain ⟨s', hA⟩ : ∃ z, z = (T.setVm s.vm).setFrames (.invoking m args :: below) := ⟨_, rfl⟩
  rw [← hA] at Y
  have hvm : s'.vm = s.vm := by rw [hA]; rfl
  have hhp : s'.heap = H := by rw [hA]; exact hT
  have hW0 : s.WarmedH s'.vm := by rw [hvm]; exact State.WarmedH.refl s
  have hat' : ∀ w ∈ vx_atS own ic cls names, w.before args s' = true := fun w hw => vx_ot_at hW0 hvm.symm (hgood w (List.mem_cons_of_mem _ (List.mem_cons_of_mem _ hw))) (hat w hw)
  have hk' : (Cond.classLink own ik cls).before args s' = true := vx_ot_at hW0 hvm.symm (hgood _ List.mem_cons_self) hk
  have hini' : (Cond.initialized cls).before args s' = true := vx_ot_at hW0 hvm.symm (hgood _ (List.mem_cons_of_mem _ List.mem_cons_self)) hini
  have hU' : vx_Zq Bundle.tN "UNASSIGNED_STACK" Bundle.steD A s' s'.heap := by rw [hhp]; exact vx_Zq.moved hW0.alike (hU.kept hS.2.1)
  have hN' : vx_Zq Bundle.tN "SUPPRESSED_SENTINEL" Bundle.listD A s' s'.heap := by rw [hhp]; exact vx_Zq.moved hW0.alike (hN.kept hS.2.1)
  have h : ∀ w ∈ Bundle.ownAtoms own ic cls names, w.before args s' = true := vx_own hat' (vx_isRefq hU'.1) (vx_isRefq hN'.1) hU'.2.word hN'.2.word
  have hown' : s'.vm.findClass own = some m.cls := by rw [hvm]; exact hown
  have hins : (Cond.instantiable cls 6).before args s' = true := h _ (by simp [Bundle.ownAtoms])
  obtain ⟨vm₁, cX, kX, hfX, hkX, -, -, X₁, st1⟩ := Y.newCold hexec (own := own) (C := cls) (index := ik) (n := 6) hown' hk' hins hini'
    (g := F0 m pc ls rest) rfl (by rw [hb]; exact d0) (Nat.le_refl _) (Nat.le_refl _)
  generalize hT1 : (T.setVm vm₁).pushCell { cls := cX, slots := kX.instanceTypes.map defaultValue, vm := .none } = T1 at X₁ st1
  have hcat : (Value.ref T.heap.size).category = 1 := rfl
  have hcellA : T1.heap[T.heap.size]? = some (freshCell cX kX) := by rw [← hT1]; exact State.heap_pushCell_size _ _
  have d3' : decode c.code (pc + 3) = .ok (.dup, 1) := by rw [hb]; exact d3
  have d4' : decode c.code (pc + 4) = .ok (.ldc_w is, 3) := by rw [hb]; exact d4
  have hstr' : vk_R own is text sa s' := vk_R.warm hW0 hstr
  obtain ⟨U, hsteps, hrun, hend, hW, hsame, ce, hce, hO⟩ := X₁.ctorThrowS hexec htr (own := own) (cls := cls) (names := names) (ic := ic) hown' hcls hnames h (fun x hx => nomatch hx) hfX hkX hcellA (by rw [hhp, hT]; exact Nat.le_refl _) (msg := .ref sa) rfl
    (g := { method := m, pc := pc + 7, locals := ls, stack := .ref sa :: .ref T.heap.size :: .ref T.heap.size :: rest, locked := none }) rfl hsize rfl rfl (rest := rest) rfl
    (by rw [hb]; exact d7) (by rw [hb]; exact d10) hout hRframes (by simp only [List.map_cons, List.sum_cons, hcat]; omega) hlocks
  obtain ⟨f1, f2⟩ := vx_frame hsame
  rw [hhp] at f1 f2
  have hWs : s.WarmedH U.vm := State.WarmedH.trans hW0 hW
  have hcl : s.vm.findClass cls = some ce.cls := by
    have h9 := hO.cls
    rw [hvm] at h9
    exact h9
  have hall : s.sameButNew ({ U with vm := s.vm } : State) locs mc ms := by
    subst hA
    obtain ⟨e1, e2⟩ := hsame
    rw [State.setFrames_setFrames] at e1
    have h2 : (T.setVm s.vm).sameButNew ({ U with vm := s.vm } : State) [] (0 + 1) (0 + 6) := ⟨e1, e2⟩
    have h3 := X.same.trans h2
    rw [List.append_nil] at h3
    exact h3.mono hc hs
  refine ⟨U, ?_, .threw T.heap.size, hrun, hend, Or.inr ⟨T.heap.size, rfl, cls, ce, locs, hx U hWs.alike f1 (fun q hq => f2 q hq (fun z hz => nomatch hz)), hce, hO.vm, hcl, hWs, hall, hf⟩⟩
  refine st1 _ ?_
  show Steps p.tables e below (T1.setTop { method := m, pc := pc + 3, locals := ls, stack := .ref T.heap.size :: rest, locked := none }) _
  jvm_step X₁.here [X₁.here.top, hexec, d3', Value.category]
  exact X₁.ldcStringW hexec (own := own) (text := text) (index := is) (a := sa) hown' hstr'.1 hstr'.2
    (g := { method := m, pc := pc + 4, locals := ls, stack := .ref T.heap.size :: .ref T.heap.size :: rest, locked := none }) rfl d4' _ hsteps
end Ends
section Bodies
variable {l : Launch}
theorem vx_ofW {y : MethodName} {ws ws' : List Cond} {rm : Room} {Pc : Array Value → State → Prop} {Qc : Array Value → State → Outcome → State → Prop} {XC : String → State → State → Prop} {mc ms : Nat} {free : Addr → Prop} {cc : ByteArray} {maxL : Nat} {ret : Option FieldType}
    (hy : plainName y.cls = true) (hw : ws = Cond.code y cc maxL ret :: ws')
    (body : ∀ p e s m args below meth c s₁, BodyLoose p l y (headSpec ws rm) cc maxL ret e s m args below meth c s₁ → c.maxLocals = maxL → (∀ x ∈ c.exceptionTable.toList, False) → Pc args s →
      W p l e (headSpec ws rm).room s m args below meth c s.heap [] 0 0 (vx_MQ below Qc XC args s mc ms free) (entryFrame m args maxL)) : vx_Met l y ws rm Pc Qc XC mc ms free := by
  refine MetFree.of_bodyS (code := cc) (maxLocals := maxL) (ret := ret) hy ?_ ?_
  · intro args s m h hn
    obtain ⟨meth, c, h1, h2, h3, h4, h5, h6, -, -⟩ := Cond.code_spec hn (atoms_spec (ws := ws) h _ (by rw [hw]; exact List.mem_cons_self))
    exact ⟨meth, c, h1, h2, h3, h4, h5, h6⟩
  · intro p e s m args below meth c s₁ B hml hP _
    have hh0 : s₁.heap = s.heap := by rw [B.state]; rfl
    have ht : ∀ x ∈ c.exceptionTable.toList, False := by
      obtain ⟨meth9, c9, h1, h2, -, -, -, -, h7, -⟩ := Cond.code_spec B.named (atoms_spec (ws := ws) B.pre _ (by rw [hw]; exact List.mem_cons_self))
      cases Option.some.inj (h1.symm.trans B.method)
      cases Option.some.inj (h2.symm.trans (Stand.of_body B).code)
      intro x hx
      rw [Array.isEmpty_iff.mp h7] at hx
      cases hx
    obtain ⟨t, a1, o, b1, b2, b3⟩ := body p e s m args below meth c s₁ B hml ht hP s₁ hh0 (Stand.of_body B)
    exact ⟨t, o, a1, b1, b2, b3⟩
/-- the table of a body with handlers -/
theorem vx_table {p : Program} {x y : MethodName} {S : Spec} {cc bytes : ByteArray} {maxL maxL' : Nat} {ret ret' : Option FieldType} {e : Env} {s s₁ : State} {m : MethodId} {args : Array Value} {below : List Frame} {meth : Method} {c : Code} {hh : List (Nat × Nat × Nat × Nat)}
    (B : BodyLoose p l y S cc maxL ret e s m args below meth c s₁) (h : (Cond.codeWith y bytes maxL' ret' hh).before args s = true) : c.exceptionTable.toList = tableOf hh := by
  obtain ⟨m9, meth9, c9, hn9, h1, h2, -, -, h6, -⟩ := Cond.codeWith_spec h
  cases Option.some.inj (hn9.symm.trans B.named)
  cases Option.some.inj (h1.symm.trans B.method)
  cases Option.some.inj (h2.symm.trans (Stand.of_body B).code)
  rw [← h6, table_eq]
end Bodies
end VXA
/-! ===== END ===== -/
/-! ===== BEGIN a static call of a method with an exception table ===== -/
section VXS
variable {p : Program} {l : Launch} {e : Env} {R : Room} {s : State} {m : MethodId} {args : Array Value} {below : List Frame} {meth : Method} {c : Code} {T : State} {H : Heap} {locs : List Loc} {cells slots : Nat}
abbrev vx_CSW (R : Room) (s : State) (args : Array Value) (own : String) (index : Nat) (y : MethodName) (bytes : ByteArray) (maxL : Nat) (ret : Option FieldType) (hh : List (Nat × Nat × Nat × Nat)) (ws : List Cond) (rm : Room) (mc ms n : Nat) : Prop :=
  (rm.cells = mc ∧ rm.slots = ms ∧ rm.frames + 1 ≤ R.frames ∧ 8 + (maxL + 11) + rm.locals ≤ R.locals ∧ (∀ w ∈ ws, ∀ (a' : Array Value) (U : State), s.WarmedH U.vm → w.before a' U = true) ∧ Cond.codeWith y bytes maxL ret hh ∈ ws) ∧
  (Cond.codeWith y bytes maxL ret hh).before args s = true ∧ (Cond.initialized y.cls).before args s = true ∧ (y.cls ≠ "java/lang/invoke/MethodHandle" ∧ y.cls ≠ "java/lang/invoke/VarHandle") ∧
  (∀ sig, parseMethodDescriptor y.desc = some sig → n = sig.parameters.length) ∧ (Cond.methodLink own index y).before args s = true ∧ (Cond.static y).before args s = true
theorem vx_cwSW {own : String} {index maxL mc ms : Nat} {y : MethodName} {bytes : ByteArray} {ret : Option FieldType} {hh : List (Nat × Nat × Nat × Nat)} {Ts ws ws' : List Cond} {rm : Room} (n : Nat) (ht : ∀ w ∈ Ts, w.before args s = true) (hT : GoodIn Ts (va_wsS own index y ws)) (hw : ws = Cond.codeWith y bytes maxL ret hh :: ws') (hrc : rm.cells = mc) (hrs : rm.slots = ms)
    (hd : y.cls ≠ "java/lang/invoke/MethodHandle" ∧ y.cls ≠ "java/lang/invoke/VarHandle" ∧ (parseMethodDescriptor y.desc).map (fun d => d.parameters.length) = some n) (hR : rm.frames + 1 ≤ R.frames ∧ 8 + (maxL + 11) + rm.locals ≤ R.locals) :
    vx_CSW R s args own index y bytes maxL ret hh ws rm mc ms n := by
  have ok : ∀ w ∈ va_wsS own index y ws, w.before args s = true := fun w h => ht w (hT w h).1
  have hG : GoodIn Ts ws := fun w h => hT w (by unfold va_wsS; exact List.mem_append_right _ h)
  have hc : Cond.codeWith y bytes maxL ret hh ∈ ws := by rw [hw]; exact List.mem_cons_self
  refine ⟨⟨hrc, hrs, hR.1, hR.2, pay_in ht hG, hc⟩, ht _ (hG _ hc).1, ok _ (by simp [va_wsS]), ⟨hd.1, hd.2.1⟩, fun sig h => ?_, ok _ (by simp [va_wsS]), ok _ (by simp [va_wsS])⟩
  have h2 := hd.2.2
  rw [h] at h2
  exact (Option.some.inj h2).symm
theorem vx_callSW (X : Stand p l e R s m args below meth c T locs cells slots) (hexec : p.tables.exec = Jvm.exec) {own : String} {index : Nat} {y : MethodName} {bytes : ByteArray} {maxL : Nat} {ret : Option FieldType} {hh : List (Nat × Nat × Nat × Nat)}
    (hown : s.vm.findClass own = some m.cls) (hlink : (Cond.methodLink own index y).before args s = true) (hstat : (Cond.static y).before args s = true) (hinit : (Cond.initialized y.cls).before args s = true)
    (hcode : (Cond.codeWith y bytes maxL ret hh).before args s = true) (hy : y.cls ≠ "java/lang/invoke/MethodHandle" ∧ y.cls ≠ "java/lang/invoke/VarHandle")
    {W9 : Nat} {Pre : Pt → Array Value → Prop} {Post : Pt → Array Value → Option Value → Pt → Prop} (hK : Back l R p e below s args y 3 W9 Pre Post)
    {g : JFrame} (hg : g.method = m) (hsize : g.locals.size = c.maxLocals) {argsL rest : List Value} (hlen : ∀ sig, parseMethodDescriptor y.desc = some sig → argsL.length = sig.parameters.length)
    (hstack : g.stack = argsL.reverse ++ rest) (hW : 2 * g.monitorRoom + (rest.map fun v => v.category).sum ≤ W9) (hdg : decode c.code g.pc = .ok (.invokestatic index, 3))
    (hpre : ∀ vm₁, s.WarmedH vm₁ → Pre ⟨T.setVm vm₁, locs, cells, slots⟩ argsL.toArray) :
    ∃ (v : Option Value) (vm₁ : Vm) (B : Pt), s.WarmedH vm₁ ∧ Stand p l e R s m args below meth c B.U B.locs B.cells B.slots ∧ Post ⟨T.setVm vm₁, locs, cells, slots⟩ argsL.toArray v B ∧
      ∀ target, Steps p.tables e below (B.U.setTop { g with pc := g.pc + 3, stack := v.toList ++ rest }) target → Steps p.tables e below (T.setTop g) target := by
  obtain ⟨mk, methM, cM, hnamed, hmethM, -, -, -, -, -, -, hsigM⟩ := Cond.codeWith_spec hcode
  have hstatic : methM.isStatic = true := Cond.static_spec hnamed hmethM hstat
  obtain ⟨kP, hkP, -⟩ := className_of_methodNamed hnamed
  have hinitP : kP.init = .initialized := Cond.initialized_spec (findClass_of_methodNamed hnamed) hkP hinit
  obtain ⟨vm₁, X₁, hstep₁⟩ := X.invokestatic hexec hown hlink hnamed hmethM hstatic hkP hinitP hy (g := g) hg (argsL := argsL) (rest := rest) (hlen _ hsigM) hstack hdg
  obtain ⟨v, B, X', hpost, hsteps⟩ := hK m meth c ⟨T.setVm vm₁, locs, cells, slots⟩ { g with stack := rest } (.invokestatic index) mk argsL.toArray X₁ hg hsize hdg hW (X₁.named hnamed) (hpre vm₁ X₁.warmed)
  exact ⟨v, vm₁, B, X₁.warmed, X', hpost, fun target h => hstep₁ _ fun acts => by rw [doInvoke_state]; exact hsteps.trans h⟩
theorem vx_runSW {y : MethodName} {bytes cc : ByteArray} {maxL nL mc ms n index : Nat} {ret : Option FieldType} {hh : List (Nat × Nat × Nat × Nat)} {ws : List Cond} {rm : Room} {Pc : Array Value → State → Prop} {Qc : Array Value → State → Outcome → State → Prop} {free : Addr → Prop} {Ts : List Cond} {own : String} {As rest : List Value} {g : JFrame}
    (S : CallFix p m c cc nL s args Ts own) (hM : Met l y ws rm Pc Qc mc ms free) (cw : vx_CSW R s args own index y bytes maxL ret hh ws rm mc ms n) (hp : PreS s H Pc As)
    (hg : g.method = m) (hn : As.length = n) (hsize : g.locals.size = nL) (hstack : g.stack = As.reverse ++ rest) (hW : 2 * g.monitorRoom + (rest.map fun v => v.category).sum ≤ 8) (hdg : decode cc g.pc = .ok (.invokestatic index, 3)) (hf : cells + mc ≤ R.cells ∧ slots + ms ≤ R.slots) :
    va_Run p l e R s m args below meth c H locs cells slots mc ms g rest (Qc As.toArray) (free) := by
  obtain ⟨⟨hrc, hrs, hfr, hlo, hws, hcw⟩, hcode, hini, hy, hlen, hl, hstt⟩ := cw
  have hK : Back l R p e below s args y 3 8 (PreOf R mc ms Pc) (PostOf Qc mc ms free) := va_backW (hh := hh) (bytes := bytes) (maxL := maxL) (ret := ret) hM hp.1 hrc hrs hfr hlo hws hcw (fun a' U hW => word_at hW (Or.inl (by first | rfl | simp [Cond.onTables, Cond.keeps, Cond.steady])) hini)
  obtain ⟨hx, hb, hml, ho, -⟩ := S
  intro T hT X
  obtain ⟨v, vm₁, ⟨U', l2, c2, s2⟩, hW₁, X', ⟨g', mk, t, L, e1, e2, hq, h1, hL, h2, h3⟩, st⟩ := vx_callSW X hx (hh := hh) (bytes := bytes) (maxL := maxL) (ret := ret) ho hl hstt hini hcode hy hK hg (hsize.trans hml.symm) (argsL := As) (rest := rest) (fun sig h => hn.trans (hlen sig h)) hstack hW (by rw [hb]; exact hdg)
    (fun vm₁ hW₁ => ⟨hf.1, hf.2, hp.2 (T.setVm vm₁) hT hW₁⟩)
  dsimp only [Pt.U, Pt.locs, Pt.cells, Pt.slots] at X' e1 e2 h1 h2 h3 st
  subst h1; subst h2; subst h3
  exact ⟨v, (T.setVm vm₁).calling g' mk As.toArray, t, U', L, hT, X', hL, e1, e2, hq, st⟩
/-- not caught here, past rows that name other classes: it goes on to the caller -/
theorem vx_outP {p : Program} {l : Launch} {e : Env} {R : Room} {s : State} {m : MethodId} {args : Array Value} {below : List Frame} {meth : Method} {c : Code} {H : Heap} {locs : List Loc} {cells slots : Nat} {free : Addr → Prop} {ls : Array Slot} {rest : List Value} {Qc : Array Value → State → Outcome → State → Prop} {XC : String → State → State → Prop}
    {pc : Nat} {own E : String} {ce : Cell} {q : Addr} {mc ms : Nat} (hown : s.vm.findClass own = some m.cls) (hlocks : meth.locks = false)
    (hpass : ∀ z ∈ c.exceptionTable.toList, covers z pc = false ∨ (z.catchType ≠ 0 ∧ ∃ nm : String, (Cond.classLink own z.catchType nm).before args s = true ∧ va_Nc E nm s)) (hcell : H[q]? = some ce) (hv : ce.vm = .none) (hcl : s.vm.findClass E = some ce.cls)
    (hx : ∀ t : State, t.heap = H → s.vm.Alike t.vm → XC E s t) (hf : ∀ z ∈ locs, free z.base) (hc : cells ≤ mc) (hs : slots ≤ ms) :
    vx_W p l e R s m args below meth c H locs cells slots (vx_MQ below Qc XC args s mc ms free) (F0 m pc ls rest) q := by
  intro T hT X
  have hpl : e.platform.magicAccessors = ({} : Platform).magicAccessors := by rw [X.admits.platform]
  obtain ⟨vm', hW', X', st⟩ := X.outThrough hlocks q (g := F0 m pc ls rest) rfl rfl rfl (cell := ce) (by rw [hT]; exact hcell) (by rw [hv]; rfl)
    (by obtain ⟨k9, h9, -⟩ := Vm.findClass_spec hcl; exact ⟨k9, h9⟩) (fun z hz => by
      rcases hpass z hz with h | ⟨hz0, nm, hl1, hn1⟩
      · exact Or.inl h
      · obtain ⟨c6, hc6, hcl6⟩ := Cond.classLink_spec hown hl1 e.platform hpl
        obtain ⟨a8, b8, h1, h2, h3⟩ := hn1
        cases Option.some.inj (h1.symm.trans hcl)
        cases Option.some.inj (h2.symm.trans hc6)
        exact Or.inr ⟨hz0, _, hcl6, h3⟩)
  obtain ⟨g₀, hfr⟩ := X'.frames_eq
  have hcell9 : ((T.setVm vm').setFrames (.throwing q :: below)).heap[q]? = some ce := by
    show T.heap[q]? = some ce
    rw [hT]; exact hcell
  have hend : Ended ((T.setVm vm').setFrames (.throwing q :: below)) below (.threw q) := State.frames_setFrames _ (State.cur_lt_of_frames hfr)
  refine ⟨(T.setVm vm').setFrames (.throwing q :: below), ?_, .threw q, X'.here.running, hend, Or.inr ⟨q, rfl, E, ce, locs, hx _ hT (X'.ends _).1.alike, hcell9, hv, hcl, (X'.ends _).1, (X'.ends _).2.mono hc hs, hf⟩⟩
  rw [X.pushThrowing_eq]
  exact st
/-- a thing of a world lies in the heap -/
theorem vx_lt {D : va_G} {cl : List vw_C} {ws : va_W} {H1 : Heap} (h : va_P D cl ws H1) {k : Nat} {q : Nat × va_E} (hk : ws[k]? = some q) : q.1 < H1.size := (h k q hk).lt
end VXS
/-! ===== END ===== -/
/-! ===== BEGIN methods with a table of their own: called by a name, returning or throwing ===== -/
section VXH
/-! vx_backW, vx_callVX, vx_callSX, vx_callVW, vx_runVW, vx_runVX, vx_runSX, vx_ofWH follow the same proofs as their sisters above (Free/Laws.lean, Shelf42/LK1.lean); vx_outP calls Shelf42/NT130.lean (outThrough). -/
section
variable {l : Launch} {R : Room} {p : Program} {e : Env} {below : List Frame} {s : State} {sargs : Array Value} {y : MethodName} {len W9 : Nat}
theorem vx_backW {ws : List Cond} {rm : Room} {Pc : Array Value → State → Prop} {Qc : Array Value → State → Outcome → State → Prop} {XC : String → State → State → Prop} {mc ms : Nat} {free : Addr → Prop} {bytes : ByteArray} {maxL : Nat} {ret : Option FieldType} {hh : List (Nat × Nat × Nat × Nat)}
    (hM : vx_Met l y ws rm Pc Qc XC mc ms free) (hblind : FrameBlind Pc) (hrc : rm.cells = mc) (hrs : rm.slots = ms)
    (hframes : rm.frames + 1 ≤ R.frames) (hlocals : W9 + (maxL + 11) + rm.locals ≤ R.locals)
    (hws : ∀ w ∈ ws, ∀ a' U, s.WarmedH U.vm → w.before a' U = true) (hcode : Cond.codeWith y bytes maxL ret hh ∈ ws) (hinit : ∀ a' U, s.WarmedH U.vm → (Cond.initialized y.cls).before a' U = true) :
    vx_Back l R p e below s sargs y len W9 (PreOf R mc ms Pc) (PostOf Qc mc ms free) (vx_Post XC mc ms free) := by
  intro m meth c A g ig mk a X hg hsize hdg hW hn hp
  have h1 : (headSpec ws rm).pre.before a A.U = true := atoms_intro fun w hw => hws w hw _ _ X.warmed
  have h2 : (Cond.codeWith y bytes maxL ret hh).before a A.U = true := hws _ hcode _ _ X.warmed
  have h3 : (Cond.initialized y.cls).before a A.U = true := hinit _ _ X.warmed
  have h4 : A.cells + (headSpec ws rm).room.cells ≤ R.cells := by rw [show (headSpec ws rm).room.cells = mc from hrc]; exact hp.1
  have h5 : A.slots + (headSpec ws rm).room.slots ≤ R.slots := by rw [show (headSpec ws rm).room.slots = ms from hrs]; exact hp.2.1
  have hPc : Pc a (A.U.calling g mk a) := hblind _ _ _ _ hp.2.2
  obtain ⟨U, Ls, c0, s0⟩ := A
  dsimp only [Pt.U, Pt.locs, Pt.cells, Pt.slots] at h1 h2 h3 h4 h5 X hn hPc ⊢
  obtain ⟨m9, methY, cY, hn9, hmY, hcY, -, hlY, -⟩ := Cond.codeWith_spec h2
  cases Option.some.inj (hn9.symm.trans hn)
  obtain ⟨kY, hkY, -⟩ := className_of_methodNamed hn
  have hinitY : kY.init = .initialized := Cond.initialized_spec (findClass_of_methodNamed hn) hkY h3
  have h : At U g.method c below := by rw [hg]; exact X.here
  have hlocals9 : W9 + (maxL + 11) + (headSpec ws rm).room.locals ≤ R.locals := hlocals
  have happ : (headSpec ws rm).appliesLoose y e.platform (U.calling g mk a) = true :=
    Spec.appliesLoose_calling (g := g) h hdg hn hkY hinitY
      (X.room_calling (g := g) (R' := (headSpec ws rm).room) hsize hmY hcY hframes (by rw [hlY]; omega) h4 h5) h1
  obtain ⟨mid, hmid⟩ := h.above
  have hfr : (U.setTop g).frames = (.java g :: mid) ++ below := by rw [State.frames_setTop' g h.top, hmid]; rfl
  obtain ⟨o, s₂, hsteps, -, hend, hq⟩ := Steps.callFree hM p X.admits X.cas X.clock (acts := []) hfr happ hPc trivial
  have hq' : vx_Q Qc XC mc ms free a (U.calling g mk a) o s₂ := hq
  rw [State.frames_setTop' g h.top] at hend
  obtain ⟨g₀, hg0⟩ := Option.isSome_iff_exists.mp h.top
  obtain ⟨r, hr⟩ := State.topJava?_eq_some.mp hg0
  have hr' : (({ U with heap := s₂.heap, slotsUsed := s₂.slotsUsed } : State).setVm s₂.vm).frames = .java g₀ :: r := hr
  rcases hq' with ⟨hqc, L, hfe, hL⟩ | ⟨q, rfl, E, ce, L, hx, hce, hcv, hcl, hW₂, hsm, hL⟩
  · obtain ⟨⟨v, rfl⟩, hW₂, e2, q2, q3, q4, q5, q6⟩ := id hfe
    have e3 : s₂ = ({ (U.calling g mk a).setFrames s₂.frames with heap := s₂.heap, slotsUsed := s₂.slotsUsed } : State).setVm s₂.vm := by
      have : s₂ = ({ s₂ with vm := (U.calling g mk a).vm } : State).setVm s₂.vm := rfl
      rw [e2] at this
      exact this
    obtain ⟨c₂, i₂, len₂, hc₂, hd₂, hf₂⟩ := hend
    have hW' : U.WarmedH s₂.vm := hW₂
    have hcc : c₂ = c := by
      have h1 : s₂.code? g.method = U.code? g.method := by
        rw [State.code?_eq, State.code?_eq, hW'.alike.method?]
      exact Option.some.inj (hc₂.symm.trans (h1.trans h.code))
    subst hcc
    have hlen : len₂ = len := by rw [hdg] at hd₂; cases hd₂; rfl
    subst hlen
    have hs₂ : s₂ = (({ U with heap := s₂.heap, slotsUsed := s₂.slotsUsed } : State).setVm s₂.vm).setTop { g with pc := g.pc + len₂, stack := v.toList ++ g.stack } := by
      refine e3.trans ?_
      rw [hf₂, State.calling_eq h.top, State.setFrames_setFrames, State.setTop_of_frames _ hr', hr]
      rfl
    have hsame : U.sameButNew ({ U with heap := s₂.heap, slotsUsed := s₂.slotsUsed } : State) L mc ms := by
      refine ⟨?_, q2, q3, q4, q5, q6⟩
      obtain ⟨t, ht, -⟩ := State.frames_cons hr
      show ({ U with heap := s₂.heap, slotsUsed := s₂.slotsUsed } : State) = { U.setFrames U.frames with heap := s₂.heap, slotsUsed := s₂.slotsUsed }
      rw [State.setFrames_self ht]
    subst hg
    refine Or.inl ⟨v, ⟨(({ U with heap := s₂.heap, slotsUsed := s₂.slotsUsed } : State).setVm s₂.vm), Ls ++ L, c0 + mc, s0 + ms⟩,
      ⟨X.admits, X.cas, X.clock, X.frames, X.room, X.hears, X.method, X.code, (X.here.setHeapUsed s₂.heap s₂.slotsUsed).setVm hW'.alike, X.tail, State.WarmedH.trans X.warmed hW', X.limits, X.bytes, X.same.trans (hsame.setVm s.vm)⟩,
      ⟨g, mk, s₂, L, rfl, rfl, hqc, rfl, hL, rfl, rfl⟩, ?_⟩
    show Steps p.tables e below _ ((({ U with heap := s₂.heap, slotsUsed := s₂.slotsUsed } : State).setVm s₂.vm).setTop { g with pc := g.pc + len₂, stack := v.toList ++ g.stack })
    rw [← hs₂]
    exact hsteps
  · obtain ⟨e2, q2, q3, q4, q5, q6⟩ := id hsm
    have e3 : s₂ = ({ (U.calling g mk a).setFrames s₂.frames with heap := s₂.heap, slotsUsed := s₂.slotsUsed } : State).setVm s₂.vm := by
      have : s₂ = ({ s₂ with vm := (U.calling g mk a).vm } : State).setVm s₂.vm := rfl
      rw [e2] at this
      exact this
    have hf₂ : s₂.frames = .throwing q :: .java g :: U.frames.tail := hend
    have hW' : U.WarmedH s₂.vm := hW₂
    have hs₂ : s₂ = ((({ U with heap := s₂.heap, slotsUsed := s₂.slotsUsed } : State).setVm s₂.vm).setTop g).pushFrame (.throwing q) := by
      refine e3.trans ?_
      rw [hf₂, State.calling_eq h.top, State.setFrames_setFrames, State.pushFrame, State.frames_setTop _ hr', State.setTop_of_frames _ hr', State.setFrames_setFrames, hr]
      rfl
    have hsame : U.sameButNew ({ U with heap := s₂.heap, slotsUsed := s₂.slotsUsed } : State) L mc ms := by
      refine ⟨?_, q2, q3, q4, q5, q6⟩
      obtain ⟨t, ht, -⟩ := State.frames_cons hr
      show ({ U with heap := s₂.heap, slotsUsed := s₂.slotsUsed } : State) = { U.setFrames U.frames with heap := s₂.heap, slotsUsed := s₂.slotsUsed }
      rw [State.setFrames_self ht]
    subst hg
    refine Or.inr ⟨q, ⟨(({ U with heap := s₂.heap, slotsUsed := s₂.slotsUsed } : State).setVm s₂.vm), Ls ++ L, c0 + mc, s0 + ms⟩,
      ⟨X.admits, X.cas, X.clock, X.frames, X.room, X.hears, X.method, X.code, (X.here.setHeapUsed s₂.heap s₂.slotsUsed).setVm hW'.alike, X.tail, State.WarmedH.trans X.warmed hW', X.limits, X.bytes, X.same.trans (hsame.setVm s.vm)⟩,
      ⟨g, mk, s₂, L, E, ce, rfl, rfl, hx, hce, hcv, hcl, rfl, hL, rfl, rfl⟩, ?_⟩
    show Steps p.tables e below _ (((({ U with heap := s₂.heap, slotsUsed := s₂.slotsUsed } : State).setVm s₂.vm).setTop g).pushFrame (.throwing q))
    rw [← hs₂]
    exact hsteps
end
variable {p : Program} {l : Launch} {e : Env} {R : Room} {s : State} {m : MethodId} {args : Array Value} {below : List Frame} {meth : Method} {c : Code} {T : State} {H : Heap} {locs : List Loc} {cells slots : Nat}
theorem vx_callVX (X : Stand p l e R s m args below meth c T locs cells slots) (hexec : p.tables.exec = Jvm.exec) {own C : String} {index : Nat} {y : MethodName} {bytes : ByteArray} {maxL : Nat} {ret : Option FieldType} {hh : List (Nat × Nat × Nat × Nat)}
    (hown : s.vm.findClass own = some m.cls) (hlink : (Cond.methodLink own index y).before args s = true) (hinst : (Cond.instanceMethod y).before args s = true) (hsel : (Cond.selects C y y).before args s = true)
    (hcode : (Cond.codeWith y bytes maxL ret hh).before args s = true) (hy : y.cls ≠ "java/lang/invoke/MethodHandle" ∧ y.cls ≠ "java/lang/invoke/VarHandle")
    {W9 : Nat} {Pre : Pt → Array Value → Prop} {Post : Pt → Array Value → Option Value → Pt → Prop} {PostX : Pt → Array Value → Addr → Pt → Prop} (hK : vx_Back l R p e below s args y 3 W9 Pre Post PostX)
    {b : Addr} {cellB : Cell} (hcell : T.heap[b]? = some cellB) (hobj : cellB.vm.isStatics = false) (hcls : s.vm.findClass C = some cellB.cls)
    {g : JFrame} (hg : g.method = m) (hsize : g.locals.size = c.maxLocals) {argsL rest : List Value} (hlen : ∀ sig, parseMethodDescriptor y.desc = some sig → argsL.length = sig.parameters.length)
    (hstack : g.stack = argsL.reverse ++ .ref b :: rest) (hW : 2 * g.monitorRoom + (rest.map fun v => v.category).sum ≤ W9) (hdg : decode c.code g.pc = .ok (.invokevirtual index, 3))
    (hpre : ∀ vm₁, s.WarmedH vm₁ → Pre ⟨T.setVm vm₁, locs, cells, slots⟩ (Value.ref b :: argsL).toArray) :
    (∃ (v : Option Value) (vm₁ : Vm) (B : Pt), s.WarmedH vm₁ ∧ Stand p l e R s m args below meth c B.U B.locs B.cells B.slots ∧ Post ⟨T.setVm vm₁, locs, cells, slots⟩ (Value.ref b :: argsL).toArray v B ∧
      ∀ target, Steps p.tables e below (B.U.setTop { g with pc := g.pc + 3, stack := v.toList ++ rest }) target → Steps p.tables e below (T.setTop g) target) ∨
    (∃ (q : Addr) (vm₁ : Vm) (B : Pt), s.WarmedH vm₁ ∧ Stand p l e R s m args below meth c B.U B.locs B.cells B.slots ∧ PostX ⟨T.setVm vm₁, locs, cells, slots⟩ (Value.ref b :: argsL).toArray q B ∧
      Steps p.tables e below (T.setTop g) ((B.U.setTop { g with stack := rest }).pushFrame (.throwing q))) := by
  obtain ⟨mk, methM, hnamed, hmethM, hstM, habM⟩ := Cond.instanceMethod_spec hinst
  obtain ⟨m8, methM', cM, hn8, hmethM', -, -, -, -, -, -, hsigM⟩ := Cond.codeWith_spec hcode
  cases Option.some.inj (hn8.symm.trans hnamed)
  cases hmethM.symm.trans hmethM'
  obtain ⟨c2, r2, m2, q1, q2, q3, q4, kP, hkP, hkPi⟩ := Cond.selects_spec hsel
  cases hcls.symm.trans q1
  cases (State.methodFound?_of_named hnamed hy).symm.trans q2
  cases hnamed.symm.trans q3
  have hselP : selectMethod e.platform s.vm cellB.cls mk = .method mk := by rw [Launch.admits_selectMethod X.admits]; exact q4
  obtain ⟨vm₁, X₁, hstep₁⟩ := X.invokevirtual hexec hown hlink hnamed hmethM hstM hkP hkPi hy (a := b) (cell := cellB) hcell
    (fun z h => by rw [h] at hobj; cases hobj) hselP hmethM habM hkP hkPi (g := g) hg (argsL := argsL) (rest := rest) (hlen _ hsigM) hstack hdg
  rcases hK m meth c ⟨T.setVm vm₁, locs, cells, slots⟩ { g with stack := rest } (.invokevirtual index) mk (Value.ref b :: argsL).toArray X₁ hg hsize hdg hW (X₁.named hnamed) (hpre vm₁ X₁.warmed) with ⟨v, B, X', hpost, hsteps⟩ | ⟨q, B, X', hpost, hsteps⟩
  · exact Or.inl ⟨v, vm₁, B, X₁.warmed, X', hpost, fun target h => hstep₁ _ fun acts => by rw [doInvoke_state]; exact hsteps.trans h⟩
  · exact Or.inr ⟨q, vm₁, B, X₁.warmed, X', hpost, hstep₁ _ fun acts => by rw [doInvoke_state]; exact hsteps⟩
theorem vx_callSX (X : Stand p l e R s m args below meth c T locs cells slots) (hexec : p.tables.exec = Jvm.exec) {own : String} {index : Nat} {y : MethodName} {bytes : ByteArray} {maxL : Nat} {ret : Option FieldType} {hh : List (Nat × Nat × Nat × Nat)}
    (hown : s.vm.findClass own = some m.cls) (hlink : (Cond.methodLink own index y).before args s = true) (hstat : (Cond.static y).before args s = true) (hinit : (Cond.initialized y.cls).before args s = true)
    (hcode : (Cond.codeWith y bytes maxL ret hh).before args s = true) (hy : y.cls ≠ "java/lang/invoke/MethodHandle" ∧ y.cls ≠ "java/lang/invoke/VarHandle")
    {W9 : Nat} {Pre : Pt → Array Value → Prop} {Post : Pt → Array Value → Option Value → Pt → Prop} {PostX : Pt → Array Value → Addr → Pt → Prop} (hK : vx_Back l R p e below s args y 3 W9 Pre Post PostX)
    {g : JFrame} (hg : g.method = m) (hsize : g.locals.size = c.maxLocals) {argsL rest : List Value} (hlen : ∀ sig, parseMethodDescriptor y.desc = some sig → argsL.length = sig.parameters.length)
    (hstack : g.stack = argsL.reverse ++ rest) (hW : 2 * g.monitorRoom + (rest.map fun v => v.category).sum ≤ W9) (hdg : decode c.code g.pc = .ok (.invokestatic index, 3))
    (hpre : ∀ vm₁, s.WarmedH vm₁ → Pre ⟨T.setVm vm₁, locs, cells, slots⟩ argsL.toArray) :
    (∃ (v : Option Value) (vm₁ : Vm) (B : Pt), s.WarmedH vm₁ ∧ Stand p l e R s m args below meth c B.U B.locs B.cells B.slots ∧ Post ⟨T.setVm vm₁, locs, cells, slots⟩ argsL.toArray v B ∧
      ∀ target, Steps p.tables e below (B.U.setTop { g with pc := g.pc + 3, stack := v.toList ++ rest }) target → Steps p.tables e below (T.setTop g) target) ∨
    (∃ (q : Addr) (vm₁ : Vm) (B : Pt), s.WarmedH vm₁ ∧ Stand p l e R s m args below meth c B.U B.locs B.cells B.slots ∧ PostX ⟨T.setVm vm₁, locs, cells, slots⟩ argsL.toArray q B ∧
      Steps p.tables e below (T.setTop g) ((B.U.setTop { g with stack := rest }).pushFrame (.throwing q))) := by
  obtain ⟨mk, methM, cM, hnamed, hmethM, -, -, -, -, -, -, hsigM⟩ := Cond.codeWith_spec hcode
  have hstatic : methM.isStatic = true := Cond.static_spec hnamed hmethM hstat
  obtain ⟨kP, hkP, -⟩ := className_of_methodNamed hnamed
  have hinitP : kP.init = .initialized := Cond.initialized_spec (findClass_of_methodNamed hnamed) hkP hinit
  obtain ⟨vm₁, X₁, hstep₁⟩ := X.invokestatic hexec hown hlink hnamed hmethM hstatic hkP hinitP hy (g := g) hg (argsL := argsL) (rest := rest) (hlen _ hsigM) hstack hdg
  rcases hK m meth c ⟨T.setVm vm₁, locs, cells, slots⟩ { g with stack := rest } (.invokestatic index) mk argsL.toArray X₁ hg hsize hdg hW (X₁.named hnamed) (hpre vm₁ X₁.warmed) with ⟨v, B, X', hpost, hsteps⟩ | ⟨q, B, X', hpost, hsteps⟩
  · exact Or.inl ⟨v, vm₁, B, X₁.warmed, X', hpost, fun target h => hstep₁ _ fun acts => by rw [doInvoke_state]; exact hsteps.trans h⟩
  · exact Or.inr ⟨q, vm₁, B, X₁.warmed, X', hpost, hstep₁ _ fun acts => by rw [doInvoke_state]; exact hsteps⟩
theorem vx_callVW (X : Stand p l e R s m args below meth c T locs cells slots) (hexec : p.tables.exec = Jvm.exec) {own C : String} {index : Nat} {y : MethodName} {bytes : ByteArray} {maxL : Nat} {ret : Option FieldType} {hh : List (Nat × Nat × Nat × Nat)}
    (hown : s.vm.findClass own = some m.cls) (hlink : (Cond.methodLink own index y).before args s = true) (hinst : (Cond.instanceMethod y).before args s = true) (hsel : (Cond.selects C y y).before args s = true)
    (hcode : (Cond.codeWith y bytes maxL ret hh).before args s = true) (hy : y.cls ≠ "java/lang/invoke/MethodHandle" ∧ y.cls ≠ "java/lang/invoke/VarHandle")
    {W9 : Nat} {Pre : Pt → Array Value → Prop} {Post : Pt → Array Value → Option Value → Pt → Prop} (hK : Back l R p e below s args y 3 W9 Pre Post)
    {b : Addr} {cellB : Cell} (hcell : T.heap[b]? = some cellB) (hobj : cellB.vm.isStatics = false) (hcls : s.vm.findClass C = some cellB.cls)
    {g : JFrame} (hg : g.method = m) (hsize : g.locals.size = c.maxLocals) {argsL rest : List Value} (hlen : ∀ sig, parseMethodDescriptor y.desc = some sig → argsL.length = sig.parameters.length)
    (hstack : g.stack = argsL.reverse ++ .ref b :: rest) (hW : 2 * g.monitorRoom + (rest.map fun v => v.category).sum ≤ W9) (hdg : decode c.code g.pc = .ok (.invokevirtual index, 3))
    (hpre : ∀ vm₁, s.WarmedH vm₁ → Pre ⟨T.setVm vm₁, locs, cells, slots⟩ (Value.ref b :: argsL).toArray) :
    ∃ (v : Option Value) (vm₁ : Vm) (B : Pt), s.WarmedH vm₁ ∧ Stand p l e R s m args below meth c B.U B.locs B.cells B.slots ∧ Post ⟨T.setVm vm₁, locs, cells, slots⟩ (Value.ref b :: argsL).toArray v B ∧
      ∀ target, Steps p.tables e below (B.U.setTop { g with pc := g.pc + 3, stack := v.toList ++ rest }) target → Steps p.tables e below (T.setTop g) target := by
  obtain ⟨mk, methM, hnamed, hmethM, hstM, habM⟩ := Cond.instanceMethod_spec hinst
  obtain ⟨m8, methM', cM, hn8, hmethM', -, -, -, -, -, -, hsigM⟩ := Cond.codeWith_spec hcode
  cases Option.some.inj (hn8.symm.trans hnamed)
  cases hmethM.symm.trans hmethM'
  obtain ⟨c2, r2, m2, q1, q2, q3, q4, kP, hkP, hkPi⟩ := Cond.selects_spec hsel
  cases hcls.symm.trans q1
  cases (State.methodFound?_of_named hnamed hy).symm.trans q2
  cases hnamed.symm.trans q3
  have hselP : selectMethod e.platform s.vm cellB.cls mk = .method mk := by rw [Launch.admits_selectMethod X.admits]; exact q4
  obtain ⟨vm₁, X₁, hstep₁⟩ := X.invokevirtual hexec hown hlink hnamed hmethM hstM hkP hkPi hy (a := b) (cell := cellB) hcell
    (fun z h => by rw [h] at hobj; cases hobj) hselP hmethM habM hkP hkPi (g := g) hg (argsL := argsL) (rest := rest) (hlen _ hsigM) hstack hdg
  obtain ⟨v, B, X', hpost, hsteps⟩ := hK m meth c ⟨T.setVm vm₁, locs, cells, slots⟩ { g with stack := rest } (.invokevirtual index) mk (Value.ref b :: argsL).toArray X₁ hg hsize hdg hW (X₁.named hnamed) (hpre vm₁ X₁.warmed)
  exact ⟨v, vm₁, B, X₁.warmed, X', hpost, fun target h => hstep₁ _ fun acts => by rw [doInvoke_state]; exact hsteps.trans h⟩
abbrev vx_CVW (R : Room) (s : State) (args : Array Value) (own C : String) (index : Nat) (y : MethodName) (bytes : ByteArray) (maxL : Nat) (ret : Option FieldType) (hh : List (Nat × Nat × Nat × Nat)) (ws : List Cond) (rm : Room) (mc ms n : Nat) : Prop :=
  (rm.cells = mc ∧ rm.slots = ms ∧ rm.frames + 1 ≤ R.frames ∧ 8 + (maxL + 11) + rm.locals ≤ R.locals ∧ (∀ w ∈ ws, ∀ (a' : Array Value) (U : State), s.WarmedH U.vm → w.before a' U = true) ∧ Cond.codeWith y bytes maxL ret hh ∈ ws) ∧
  (Cond.codeWith y bytes maxL ret hh).before args s = true ∧ (Cond.initialized y.cls).before args s = true ∧ (y.cls ≠ "java/lang/invoke/MethodHandle" ∧ y.cls ≠ "java/lang/invoke/VarHandle") ∧
  (∀ sig, parseMethodDescriptor y.desc = some sig → n = sig.parameters.length) ∧ (Cond.methodLink own index y).before args s = true ∧ (Cond.instanceMethod y).before args s = true ∧ (Cond.selects C y y).before args s = true
theorem vx_cwVW {own C : String} {index maxL mc ms : Nat} {y : MethodName} {bytes : ByteArray} {ret : Option FieldType} {hh : List (Nat × Nat × Nat × Nat)} {Ts ws ws' : List Cond} {rm : Room} (n : Nat) (ht : ∀ w ∈ Ts, w.before args s = true) (hT : GoodIn Ts (wsV own index C y ws)) (hw : ws = Cond.codeWith y bytes maxL ret hh :: ws') (hrc : rm.cells = mc) (hrs : rm.slots = ms)
    (hd : y.cls = C ∧ y.cls ≠ "java/lang/invoke/MethodHandle" ∧ y.cls ≠ "java/lang/invoke/VarHandle" ∧ (parseMethodDescriptor y.desc).map (fun d => d.parameters.length) = some n) (hR : rm.frames + 1 ≤ R.frames ∧ 8 + (maxL + 11) + rm.locals ≤ R.locals) :
    vx_CVW R s args own C index y bytes maxL ret hh ws rm mc ms n := by
  obtain ⟨hC, hd⟩ := hd
  subst hC
  have ok : ∀ w ∈ wsV own index y.cls y ws, w.before args s = true := fun w h => ht w (hT w h).1
  have hG : GoodIn Ts ws := fun w h => hT w (by unfold wsV; exact List.mem_append_right _ h)
  have hc : Cond.codeWith y bytes maxL ret hh ∈ ws := by rw [hw]; exact List.mem_cons_self
  refine ⟨⟨hrc, hrs, hR.1, hR.2, pay_in ht hG, hc⟩, ht _ (hG _ hc).1, ok _ (by simp [wsV]), ⟨hd.1, hd.2.1⟩, fun sig h => ?_, ok _ (by simp [wsV]), ok _ (by simp [wsV]), ok _ (by simp [wsV])⟩
  have h2 := hd.2.2
  rw [h] at h2
  exact (Option.some.inj h2).symm
theorem vx_runVW {y : MethodName} {bytes cc : ByteArray} {maxL nL mc ms n index : Nat} {ret : Option FieldType} {hh : List (Nat × Nat × Nat × Nat)} {ws : List Cond} {rm : Room} {Pc : Array Value → State → Prop} {Qc : Array Value → State → Outcome → State → Prop} {free : Addr → Prop} {Ts : List Cond} {own C : String} {b : Addr} {As rest : List Value} {g : JFrame}
    (S : CallFix p m c cc nL s args Ts own) (hM : Met l y ws rm Pc Qc mc ms free) (cw : vx_CVW R s args own C index y bytes maxL ret hh ws rm mc ms n) (hp : PreV s H C b Pc As)
    (hg : g.method = m) (hn : As.length = n) (hsize : g.locals.size = nL) (hstack : g.stack = As.reverse ++ .ref b :: rest) (hW : 2 * g.monitorRoom + (rest.map fun v => v.category).sum ≤ 8) (hdg : decode cc g.pc = .ok (.invokevirtual index, 3)) (hf : cells + mc ≤ R.cells ∧ slots + ms ≤ R.slots) :
    va_Run p l e R s m args below meth c H locs cells slots mc ms g rest (Qc (Value.ref b :: As).toArray) free := by
  obtain ⟨⟨hrc, hrs, hfr, hlo, hws, hcw⟩, hcode, hini, hy, hlen, hl, hin, hse⟩ := cw
  have hK : Back l R p e below s args y 3 8 (PreOf R mc ms Pc) (PostOf Qc mc ms free) := va_backW (hh := hh) (bytes := bytes) (maxL := maxL) (ret := ret) hM hp.1 hrc hrs hfr hlo hws hcw (fun a' U hW => word_at hW (Or.inl (by first | rfl | simp [Cond.onTables, Cond.keeps, Cond.steady])) hini)
  obtain ⟨hx, hb, hml, ho, -⟩ := S
  obtain ⟨-, ⟨cellB, hcB, hoB, hclB⟩, hPc⟩ := hp
  intro T hT X
  obtain ⟨v, vm₁, ⟨U', l2, c2, s2⟩, hW₁, X', ⟨g', mk, t, L, e1, e2, hq, h1, hL, h2, h3⟩, st⟩ := vx_callVW X hx (C := C) (hh := hh) (bytes := bytes) (maxL := maxL) (ret := ret) ho hl hin hse hcode hy hK (by rw [hT]; exact hcB) hoB hclB hg (hsize.trans hml.symm) (argsL := As) (rest := rest) (fun sig h => hn.trans (hlen sig h)) hstack hW (by rw [hb]; exact hdg)
    (fun vm₁ hW₁ => ⟨hf.1, hf.2, hPc (T.setVm vm₁) hT hW₁⟩)
  dsimp only [Pt.U, Pt.locs, Pt.cells, Pt.slots] at X' e1 e2 h1 h2 h3 st
  subst h1; subst h2; subst h3
  exact ⟨v, (T.setVm vm₁).calling g' mk (Value.ref b :: As).toArray, t, U', L, hT, X', hL, e1, e2, hq, st⟩
section
variable {y : MethodName} {bytes cc : ByteArray} {maxL nL mc ms n index : Nat} {ret : Option FieldType} {ws : List Cond} {rm : Room} {Pc : Array Value → State → Prop} {Qc : Array Value → State → Outcome → State → Prop} {XC : String → State → State → Prop} {free : Addr → Prop} {Ts : List Cond} {own C : String} {b : Addr} {As rest : List Value} {g : JFrame}
theorem vx_runVX {hh : List (Nat × Nat × Nat × Nat)} (S : CallFix p m c cc nL s args Ts own) (hM : vx_Met l y ws rm Pc Qc XC mc ms free) (cw : vx_CVW R s args own C index y bytes maxL ret hh ws rm mc ms n) (hp : PreV s H C b Pc As)
    (hg : g.method = m) (hn : As.length = n) (hsize : g.locals.size = nL) (hstack : g.stack = As.reverse ++ .ref b :: rest) (hW : 2 * g.monitorRoom + (rest.map fun v => v.category).sum ≤ 8) (hdg : decode cc g.pc = .ok (.invokevirtual index, 3)) (hf : cells + mc ≤ R.cells ∧ slots + ms ≤ R.slots) :
    vx_Run p l e R s m args below meth c H locs cells slots mc ms g rest (Qc (Value.ref b :: As).toArray) XC free := by
  obtain ⟨⟨hrc, hrs, hfr, hlo, hws, hcw⟩, hcode, hini, hy, hlen, hl, hin, hse⟩ := cw
  have hK : vx_Back l R p e below s args y 3 8 (PreOf R mc ms Pc) (PostOf Qc mc ms free) (vx_Post XC mc ms free) := vx_backW (hh := hh) (bytes := bytes) (maxL := maxL) (ret := ret) hM hp.1 hrc hrs hfr hlo hws hcw (fun a' U hW => word_at hW (Or.inl (by first | rfl | simp [Cond.onTables, Cond.keeps, Cond.steady])) hini)
  obtain ⟨hx, hb, hml, ho, -⟩ := S
  obtain ⟨-, ⟨cellB, hcB, hoB, hclB⟩, hPc⟩ := hp
  intro T hT X
  rcases vx_callVX X hx (C := C) (hh := hh) (bytes := bytes) (maxL := maxL) (ret := ret) ho hl hin hse hcode hy hK (by rw [hT]; exact hcB) hoB hclB hg (hsize.trans hml.symm) (argsL := As) (rest := rest) (fun sig h => hn.trans (hlen sig h)) hstack hW (by rw [hb]; exact hdg)
    (fun vm₁ hW₁ => ⟨hf.1, hf.2, hPc (T.setVm vm₁) hT hW₁⟩) with ⟨v, vm₁, ⟨U', l2, c2, s2⟩, hW₁, X', ⟨g', mk, t, L, e1, e2, hq, h1, hL, h2, h3⟩, st⟩ | ⟨q, vm₁, ⟨U', l2, c2, s2⟩, hW₁, X', ⟨g', mk, t, L, E, ce, e1, e2, hq, hce, hcv, hcl, h1, hL, h2, h3⟩, st⟩
  · dsimp only [Pt.U, Pt.locs, Pt.cells, Pt.slots] at X' e1 e2 h1 h2 h3 st
    subst h1; subst h2; subst h3
    exact Or.inl ⟨v, (T.setVm vm₁).calling g' mk (Value.ref b :: As).toArray, t, U', L, hT, X', hL, e1, e2, hq, st⟩
  · dsimp only [Pt.U, Pt.locs, Pt.cells, Pt.slots] at X' e1 e2 h1 h2 h3 st hcl
    subst h1; subst h2; subst h3
    exact Or.inr ⟨q, (T.setVm vm₁).calling g' mk (Value.ref b :: As).toArray, t, U', L, E, ce, hT, X', hL, e1, e2, hq, hce, hcv, vx_cls hW₁ hcl, st⟩
theorem vx_runSX {hh : List (Nat × Nat × Nat × Nat)} (S : CallFix p m c cc nL s args Ts own) (hM : vx_Met l y ws rm Pc Qc XC mc ms free) (cw : vx_CSW R s args own index y bytes maxL ret hh ws rm mc ms n) (hp : PreS s H Pc As)
    (hg : g.method = m) (hn : As.length = n) (hsize : g.locals.size = nL) (hstack : g.stack = As.reverse ++ rest) (hW : 2 * g.monitorRoom + (rest.map fun v => v.category).sum ≤ 8) (hdg : decode cc g.pc = .ok (.invokestatic index, 3)) (hf : cells + mc ≤ R.cells ∧ slots + ms ≤ R.slots) :
    vx_Run p l e R s m args below meth c H locs cells slots mc ms g rest (Qc As.toArray) XC free := by
  obtain ⟨⟨hrc, hrs, hfr, hlo, hws, hcw⟩, hcode, hini, hy, hlen, hl, hstt⟩ := cw
  have hK : vx_Back l R p e below s args y 3 8 (PreOf R mc ms Pc) (PostOf Qc mc ms free) (vx_Post XC mc ms free) := vx_backW (hh := hh) (bytes := bytes) (maxL := maxL) (ret := ret) hM hp.1 hrc hrs hfr hlo hws hcw (fun a' U hW => word_at hW (Or.inl (by first | rfl | simp [Cond.onTables, Cond.keeps, Cond.steady])) hini)
  obtain ⟨hx, hb, hml, ho, -⟩ := S
  intro T hT X
  rcases vx_callSX X hx (hh := hh) (bytes := bytes) (maxL := maxL) (ret := ret) ho hl hstt hini hcode hy hK hg (hsize.trans hml.symm) (argsL := As) (rest := rest) (fun sig h => hn.trans (hlen sig h)) hstack hW (by rw [hb]; exact hdg)
    (fun vm₁ hW₁ => ⟨hf.1, hf.2, hp.2 (T.setVm vm₁) hT hW₁⟩) with ⟨v, vm₁, ⟨U', l2, c2, s2⟩, hW₁, X', ⟨g', mk, t, L, e1, e2, hq, h1, hL, h2, h3⟩, st⟩ | ⟨q, vm₁, ⟨U', l2, c2, s2⟩, hW₁, X', ⟨g', mk, t, L, E, ce, e1, e2, hq, hce, hcv, hcl, h1, hL, h2, h3⟩, st⟩
  · dsimp only [Pt.U, Pt.locs, Pt.cells, Pt.slots] at X' e1 e2 h1 h2 h3 st
    subst h1; subst h2; subst h3
    exact Or.inl ⟨v, (T.setVm vm₁).calling g' mk As.toArray, t, U', L, hT, X', hL, e1, e2, hq, st⟩
  · dsimp only [Pt.U, Pt.locs, Pt.cells, Pt.slots] at X' e1 e2 h1 h2 h3 st hcl
    subst h1; subst h2; subst h3
    exact Or.inr ⟨q, (T.setVm vm₁).calling g' mk As.toArray, t, U', L, E, ce, hT, X', hL, e1, e2, hq, hce, hcv, vx_cls hW₁ hcl, st⟩
end
end VXH
theorem vx_ofWH {l : Launch} {y : MethodName} {ws ws' : List Cond} {rm : Room} {Pc : Array Value → State → Prop} {Qc : Array Value → State → Outcome → State → Prop} {XC : String → State → State → Prop} {mc ms : Nat} {free : Addr → Prop} {cc : ByteArray} {maxL : Nat} {ret : Option FieldType} {hh : List (Nat × Nat × Nat × Nat)}
    (hy : plainName y.cls = true) (hw : ws = Cond.codeWith y cc maxL ret hh :: ws')
    (body : ∀ p e s m args below meth c s₁, BodyLoose p l y (headSpec ws rm) cc maxL ret e s m args below meth c s₁ → c.maxLocals = maxL → Pc args s →
      W p l e (headSpec ws rm).room s m args below meth c s.heap [] 0 0 (vx_MQ below Qc XC args s mc ms free) (entryFrame m args maxL)) : vx_Met l y ws rm Pc Qc XC mc ms free := by
  refine MetFree.of_bodyS (code := cc) (maxLocals := maxL) (ret := ret) hy ?_ ?_
  · intro args s m h hn
    obtain ⟨m9, meth, c, hn9, h1, h2, h3, h4, -, h5, h6, -⟩ := Cond.codeWith_spec (atoms_spec (ws := ws) h _ (by rw [hw]; exact List.mem_cons_self))
    cases hn.symm.trans hn9
    exact ⟨meth, c, h1, h2, h3, h4, h5, h6⟩
  · intro p e s m args below meth c s₁ B hml hP _
    have hh0 : s₁.heap = s.heap := by rw [B.state]; rfl
    obtain ⟨t, a1, o, b1, b2, b3⟩ := body p e s m args below meth c s₁ B hml hP s₁ hh0 (Stand.of_body B)
    exact ⟨t, o, a1, b1, b2, b3⟩
/-! ===== END ===== -/

/-! ===== BEGIN printed: names, fields, word lists, decode rows ===== -/
def RX0 : String := "QuayMesh$Box"
def TX0 : u_T := fun k => match k with
  | 0 => ("QuayMesh$Box", "ship", "LQuayMesh$Ship;", true)
  | 1 => ("QuayMesh$Box", "place", "I", true)
  | 2 => ("QuayMesh$Box", "where", "I", false)
  | 3 => ("QuayMesh$Box", "spot", "I", false)
  | 4 => ("QuayMesh$Box", "level", "I", false)
  | 5 => ("QuayMesh$Box", "lifter", "I", false)
  | 6 => ("QuayMesh$Box", "bookedGate", "I", false)
  | _ => ("QuayMesh$Box", "bookedHour", "I", false)
def tyX0 : Nat → FieldType := fun k => match k with
  | 0 => .object "QuayMesh$Ship"
  | 1 => .int
  | 2 => .int
  | 3 => .int
  | 4 => .int
  | 5 => .int
  | 6 => .int
  | _ => .int
abbrev wsX00 : List Cond := u_ws RX0 TX0 8
theorem nmX0 : ∀ a, a < 8 → ∀ b, b < 8 → a ≠ b → (TX0 a).2.1 ≠ (TX0 b).2.1 := by decide +kernel
theorem tyX0_ok : ∀ k, k < 8 → parseFieldDescriptor (TX0 k).2.2.1 = some (tyX0 k) := by decide +kernel
abbrev cX0_init : ByteArray := prog_2_method_1_code
def yX0_init : MethodName := ⟨RX0, "<init>", "(LQuayMesh$Ship;I)V"⟩
abbrev cX0_bring : ByteArray := prog_2_method_2_code
def yX0_bring : MethodName := ⟨RX0, "bring", "(II)V"⟩
abbrev cX0_isAt : ByteArray := prog_2_method_3_code
def yX0_isAt : MethodName := ⟨RX0, "isAt", "(II)Z"⟩
abbrev cX0_isBooked : ByteArray := prog_2_method_4_code
def yX0_isBooked : MethodName := ⟨RX0, "isBooked", "()Z"⟩
abbrev cX0_isBookedAt : ByteArray := prog_2_method_5_code
def yX0_isBookedAt : MethodName := ⟨RX0, "isBookedAt", "(II)Z"⟩
abbrev cX0_dropBooking : ByteArray := prog_2_method_6_code
def yX0_dropBooking : MethodName := ⟨RX0, "dropBooking", "()V"⟩
def RX1 : String := "QuayMesh$Crane"
def TX1 : u_T := fun k => match k with
  | 0 => ("QuayMesh$Worker", "number", "I", true)
  | 1 => ("QuayMesh$Worker", "waiting", "Ljava/util/ArrayList;", true)
  | 2 => ("QuayMesh$Worker", "remembered", "Ljava/util/ArrayList;", true)
  | 3 => ("QuayMesh$Worker", "lossesOfMessages", "I", false)
  | 4 => ("QuayMesh$Worker", "lossesOfAcks", "I", false)
  | 5 => ("QuayMesh$Worker", "isSilent", "Z", false)
  | 6 => ("QuayMesh$Worker", "lastAcknowledged", "LQuayMesh$Message;", false)
  | _ => ("QuayMesh$Crane", "place", "I", false)
def tyX1 : Nat → FieldType := fun k => match k with
  | 0 => .int
  | 1 => .object "java/util/ArrayList"
  | 2 => .object "java/util/ArrayList"
  | 3 => .int
  | 4 => .int
  | 5 => .boolean
  | 6 => .object "QuayMesh$Message"
  | _ => .int
abbrev wsX10 : List Cond := u_ws RX1 TX1 8
theorem nmX1 : ∀ a, a < 8 → ∀ b, b < 8 → a ≠ b → (TX1 a).2.1 ≠ (TX1 b).2.1 := by decide +kernel
theorem tyX1_ok : ∀ k, k < 8 → parseFieldDescriptor (TX1 k).2.2.1 = some (tyX1 k) := by decide +kernel
abbrev cX1_init : ByteArray := prog_3_method_1_code
def yX1_init : MethodName := ⟨RX1, "<init>", "(II)V"⟩
def RX2 : String := "QuayMesh$Message"
def TX2 : u_T := fun k => match k with
  | 0 => ("QuayMesh$Message", "number", "I", true)
  | 1 => ("QuayMesh$Message", "kind", "I", true)
  | 2 => ("QuayMesh$Message", "box", "LQuayMesh$Box;", true)
  | 3 => ("QuayMesh$Message", "target", "I", true)
  | 4 => ("QuayMesh$Message", "timesHanded", "I", false)
  | 5 => ("QuayMesh$Message", "orderMade", "I", false)
  | _ => ("QuayMesh$Message", "isLogged", "Z", false)
def tyX2 : Nat → FieldType := fun k => match k with
  | 0 => .int
  | 1 => .int
  | 2 => .object "QuayMesh$Box"
  | 3 => .int
  | 4 => .int
  | 5 => .int
  | _ => .boolean
abbrev wsX20 : List Cond := u_ws RX2 TX2 7
theorem nmX2 : ∀ a, a < 7 → ∀ b, b < 7 → a ≠ b → (TX2 a).2.1 ≠ (TX2 b).2.1 := by decide +kernel
theorem tyX2_ok : ∀ k, k < 7 → parseFieldDescriptor (TX2 k).2.2.1 = some (tyX2 k) := by decide +kernel
abbrev cX2_init : ByteArray := prog_4_method_1_code
def yX2_init : MethodName := ⟨RX2, "<init>", "(IILQuayMesh$Box;I)V"⟩
abbrev cX2_isMoveMade : ByteArray := prog_4_method_2_code
def yX2_isMoveMade : MethodName := ⟨RX2, "isMoveMade", "()Z"⟩
def RX3 : String := "QuayMesh$Ship"
def TX3 : u_T := fun k => match k with
  | 0 => ("QuayMesh$Ship", "begin", "I", true)
  | 1 => ("QuayMesh$Ship", "end", "I", true)
  | _ => ("QuayMesh$Ship", "hasLeft", "Z", false)
def tyX3 : Nat → FieldType := fun k => match k with
  | 0 => .int
  | 1 => .int
  | _ => .boolean
abbrev wsX30 : List Cond := u_ws RX3 TX3 3
theorem nmX3 : ∀ a, a < 3 → ∀ b, b < 3 → a ≠ b → (TX3 a).2.1 ≠ (TX3 b).2.1 := by decide +kernel
theorem tyX3_ok : ∀ k, k < 3 → parseFieldDescriptor (TX3 k).2.2.1 = some (tyX3 k) := by decide +kernel
abbrev cX3_init : ByteArray := prog_5_method_1_code
def yX3_init : MethodName := ⟨RX3, "<init>", "(II)V"⟩
def RX4 : String := "QuayMesh$Truck"
def TX4 : u_T := fun k => match k with
  | 0 => ("QuayMesh$Worker", "number", "I", true)
  | 1 => ("QuayMesh$Worker", "waiting", "Ljava/util/ArrayList;", true)
  | 2 => ("QuayMesh$Worker", "remembered", "Ljava/util/ArrayList;", true)
  | 3 => ("QuayMesh$Worker", "lossesOfMessages", "I", false)
  | 4 => ("QuayMesh$Worker", "lossesOfAcks", "I", false)
  | 5 => ("QuayMesh$Worker", "isSilent", "Z", false)
  | 6 => ("QuayMesh$Worker", "lastAcknowledged", "LQuayMesh$Message;", false)
  | _ => ("QuayMesh$Truck", "lastSeen", "LQuayMesh$Message;", false)
def tyX4 : Nat → FieldType := fun k => match k with
  | 0 => .int
  | 1 => .object "java/util/ArrayList"
  | 2 => .object "java/util/ArrayList"
  | 3 => .int
  | 4 => .int
  | 5 => .boolean
  | 6 => .object "QuayMesh$Message"
  | _ => .object "QuayMesh$Message"
abbrev wsX40 : List Cond := u_ws RX4 TX4 8
theorem nmX4 : ∀ a, a < 8 → ∀ b, b < 8 → a ≠ b → (TX4 a).2.1 ≠ (TX4 b).2.1 := by decide +kernel
theorem tyX4_ok : ∀ k, k < 8 → parseFieldDescriptor (TX4 k).2.2.1 = some (tyX4 k) := by decide +kernel
abbrev cX4_init : ByteArray := prog_6_method_1_code
def yX4_init : MethodName := ⟨RX4, "<init>", "(I)V"⟩
def RX5 : String := "QuayMesh$Worker"
def TX5 : u_T := fun k => match k with
  | _ => ("", "", "", false)
def tyX5 : Nat → FieldType := fun k => match k with
  | _ => .int
abbrev wsX50 : List Cond := u_ws RX5 TX5 0
theorem nmX5 : ∀ a, a < 0 → ∀ b, b < 0 → a ≠ b → (TX5 a).2.1 ≠ (TX5 b).2.1 := by decide +kernel
theorem tyX5_ok : ∀ k, k < 0 → parseFieldDescriptor (TX5 k).2.2.1 = some (tyX5 k) := by decide +kernel
abbrev cX5_init : ByteArray := prog_7_method_1_code
def yX5_init : MethodName := ⟨RX5, "<init>", "(I)V"⟩
abbrev cX5_takeOut : ByteArray := prog_7_method_2_code
def yX5_takeOut : MethodName := ⟨RX5, "takeOut", "(LQuayMesh$Message;)V"⟩
abbrev cX5_putLast : ByteArray := prog_7_method_3_code
def yX5_putLast : MethodName := ⟨RX5, "putLast", "(LQuayMesh$Message;)V"⟩
def RX6 : String := "QuayMesh"
def TX6 : u_T := fun k => match k with
  | 0 => ("QuayMesh", "allShips", "Ljava/util/ArrayList;", true)
  | 1 => ("QuayMesh", "allBoxes", "Ljava/util/ArrayList;", true)
  | 2 => ("QuayMesh", "allMessages", "Ljava/util/ArrayList;", true)
  | 3 => ("QuayMesh", "log", "Ljava/util/ArrayList;", true)
  | 4 => ("QuayMesh", "cranes", "Ljava/util/ArrayList;", true)
  | 5 => ("QuayMesh", "trucks", "Ljava/util/ArrayList;", true)
  | 6 => ("QuayMesh", "now", "I", false)
  | _ => ("QuayMesh", "movesMade", "I", false)
def tyX6 : Nat → FieldType := fun k => match k with
  | 0 => .object "java/util/ArrayList"
  | 1 => .object "java/util/ArrayList"
  | 2 => .object "java/util/ArrayList"
  | 3 => .object "java/util/ArrayList"
  | 4 => .object "java/util/ArrayList"
  | 5 => .object "java/util/ArrayList"
  | 6 => .int
  | _ => .int
abbrev wsX60 : List Cond := u_ws RX6 TX6 8
theorem nmX6 : ∀ a, a < 8 → ∀ b, b < 8 → a ≠ b → (TX6 a).2.1 ≠ (TX6 b).2.1 := by decide +kernel
theorem tyX6_ok : ∀ k, k < 8 → parseFieldDescriptor (TX6 k).2.2.1 = some (tyX6 k) := by decide +kernel
abbrev cX6_init : ByteArray := prog_1_method_1_code
def yX6_init : MethodName := ⟨RX6, "<init>", "()V"⟩
abbrev cX6_berth : ByteArray := prog_1_method_2_code
def yX6_berth : MethodName := ⟨RX6, "berth", "(II)I"⟩
abbrev cX6_box : ByteArray := prog_1_method_3_code
def yX6_box : MethodName := ⟨RX6, "box", "(II)I"⟩
abbrev cX6_leave : ByteArray := prog_1_method_4_code
def yX6_leave : MethodName := ⟨RX6, "leave", "(I)I"⟩
abbrev cX6_isTaken : ByteArray := prog_1_method_5_code
def yX6_isTaken : MethodName := ⟨RX6, "isTaken", "(II)Z"⟩
abbrev cX6_send : ByteArray := prog_1_method_6_code
def yX6_send : MethodName := ⟨RX6, "send", "(IIII)I"⟩
abbrev cX6_deliver : ByteArray := prog_1_method_7_code
def yX6_deliver : MethodName := ⟨RX6, "deliver", "(I)I"⟩
abbrev cX6_act : ByteArray := prog_1_method_8_code
def yX6_act : MethodName := ⟨RX6, "act", "(I)I"⟩
abbrev cX6_lose : ByteArray := prog_1_method_9_code
def yX6_lose : MethodName := ⟨RX6, "lose", "(IIZ)I"⟩
abbrev cX6_repeat : ByteArray := prog_1_method_10_code
def yX6_repeat : MethodName := ⟨RX6, "repeat", "(I)I"⟩
abbrev cX6_silence : ByteArray := prog_1_method_11_code
def yX6_silence : MethodName := ⟨RX6, "silence", "(IZ)Z"⟩
abbrev cX6_giveAway : ByteArray := prog_1_method_12_code
def yX6_giveAway : MethodName := ⟨RX6, "giveAway", "(II)I"⟩
abbrev cX6_park : ByteArray := prog_1_method_13_code
def yX6_park : MethodName := ⟨RX6, "park", "(II)I"⟩
abbrev cX6_targetsOf : ByteArray := prog_1_method_14_code
def yX6_targetsOf : MethodName := ⟨RX6, "targetsOf", "(I)I"⟩
abbrev cX6_isFor : ByteArray := prog_1_method_15_code
def yX6_isFor : MethodName := ⟨RX6, "isFor", "(II)Z"⟩
abbrev cX6_leastBusyFor : ByteArray := prog_1_method_16_code
def yX6_leastBusyFor : MethodName := ⟨RX6, "leastBusyFor", "(I)LQuayMesh$Worker;"⟩
abbrev cX6_isInAQueue : ByteArray := prog_1_method_17_code
def yX6_isInAQueue : MethodName := ⟨RX6, "isInAQueue", "(LQuayMesh$Message;)Z"⟩
abbrev cX6_handOver : ByteArray := prog_1_method_18_code
def yX6_handOver : MethodName := ⟨RX6, "handOver", "(LQuayMesh$Worker;LQuayMesh$Message;)I"⟩
abbrev cX6_lift : ByteArray := prog_1_method_19_code
def yX6_lift : MethodName := ⟨RX6, "lift", "(LQuayMesh$Crane;LQuayMesh$Message;)I"⟩
abbrev cX6_canGo : ByteArray := prog_1_method_20_code
def yX6_canGo : MethodName := ⟨RX6, "canGo", "(II)Z"⟩
abbrev cX6_isNothingToDo : ByteArray := prog_1_method_21_code
def yX6_isNothingToDo : MethodName := ⟨RX6, "isNothingToDo", "(LQuayMesh$Message;)Z"⟩
abbrev cX6_canTake : ByteArray := prog_1_method_22_code
def yX6_canTake : MethodName := ⟨RX6, "canTake", "(ILQuayMesh$Box;)Z"⟩
abbrev cX6_isUppermost : ByteArray := prog_1_method_23_code
def yX6_isUppermost : MethodName := ⟨RX6, "isUppermost", "(LQuayMesh$Box;)Z"⟩
abbrev cX6_canPutDown : ByteArray := prog_1_method_24_code
def yX6_canPutDown : MethodName := ⟨RX6, "canPutDown", "(LQuayMesh$Message;)Z"⟩
abbrev cX6_putDown : ByteArray := prog_1_method_25_code
def yX6_putDown : MethodName := ⟨RX6, "putDown", "(LQuayMesh$Message;)V"⟩
abbrev cX6_noteMove : ByteArray := prog_1_method_26_code
def yX6_noteMove : MethodName := ⟨RX6, "noteMove", "(LQuayMesh$Message;)V"⟩
abbrev cX6_finish : ByteArray := prog_1_method_27_code
def yX6_finish : MethodName := ⟨RX6, "finish", "(LQuayMesh$Truck;LQuayMesh$Message;)I"⟩
abbrev cX6_acknowledge : ByteArray := prog_1_method_28_code
def yX6_acknowledge : MethodName := ⟨RX6, "acknowledge", "(LQuayMesh$Worker;LQuayMesh$Message;)I"⟩
abbrev cX6_book : ByteArray := prog_1_method_29_code
def yX6_book : MethodName := ⟨RX6, "book", "(III)I"⟩
abbrev cX6_unbook : ByteArray := prog_1_method_30_code
def yX6_unbook : MethodName := ⟨RX6, "unbook", "(I)I"⟩
abbrev cX6_advance : ByteArray := prog_1_method_31_code
def yX6_advance : MethodName := ⟨RX6, "advance", "(I)I"⟩
abbrev cX6_slotsLeft : ByteArray := prog_1_method_32_code
def yX6_slotsLeft : MethodName := ⟨RX6, "slotsLeft", "(II)I"⟩
abbrev cX6_canComeOut : ByteArray := prog_1_method_33_code
def yX6_canComeOut : MethodName := ⟨RX6, "canComeOut", "(LQuayMesh$Box;I)Z"⟩
abbrev cX6_hour : ByteArray := prog_1_method_34_code
def yX6_hour : MethodName := ⟨RX6, "hour", "()I"⟩
abbrev cX6_boxes : ByteArray := prog_1_method_35_code
def yX6_boxes : MethodName := ⟨RX6, "boxes", "()I"⟩
abbrev cX6_whereIs : ByteArray := prog_1_method_36_code
def yX6_whereIs : MethodName := ⟨RX6, "whereIs", "(I)I"⟩
abbrev cX6_whereByLog : ByteArray := prog_1_method_37_code
def yX6_whereByLog : MethodName := ⟨RX6, "whereByLog", "(I)I"⟩
abbrev cX6_liftedBy : ByteArray := prog_1_method_38_code
def yX6_liftedBy : MethodName := ⟨RX6, "liftedBy", "(I)I"⟩
abbrev cX6_bookedFor : ByteArray := prog_1_method_39_code
def yX6_bookedFor : MethodName := ⟨RX6, "bookedFor", "(I)I"⟩
abbrev cX6_placeOf : ByteArray := prog_1_method_40_code
def yX6_placeOf : MethodName := ⟨RX6, "placeOf", "(I)I"⟩
abbrev cX6_height : ByteArray := prog_1_method_41_code
def yX6_height : MethodName := ⟨RX6, "height", "(I)I"⟩
abbrev cX6_queue : ByteArray := prog_1_method_42_code
def yX6_queue : MethodName := ⟨RX6, "queue", "(I)I"⟩
abbrev cX6_queued : ByteArray := prog_1_method_43_code
def yX6_queued : MethodName := ⟨RX6, "queued", "(II)I"⟩
abbrev cX6_seen : ByteArray := prog_1_method_44_code
def yX6_seen : MethodName := ⟨RX6, "seen", "(I)I"⟩
abbrev cX6_handed : ByteArray := prog_1_method_45_code
def yX6_handed : MethodName := ⟨RX6, "handed", "(I)I"⟩
abbrev cX6_isDone : ByteArray := prog_1_method_46_code
def yX6_isDone : MethodName := ⟨RX6, "isDone", "(I)Z"⟩
abbrev cX6_moves : ByteArray := prog_1_method_47_code
def yX6_moves : MethodName := ⟨RX6, "moves", "()I"⟩
abbrev cX6_moveAt : ByteArray := prog_1_method_48_code
def yX6_moveAt : MethodName := ⟨RX6, "moveAt", "(I)I"⟩
abbrev cX6_unheard : ByteArray := prog_1_method_49_code
def yX6_unheard : MethodName := ⟨RX6, "unheard", "()I"⟩
abbrev cX6_lastLoggedMoveOf : ByteArray := prog_1_method_50_code
def yX6_lastLoggedMoveOf : MethodName := ⟨RX6, "lastLoggedMoveOf", "(LQuayMesh$Box;)LQuayMesh$Message;"⟩
abbrev cX6_countAt : ByteArray := prog_1_method_51_code
def yX6_countAt : MethodName := ⟨RX6, "countAt", "(II)I"⟩
abbrev cX6_indexOf : ByteArray := prog_1_method_52_code
def yX6_indexOf : MethodName := ⟨RX6, "indexOf", "(LQuayMesh$Message;Ljava/util/ArrayList;)I"⟩
abbrev cX6_requireOneOf : ByteArray := prog_1_method_53_code
def yX6_requireOneOf : MethodName := ⟨RX6, "requireOneOf", "(II)V"⟩
abbrev cX6_elementOf : ByteArray := prog_1_method_54_code
def yX6_elementOf : MethodName := ⟨RX6, "elementOf", "(Ljava/util/ArrayList;I)LQuayMesh$Message;"⟩
abbrev cX6_shipNumbered : ByteArray := prog_1_method_55_code
def yX6_shipNumbered : MethodName := ⟨RX6, "shipNumbered", "(I)LQuayMesh$Ship;"⟩
abbrev cX6_boxNumbered : ByteArray := prog_1_method_56_code
def yX6_boxNumbered : MethodName := ⟨RX6, "boxNumbered", "(I)LQuayMesh$Box;"⟩
abbrev cX6_craneNumbered : ByteArray := prog_1_method_57_code
def yX6_craneNumbered : MethodName := ⟨RX6, "craneNumbered", "(I)LQuayMesh$Crane;"⟩
abbrev cX6_truckNumbered : ByteArray := prog_1_method_58_code
def yX6_truckNumbered : MethodName := ⟨RX6, "truckNumbered", "(I)LQuayMesh$Truck;"⟩
abbrev cX6_workerNumbered : ByteArray := prog_1_method_59_code
def yX6_workerNumbered : MethodName := ⟨RX6, "workerNumbered", "(I)LQuayMesh$Worker;"⟩
def RX7 : String := "QuayMeshModel"
def TX7 : u_T := fun k => match k with
  | 0 => ("QuayMeshModel", "thrown", "I", false)
  | 1 => ("QuayMeshModel", "hour", "I", false)
  | 2 => ("QuayMeshModel", "ships", "I", false)
  | 3 => ("QuayMeshModel", "from", "[I", true)
  | 4 => ("QuayMeshModel", "length", "[I", true)
  | 5 => ("QuayMeshModel", "hasLeft", "[Z", true)
  | 6 => ("QuayMeshModel", "boxes", "I", false)
  | 7 => ("QuayMeshModel", "shipOf", "[I", true)
  | 8 => ("QuayMeshModel", "placeOf", "[I", true)
  | 9 => ("QuayMeshModel", "where", "[I", true)
  | 10 => ("QuayMeshModel", "at", "[I", true)
  | 11 => ("QuayMeshModel", "lifter", "[I", true)
  | 12 => ("QuayMeshModel", "booked", "[I", true)
  | 13 => ("QuayMeshModel", "gate", "[I", true)
  | 14 => ("QuayMeshModel", "height", "[I", true)
  | 15 => ("QuayMeshModel", "level", "[I", true)
  | 16 => ("QuayMeshModel", "stands", "[I", true)
  | 17 => ("QuayMeshModel", "isSilent", "[Z", true)
  | 18 => ("QuayMeshModel", "messages", "I", false)
  | 19 => ("QuayMeshModel", "kind", "[I", true)
  | 20 => ("QuayMeshModel", "box", "[I", true)
  | 21 => ("QuayMeshModel", "target", "[I", true)
  | 22 => ("QuayMeshModel", "handed", "[I", true)
  | 23 => ("QuayMeshModel", "made", "[I", true)
  | 24 => ("QuayMeshModel", "isLogged", "[Z", true)
  | 25 => ("QuayMeshModel", "moves", "I", false)
  | 26 => ("QuayMeshModel", "doneBy", "[I", true)
  | 27 => ("QuayMeshModel", "logged", "I", false)
  | 28 => ("QuayMeshModel", "log", "[I", true)
  | 29 => ("QuayMeshModel", "many", "[I", true)
  | 30 => ("QuayMeshModel", "queue", "[I", true)
  | 31 => ("QuayMeshModel", "lossDue", "[I", true)
  | 32 => ("QuayMeshModel", "ackLossDue", "[I", true)
  | 33 => ("QuayMeshModel", "lastHeard", "[I", true)
  | _ => ("QuayMeshModel", "seen", "[I", true)
def tyX7 : Nat → FieldType := fun k => match k with
  | 0 => .int
  | 1 => .int
  | 2 => .int
  | 3 => .array .int
  | 4 => .array .int
  | 5 => .array .boolean
  | 6 => .int
  | 7 => .array .int
  | 8 => .array .int
  | 9 => .array .int
  | 10 => .array .int
  | 11 => .array .int
  | 12 => .array .int
  | 13 => .array .int
  | 14 => .array .int
  | 15 => .array .int
  | 16 => .array .int
  | 17 => .array .boolean
  | 18 => .int
  | 19 => .array .int
  | 20 => .array .int
  | 21 => .array .int
  | 22 => .array .int
  | 23 => .array .int
  | 24 => .array .boolean
  | 25 => .int
  | 26 => .array .int
  | 27 => .int
  | 28 => .array .int
  | 29 => .array .int
  | 30 => .array .int
  | 31 => .array .int
  | 32 => .array .int
  | 33 => .array .int
  | _ => .array .int
abbrev wsX70 : List Cond := u_ws RX7 TX7 35
theorem nmX7 : ∀ a, a < 35 → ∀ b, b < 35 → a ≠ b → (TX7 a).2.1 ≠ (TX7 b).2.1 := by decide +kernel
theorem tyX7_ok : ∀ k, k < 35 → parseFieldDescriptor (TX7 k).2.2.1 = some (tyX7 k) := by decide +kernel
abbrev cX7_init : ByteArray := prog_9_method_1_code
def yX7_init : MethodName := ⟨RX7, "<init>", "()V"⟩
abbrev cX7_thrown : ByteArray := prog_9_method_2_code
def yX7_thrown : MethodName := ⟨RX7, "thrown", "()I"⟩
abbrev cX7_in : ByteArray := prog_9_method_3_code
def yX7_in : MethodName := ⟨RX7, "in", "(III)Z"⟩
abbrev cX7_isPlace : ByteArray := prog_9_method_4_code
def yX7_isPlace : MethodName := ⟨RX7, "isPlace", "(I)Z"⟩
abbrev cX7_isCrane : ByteArray := prog_9_method_5_code
def yX7_isCrane : MethodName := ⟨RX7, "isCrane", "(I)Z"⟩
abbrev cX7_isWorker : ByteArray := prog_9_method_6_code
def yX7_isWorker : MethodName := ⟨RX7, "isWorker", "(I)Z"⟩
abbrev cX7_isShip : ByteArray := prog_9_method_7_code
def yX7_isShip : MethodName := ⟨RX7, "isShip", "(I)Z"⟩
abbrev cX7_isBox : ByteArray := prog_9_method_8_code
def yX7_isBox : MethodName := ⟨RX7, "isBox", "(I)Z"⟩
abbrev cX7_isFree : ByteArray := prog_9_method_9_code
def yX7_isFree : MethodName := ⟨RX7, "isFree", "(II)Z"⟩
abbrev cX7_berth : ByteArray := prog_9_method_10_code
def yX7_berth : MethodName := ⟨RX7, "berth", "(II)I"⟩
abbrev cX7_box : ByteArray := prog_9_method_11_code
def yX7_box : MethodName := ⟨RX7, "box", "(II)I"⟩
abbrev cX7_leave : ByteArray := prog_9_method_12_code
def yX7_leave : MethodName := ⟨RX7, "leave", "(I)I"⟩
abbrev cX7_joins : ByteArray := prog_9_method_13_code
def yX7_joins : MethodName := ⟨RX7, "joins", "(II)V"⟩
abbrev cX7_quits : ByteArray := prog_9_method_14_code
def yX7_quits : MethodName := ⟨RX7, "quits", "(II)V"⟩
abbrev cX7_isIn : ByteArray := prog_9_method_15_code
def yX7_isIn : MethodName := ⟨RX7, "isIn", "(II)Z"⟩
abbrev cX7_firstFor : ByteArray := prog_9_method_16_code
def yX7_firstFor : MethodName := ⟨RX7, "firstFor", "(I)I"⟩
abbrev cX7_freest : ByteArray := prog_9_method_17_code
def yX7_freest : MethodName := ⟨RX7, "freest", "(I)I"⟩
abbrev cX7_isTarget : ByteArray := prog_9_method_18_code
def yX7_isTarget : MethodName := ⟨RX7, "isTarget", "(II)Z"⟩
abbrev cX7_send : ByteArray := prog_9_method_19_code
def yX7_send : MethodName := ⟨RX7, "send", "(IIII)I"⟩
abbrev cX7_acknowledges : ByteArray := prog_9_method_20_code
def yX7_acknowledges : MethodName := ⟨RX7, "acknowledges", "(II)I"⟩
abbrev cX7_makes : ByteArray := prog_9_method_21_code
def yX7_makes : MethodName := ⟨RX7, "makes", "(I)V"⟩
abbrev cX7_canGo : ByteArray := prog_9_method_22_code
def yX7_canGo : MethodName := ⟨RX7, "canGo", "(II)Z"⟩
abbrev cX7_isTaken : ByteArray := prog_9_method_23_code
def yX7_isTaken : MethodName := ⟨RX7, "isTaken", "(I)Z"⟩
abbrev cX7_lifts : ByteArray := prog_9_method_24_code
def yX7_lifts : MethodName := ⟨RX7, "lifts", "(II)I"⟩
abbrev cX7_deliver : ByteArray := prog_9_method_25_code
def yX7_deliver : MethodName := ⟨RX7, "deliver", "(I)I"⟩
abbrev cX7_isUppermost : ByteArray := prog_9_method_26_code
def yX7_isUppermost : MethodName := ⟨RX7, "isUppermost", "(I)Z"⟩
abbrev cX7_isEmpty : ByteArray := prog_9_method_27_code
def yX7_isEmpty : MethodName := ⟨RX7, "isEmpty", "(I)Z"⟩
abbrev cX7_finishes : ByteArray := prog_9_method_28_code
def yX7_finishes : MethodName := ⟨RX7, "finishes", "(II)I"⟩
abbrev cX7_puts : ByteArray := prog_9_method_29_code
def yX7_puts : MethodName := ⟨RX7, "puts", "(I)Z"⟩
abbrev cX7_act : ByteArray := prog_9_method_30_code
def yX7_act : MethodName := ⟨RX7, "act", "(I)I"⟩
abbrev cX7_lose : ByteArray := prog_9_method_31_code
def yX7_lose : MethodName := ⟨RX7, "lose", "(IIZ)I"⟩
abbrev cX7_repeat : ByteArray := prog_9_method_32_code
def yX7_repeat : MethodName := ⟨RX7, "repeat", "(I)I"⟩
abbrev cX7_silence : ByteArray := prog_9_method_33_code
def yX7_silence : MethodName := ⟨RX7, "silence", "(IZ)Z"⟩
abbrev cX7_giveAway : ByteArray := prog_9_method_34_code
def yX7_giveAway : MethodName := ⟨RX7, "giveAway", "(II)I"⟩
abbrev cX7_park : ByteArray := prog_9_method_35_code
def yX7_park : MethodName := ⟨RX7, "park", "(II)I"⟩
abbrev cX7_slotsFor : ByteArray := prog_9_method_36_code
def yX7_slotsFor : MethodName := ⟨RX7, "slotsFor", "(II)I"⟩
abbrev cX7_canBook : ByteArray := prog_9_method_37_code
def yX7_canBook : MethodName := ⟨RX7, "canBook", "(III)Z"⟩
abbrev cX7_book : ByteArray := prog_9_method_38_code
def yX7_book : MethodName := ⟨RX7, "book", "(III)I"⟩
abbrev cX7_unbook : ByteArray := prog_9_method_39_code
def yX7_unbook : MethodName := ⟨RX7, "unbook", "(I)I"⟩
abbrev cX7_advance : ByteArray := prog_9_method_40_code
def yX7_advance : MethodName := ⟨RX7, "advance", "(I)I"⟩
abbrev cX7_hour : ByteArray := prog_9_method_41_code
def yX7_hour : MethodName := ⟨RX7, "hour", "()I"⟩
abbrev cX7_boxes : ByteArray := prog_9_method_42_code
def yX7_boxes : MethodName := ⟨RX7, "boxes", "()I"⟩
abbrev cX7_asksBox : ByteArray := prog_9_method_43_code
def yX7_asksBox : MethodName := ⟨RX7, "asksBox", "(I)Z"⟩
abbrev cX7_whereIs : ByteArray := prog_9_method_44_code
def yX7_whereIs : MethodName := ⟨RX7, "whereIs", "(I)I"⟩
abbrev cX7_whereByLog : ByteArray := prog_9_method_45_code
def yX7_whereByLog : MethodName := ⟨RX7, "whereByLog", "(I)I"⟩
abbrev cX7_liftedBy : ByteArray := prog_9_method_46_code
def yX7_liftedBy : MethodName := ⟨RX7, "liftedBy", "(I)I"⟩
abbrev cX7_bookedFor : ByteArray := prog_9_method_47_code
def yX7_bookedFor : MethodName := ⟨RX7, "bookedFor", "(I)I"⟩
abbrev cX7_placeOf : ByteArray := prog_9_method_48_code
def yX7_placeOf : MethodName := ⟨RX7, "placeOf", "(I)I"⟩
abbrev cX7_height : ByteArray := prog_9_method_49_code
def yX7_height : MethodName := ⟨RX7, "height", "(I)I"⟩
abbrev cX7_queue : ByteArray := prog_9_method_50_code
def yX7_queue : MethodName := ⟨RX7, "queue", "(I)I"⟩
abbrev cX7_queued : ByteArray := prog_9_method_51_code
def yX7_queued : MethodName := ⟨RX7, "queued", "(II)I"⟩
abbrev cX7_seen : ByteArray := prog_9_method_52_code
def yX7_seen : MethodName := ⟨RX7, "seen", "(I)I"⟩
abbrev cX7_asksMessage : ByteArray := prog_9_method_53_code
def yX7_asksMessage : MethodName := ⟨RX7, "asksMessage", "(I)Z"⟩
abbrev cX7_handed : ByteArray := prog_9_method_54_code
def yX7_handed : MethodName := ⟨RX7, "handed", "(I)I"⟩
abbrev cX7_isDone : ByteArray := prog_9_method_55_code
def yX7_isDone : MethodName := ⟨RX7, "isDone", "(I)Z"⟩
abbrev cX7_moves : ByteArray := prog_9_method_56_code
def yX7_moves : MethodName := ⟨RX7, "moves", "()I"⟩
abbrev cX7_moveAt : ByteArray := prog_9_method_57_code
def yX7_moveAt : MethodName := ⟨RX7, "moveAt", "(I)I"⟩
abbrev cX7_unheard : ByteArray := prog_9_method_58_code
def yX7_unheard : MethodName := ⟨RX7, "unheard", "()I"⟩
def RJx145de : String := "java/io/Serializable"
def TJx145de : u_T := fun k => match k with
  | _ => ("", "", "", false)
def tyJx145de : Nat → FieldType := fun k => match k with
  | _ => .int
abbrev wsJx145de0 : List Cond := u_ws RJx145de TJx145de 0
theorem nmJx145de : ∀ a, a < 0 → ∀ b, b < 0 → a ≠ b → (TJx145de a).2.1 ≠ (TJx145de b).2.1 := by decide +kernel
theorem tyJx145de_ok : ∀ k, k < 0 → parseFieldDescriptor (TJx145de k).2.2.1 = some (tyJx145de k) := by decide +kernel
def RJx8e188 : String := "java/lang/Cloneable"
def TJx8e188 : u_T := fun k => match k with
  | _ => ("", "", "", false)
def tyJx8e188 : Nat → FieldType := fun k => match k with
  | _ => .int
abbrev wsJx8e1880 : List Cond := u_ws RJx8e188 TJx8e188 0
theorem nmJx8e188 : ∀ a, a < 0 → ∀ b, b < 0 → a ≠ b → (TJx8e188 a).2.1 ≠ (TJx8e188 b).2.1 := by decide +kernel
theorem tyJx8e188_ok : ∀ k, k < 0 → parseFieldDescriptor (TJx8e188 k).2.2.1 = some (tyJx8e188 k) := by decide +kernel
def RJxab1ab : String := "java/lang/Iterable"
def TJxab1ab : u_T := fun k => match k with
  | _ => ("", "", "", false)
def tyJxab1ab : Nat → FieldType := fun k => match k with
  | _ => .int
abbrev wsJxab1ab0 : List Cond := u_ws RJxab1ab TJxab1ab 0
theorem nmJxab1ab : ∀ a, a < 0 → ∀ b, b < 0 → a ≠ b → (TJxab1ab a).2.1 ≠ (TJxab1ab b).2.1 := by decide +kernel
theorem tyJxab1ab_ok : ∀ k, k < 0 → parseFieldDescriptor (TJxab1ab k).2.2.1 = some (tyJxab1ab k) := by decide +kernel
def RJ9 : String := "java/lang/Math"
def TJ9 : u_T := fun k => match k with
  | _ => ("", "", "", false)
def tyJ9 : Nat → FieldType := fun k => match k with
  | _ => .int
abbrev wsJ90 : List Cond := u_ws RJ9 TJ9 0
theorem nmJ9 : ∀ a, a < 0 → ∀ b, b < 0 → a ≠ b → (TJ9 a).2.1 ≠ (TJ9 b).2.1 := by decide +kernel
theorem tyJ9_ok : ∀ k, k < 0 → parseFieldDescriptor (TJ9 k).2.2.1 = some (tyJ9 k) := by decide +kernel
abbrev cJ9_max_7cf53 : ByteArray := prog_17_method_65_code
def yJ9_max_7cf53 : MethodName := ⟨RJ9, "max", "(II)I"⟩
abbrev cJ9_min_7cf53 : ByteArray := prog_17_method_69_code
def yJ9_min_7cf53 : MethodName := ⟨RJ9, "min", "(II)I"⟩
def RJ0 : String := "java/lang/String"
def TJ0 : u_T := fun k => match k with
  | _ => ("", "", "", false)
def tyJ0 : Nat → FieldType := fun k => match k with
  | _ => .int
abbrev wsJ00 : List Cond := u_ws RJ0 TJ0 0
theorem nmJ0 : ∀ a, a < 0 → ∀ b, b < 0 → a ≠ b → (TJ0 a).2.1 ≠ (TJ0 b).2.1 := by decide +kernel
theorem tyJ0_ok : ∀ k, k < 0 → parseFieldDescriptor (TJ0 k).2.2.1 = some (tyJ0 k) := by decide +kernel
def RJ10 : String := "java/lang/System"
def TJ10 : u_T := fun k => match k with
  | _ => ("", "", "", false)
def tyJ10 : Nat → FieldType := fun k => match k with
  | _ => .int
abbrev wsJ100 : List Cond := u_ws RJ10 TJ10 0
theorem nmJ10 : ∀ a, a < 0 → ∀ b, b < 0 → a ≠ b → (TJ10 a).2.1 ≠ (TJ10 b).2.1 := by decide +kernel
theorem tyJ10_ok : ∀ k, k < 0 → parseFieldDescriptor (TJ10 k).2.2.1 = some (tyJ10 k) := by decide +kernel
def RJxa1e45 : String := "java/util/AbstractCollection"
def TJxa1e45 : u_T := fun k => match k with
  | _ => ("", "", "", false)
def tyJxa1e45 : Nat → FieldType := fun k => match k with
  | _ => .int
abbrev wsJxa1e450 : List Cond := u_ws RJxa1e45 TJxa1e45 0
theorem nmJxa1e45 : ∀ a, a < 0 → ∀ b, b < 0 → a ≠ b → (TJxa1e45 a).2.1 ≠ (TJxa1e45 b).2.1 := by decide +kernel
theorem tyJxa1e45_ok : ∀ k, k < 0 → parseFieldDescriptor (TJxa1e45 k).2.2.1 = some (tyJxa1e45 k) := by decide +kernel
abbrev cJxa1e45_init_da8c8 : ByteArray := prog_22_method_1_code
def yJxa1e45_init_da8c8 : MethodName := ⟨RJxa1e45, "<init>", "()V"⟩
def RJxc12de : String := "java/util/AbstractList"
def TJxc12de : u_T := fun k => match k with
  | _ => ("", "", "", false)
def tyJxc12de : Nat → FieldType := fun k => match k with
  | _ => .int
abbrev wsJxc12de0 : List Cond := u_ws RJxc12de TJxc12de 0
theorem nmJxc12de : ∀ a, a < 0 → ∀ b, b < 0 → a ≠ b → (TJxc12de a).2.1 ≠ (TJxc12de b).2.1 := by decide +kernel
theorem tyJxc12de_ok : ∀ k, k < 0 → parseFieldDescriptor (TJxc12de k).2.2.1 = some (tyJxc12de k) := by decide +kernel
abbrev cJxc12de_init_da8c8 : ByteArray := prog_23_method_1_code
def yJxc12de_init_da8c8 : MethodName := ⟨RJxc12de, "<init>", "()V"⟩
def RJx4a65c : String := "java/util/ArrayList"
def TJx4a65c : u_T := fun k => match k with
  | 0 => ("java/util/AbstractList", "modCount", "I", false)
  | 1 => ("java/util/ArrayList", "elementData", "[Ljava/lang/Object;", false)
  | _ => ("java/util/ArrayList", "size", "I", false)
def tyJx4a65c : Nat → FieldType := fun k => match k with
  | 0 => .int
  | 1 => .array (.object "java/lang/Object")
  | _ => .int
abbrev wsJx4a65c0 : List Cond := u_ws RJx4a65c TJx4a65c 3
theorem nmJx4a65c : ∀ a, a < 3 → ∀ b, b < 3 → a ≠ b → (TJx4a65c a).2.1 ≠ (TJx4a65c b).2.1 := by decide +kernel
theorem tyJx4a65c_ok : ∀ k, k < 3 → parseFieldDescriptor (TJx4a65c k).2.2.1 = some (tyJx4a65c k) := by decide +kernel
abbrev cJx4a65c_init_da8c8 : ByteArray := prog_24_method_2_code
def yJx4a65c_init_da8c8 : MethodName := ⟨RJx4a65c, "<init>", "()V"⟩
abbrev cJx4a65c_grow_92f84 : ByteArray := prog_24_method_6_code
def yJx4a65c_grow_92f84 : MethodName := ⟨RJx4a65c, "grow", "(I)[Ljava/lang/Object;"⟩
abbrev cJx4a65c_grow_d5877 : ByteArray := prog_24_method_7_code
def yJx4a65c_grow_d5877 : MethodName := ⟨RJx4a65c, "grow", "()[Ljava/lang/Object;"⟩
abbrev cJx4a65c_size_8abf5 : ByteArray := prog_24_method_8_code
def yJx4a65c_size_8abf5 : MethodName := ⟨RJx4a65c, "size", "()I"⟩
abbrev cJx4a65c_isEmpty_aae02 : ByteArray := prog_24_method_9_code
def yJx4a65c_isEmpty_aae02 : MethodName := ⟨RJx4a65c, "isEmpty", "()Z"⟩
abbrev cJx4a65c_elementData_915e3 : ByteArray := prog_24_method_18_code
def yJx4a65c_elementData_915e3 : MethodName := ⟨RJx4a65c, "elementData", "(I)Ljava/lang/Object;"⟩
abbrev cJx4a65c_get_915e3 : ByteArray := prog_24_method_20_code
def yJx4a65c_get_915e3 : MethodName := ⟨RJx4a65c, "get", "(I)Ljava/lang/Object;"⟩
abbrev cJx4a65c_add_72be8 : ByteArray := prog_24_method_24_code
def yJx4a65c_add_72be8 : MethodName := ⟨RJx4a65c, "add", "(Ljava/lang/Object;[Ljava/lang/Object;I)V"⟩
abbrev cJx4a65c_add_9ea2d : ByteArray := prog_24_method_25_code
def yJx4a65c_add_9ea2d : MethodName := ⟨RJx4a65c, "add", "(Ljava/lang/Object;)Z"⟩
abbrev cJx4a65c_remove_915e3 : ByteArray := prog_24_method_29_code
def yJx4a65c_remove_915e3 : MethodName := ⟨RJx4a65c, "remove", "(I)Ljava/lang/Object;"⟩
abbrev cJx4a65c_fastRemove_b59b0 : ByteArray := prog_24_method_39_code
def yJx4a65c_fastRemove_b59b0 : MethodName := ⟨RJx4a65c, "fastRemove", "([Ljava/lang/Object;I)V"⟩
abbrev cJx4a65c_clear_da8c8 : ByteArray := prog_24_method_40_code
def yJx4a65c_clear_da8c8 : MethodName := ⟨RJx4a65c, "clear", "()V"⟩
def RJ7 : String := "java/util/Arrays"
def TJ7 : u_T := fun k => match k with
  | _ => ("", "", "", false)
def tyJ7 : Nat → FieldType := fun k => match k with
  | _ => .int
abbrev wsJ70 : List Cond := u_ws RJ7 TJ7 0
theorem nmJ7 : ∀ a, a < 0 → ∀ b, b < 0 → a ≠ b → (TJ7 a).2.1 ≠ (TJ7 b).2.1 := by decide +kernel
theorem tyJ7_ok : ∀ k, k < 0 → parseFieldDescriptor (TJ7 k).2.2.1 = some (tyJ7 k) := by decide +kernel
abbrev cJ7_copyOf_1904c : ByteArray := prog_25_method_119_code
def yJ7_copyOf_1904c : MethodName := ⟨RJ7, "copyOf", "([Ljava/lang/Object;I)[Ljava/lang/Object;"⟩
abbrev cJ7_copyOf_6403c : ByteArray := prog_25_method_120_code
def yJ7_copyOf_6403c : MethodName := ⟨RJ7, "copyOf", "([Ljava/lang/Object;ILjava/lang/Class;)[Ljava/lang/Object;"⟩
def RJx5ef63 : String := "java/util/Collection"
def TJx5ef63 : u_T := fun k => match k with
  | _ => ("", "", "", false)
def tyJx5ef63 : Nat → FieldType := fun k => match k with
  | _ => .int
abbrev wsJx5ef630 : List Cond := u_ws RJx5ef63 TJx5ef63 0
theorem nmJx5ef63 : ∀ a, a < 0 → ∀ b, b < 0 → a ≠ b → (TJx5ef63 a).2.1 ≠ (TJx5ef63 b).2.1 := by decide +kernel
theorem tyJx5ef63_ok : ∀ k, k < 0 → parseFieldDescriptor (TJx5ef63 k).2.2.1 = some (tyJx5ef63 k) := by decide +kernel
def RJxbd725 : String := "java/util/List"
def TJxbd725 : u_T := fun k => match k with
  | _ => ("", "", "", false)
def tyJxbd725 : Nat → FieldType := fun k => match k with
  | _ => .int
abbrev wsJxbd7250 : List Cond := u_ws RJxbd725 TJxbd725 0
theorem nmJxbd725 : ∀ a, a < 0 → ∀ b, b < 0 → a ≠ b → (TJxbd725 a).2.1 ≠ (TJxbd725 b).2.1 := by decide +kernel
theorem tyJxbd725_ok : ∀ k, k < 0 → parseFieldDescriptor (TJxbd725 k).2.2.1 = some (tyJxbd725 k) := by decide +kernel
def RJ15 : String := "java/util/Objects"
def TJ15 : u_T := fun k => match k with
  | _ => ("", "", "", false)
def tyJ15 : Nat → FieldType := fun k => match k with
  | _ => .int
abbrev wsJ150 : List Cond := u_ws RJ15 TJ15 0
theorem nmJ15 : ∀ a, a < 0 → ∀ b, b < 0 → a ≠ b → (TJ15 a).2.1 ≠ (TJ15 b).2.1 := by decide +kernel
theorem tyJ15_ok : ∀ k, k < 0 → parseFieldDescriptor (TJ15 k).2.2.1 = some (tyJ15 k) := by decide +kernel
abbrev cJ15_checkIndex_7cf53 : ByteArray := prog_28_method_17_code
def yJ15_checkIndex_7cf53 : MethodName := ⟨RJ15, "checkIndex", "(II)I"⟩
def RJxf0a74 : String := "java/util/RandomAccess"
def TJxf0a74 : u_T := fun k => match k with
  | _ => ("", "", "", false)
def tyJxf0a74 : Nat → FieldType := fun k => match k with
  | _ => .int
abbrev wsJxf0a740 : List Cond := u_ws RJxf0a74 TJxf0a74 0
theorem nmJxf0a74 : ∀ a, a < 0 → ∀ b, b < 0 → a ≠ b → (TJxf0a74 a).2.1 ≠ (TJxf0a74 b).2.1 := by decide +kernel
theorem tyJxf0a74_ok : ∀ k, k < 0 → parseFieldDescriptor (TJxf0a74 k).2.2.1 = some (tyJxf0a74 k) := by decide +kernel
def RJxa66e6 : String := "java/util/SequencedCollection"
def TJxa66e6 : u_T := fun k => match k with
  | _ => ("", "", "", false)
def tyJxa66e6 : Nat → FieldType := fun k => match k with
  | _ => .int
abbrev wsJxa66e60 : List Cond := u_ws RJxa66e6 TJxa66e6 0
theorem nmJxa66e6 : ∀ a, a < 0 → ∀ b, b < 0 → a ≠ b → (TJxa66e6 a).2.1 ≠ (TJxa66e6 b).2.1 := by decide +kernel
theorem tyJxa66e6_ok : ∀ k, k < 0 → parseFieldDescriptor (TJxa66e6 k).2.2.1 = some (tyJxa66e6 k) := by decide +kernel
def RJ8 : String := "jdk/internal/util/ArraysSupport"
def TJ8 : u_T := fun k => match k with
  | _ => ("", "", "", false)
def tyJ8 : Nat → FieldType := fun k => match k with
  | _ => .int
abbrev wsJ80 : List Cond := u_ws RJ8 TJ8 0
theorem nmJ8 : ∀ a, a < 0 → ∀ b, b < 0 → a ≠ b → (TJ8 a).2.1 ≠ (TJ8 b).2.1 := by decide +kernel
theorem tyJ8_ok : ∀ k, k < 0 → parseFieldDescriptor (TJ8 k).2.2.1 = some (tyJ8 k) := by decide +kernel
abbrev cJ8_newLength_cabcc : ByteArray := prog_31_method_27_code
def yJ8_newLength_cabcc : MethodName := ⟨RJ8, "newLength", "(III)I"⟩
abbrev cJ8_hugeLength_7cf53 : ByteArray := prog_31_method_28_code
def yJ8_hugeLength_7cf53 : MethodName := ⟨RJ8, "hugeLength", "(II)I"⟩
def RJ3 : String := "jdk/internal/util/Preconditions"
def TJ3 : u_T := fun k => match k with
  | _ => ("", "", "", false)
def tyJ3 : Nat → FieldType := fun k => match k with
  | _ => .int
abbrev wsJ30 : List Cond := u_ws RJ3 TJ3 0
theorem nmJ3 : ∀ a, a < 0 → ∀ b, b < 0 → a ≠ b → (TJ3 a).2.1 ≠ (TJ3 b).2.1 := by decide +kernel
theorem tyJ3_ok : ∀ k, k < 0 → parseFieldDescriptor (TJ3 k).2.2.1 = some (tyJ3 k) := by decide +kernel
abbrev cJ3_checkIndex_8e157 : ByteArray := prog_32_method_11_code
def yJ3_checkIndex_8e157 : MethodName := ⟨RJ3, "checkIndex", "(IILjava/util/function/BiFunction;)I"⟩
def RL : String := "QuayMeshLaw"
abbrev cL_berth : ByteArray := method_3_code
def yL_berth : MethodName := ⟨RL, "berth", "(LQuayMesh;II[J)I"⟩
abbrev cL_box : ByteArray := method_4_code
def yL_box : MethodName := ⟨RL, "box", "(LQuayMesh;II[J)I"⟩
abbrev cL_leave : ByteArray := method_5_code
def yL_leave : MethodName := ⟨RL, "leave", "(LQuayMesh;I[J)I"⟩
abbrev cL_send : ByteArray := method_6_code
def yL_send : MethodName := ⟨RL, "send", "(LQuayMesh;IIII[J)I"⟩
abbrev cL_deliver : ByteArray := method_7_code
def yL_deliver : MethodName := ⟨RL, "deliver", "(LQuayMesh;I[J)I"⟩
abbrev cL_act : ByteArray := method_8_code
def yL_act : MethodName := ⟨RL, "act", "(LQuayMesh;I[J)I"⟩
abbrev cL_lose : ByteArray := method_9_code
def yL_lose : MethodName := ⟨RL, "lose", "(LQuayMesh;IIZ[J)I"⟩
abbrev cL_repeat : ByteArray := method_10_code
def yL_repeat : MethodName := ⟨RL, "repeat", "(LQuayMesh;I[J)I"⟩
abbrev cL_silence : ByteArray := method_11_code
def yL_silence : MethodName := ⟨RL, "silence", "(LQuayMesh;IZ[J)I"⟩
abbrev cL_giveAway : ByteArray := method_12_code
def yL_giveAway : MethodName := ⟨RL, "giveAway", "(LQuayMesh;II[J)I"⟩
abbrev cL_park : ByteArray := method_13_code
def yL_park : MethodName := ⟨RL, "park", "(LQuayMesh;II[J)I"⟩
abbrev cL_book : ByteArray := method_14_code
def yL_book : MethodName := ⟨RL, "book", "(LQuayMesh;III[J)I"⟩
abbrev cL_unbook : ByteArray := method_15_code
def yL_unbook : MethodName := ⟨RL, "unbook", "(LQuayMesh;I[J)I"⟩
abbrev cL_advance : ByteArray := method_16_code
def yL_advance : MethodName := ⟨RL, "advance", "(LQuayMesh;I[J)I"⟩
abbrev cL_whereIs : ByteArray := method_17_code
def yL_whereIs : MethodName := ⟨RL, "whereIs", "(LQuayMesh;I[J)I"⟩
abbrev cL_whereByLog : ByteArray := method_18_code
def yL_whereByLog : MethodName := ⟨RL, "whereByLog", "(LQuayMesh;I[J)I"⟩
abbrev cL_liftedBy : ByteArray := method_19_code
def yL_liftedBy : MethodName := ⟨RL, "liftedBy", "(LQuayMesh;I[J)I"⟩
abbrev cL_bookedFor : ByteArray := method_20_code
def yL_bookedFor : MethodName := ⟨RL, "bookedFor", "(LQuayMesh;I[J)I"⟩
abbrev cL_placeOf : ByteArray := method_21_code
def yL_placeOf : MethodName := ⟨RL, "placeOf", "(LQuayMesh;I[J)I"⟩
abbrev cL_height : ByteArray := method_22_code
def yL_height : MethodName := ⟨RL, "height", "(LQuayMesh;I[J)I"⟩
abbrev cL_queue : ByteArray := method_23_code
def yL_queue : MethodName := ⟨RL, "queue", "(LQuayMesh;I[J)I"⟩
abbrev cL_queued : ByteArray := method_24_code
def yL_queued : MethodName := ⟨RL, "queued", "(LQuayMesh;II[J)I"⟩
abbrev cL_seen : ByteArray := method_25_code
def yL_seen : MethodName := ⟨RL, "seen", "(LQuayMesh;I[J)I"⟩
abbrev cL_handed : ByteArray := method_26_code
def yL_handed : MethodName := ⟨RL, "handed", "(LQuayMesh;I[J)I"⟩
abbrev cL_isDone : ByteArray := method_27_code
def yL_isDone : MethodName := ⟨RL, "isDone", "(LQuayMesh;I[J)I"⟩
abbrev cL_moveAt : ByteArray := method_28_code
def yL_moveAt : MethodName := ⟨RL, "moveAt", "(LQuayMesh;I[J)I"⟩
abbrev cL_law : ByteArray := code
def yL_law : MethodName := ⟨RL, "law", "([I)Z"⟩
def wsX0_init : List Cond := .code yX0_init cX0_init 3 none :: ([.methodLink RX0 3 objectInit, .instanceMethod objectInit, .code objectInit ⟨#[0xb1]⟩ 1 none, .fieldLink RX0 9 "QuayMesh$Box" "where" "I", .fieldLink RX0 15 "QuayMesh$Box" "level" "I", .fieldLink RX0 18 "QuayMesh$Box" "lifter" "I", .fieldLink RX0 21 "QuayMesh$Box" "bookedGate" "I", .fieldLink RX0 24 "QuayMesh$Box" "bookedHour" "I", .fieldLink RX0 27 "QuayMesh$Box" "ship" "LQuayMesh$Ship;", .fieldLink RX0 31 "QuayMesh$Box" "place" "I", .fieldLink RX0 34 "QuayMesh$Box" "spot" "I"] ++ wsX00)
def wsX0_bring : List Cond := .code yX0_bring cX0_bring 3 none :: ([.fieldLink RX0 9 "QuayMesh$Box" "where" "I", .fieldLink RX0 34 "QuayMesh$Box" "spot" "I"] ++ wsX00)
def wsX0_isAt : List Cond := .code yX0_isAt cX0_isAt 3 (some .boolean) :: ([.fieldLink RX0 9 "QuayMesh$Box" "where" "I", .fieldLink RX0 34 "QuayMesh$Box" "spot" "I"] ++ wsX00)
def wsX0_isBooked : List Cond := .code yX0_isBooked cX0_isBooked 1 (some .boolean) :: ([.fieldLink RX0 24 "QuayMesh$Box" "bookedHour" "I"] ++ wsX00)
def wsX0_isBookedAt : List Cond := .code yX0_isBookedAt cX0_isBookedAt 3 (some .boolean) :: ([.fieldLink RX0 21 "QuayMesh$Box" "bookedGate" "I", .fieldLink RX0 24 "QuayMesh$Box" "bookedHour" "I"] ++ wsX00)
def wsX0_dropBooking : List Cond := .code yX0_dropBooking cX0_dropBooking 1 none :: ([.fieldLink RX0 21 "QuayMesh$Box" "bookedGate" "I", .fieldLink RX0 24 "QuayMesh$Box" "bookedHour" "I"] ++ wsX00)
def wsJxa1e45_init_da8c8 : List Cond := .code yJxa1e45_init_da8c8 cJxa1e45_init_da8c8 1 none :: ([.methodLink RJxa1e45 1 objectInit, .instanceMethod objectInit, .code objectInit ⟨#[0xb1]⟩ 1 none])
def wsJxc12de_init_da8c8 : List Cond := .code yJxc12de_init_da8c8 cJxc12de_init_da8c8 1 none :: ([.fieldLink RJxc12de 7 "java/util/AbstractList" "modCount" "I", .methodLink RJxc12de 1 yJxa1e45_init_da8c8, .instanceMethod yJxa1e45_init_da8c8, .initialized RJxa1e45, .code yJxa1e45_init_da8c8 cJxa1e45_init_da8c8 1 none, .methodLink RJxa1e45 1 objectInit, .instanceMethod objectInit, .code objectInit ⟨#[0xb1]⟩ 1 none] ++ wsJx4a65c0)
def wsJx4a65c_init_da8c8 : List Cond := .code yJx4a65c_init_da8c8 cJx4a65c_init_da8c8 1 none :: ([.fieldLink RJx4a65c 39 "java/util/ArrayList" "DEFAULTCAPACITY_EMPTY_ELEMENTDATA" "[Ljava/lang/Object;", .fieldLink RJx4a65c 9 "java/util/ArrayList" "elementData" "[Ljava/lang/Object;", .methodLink RJx4a65c 1 yJxc12de_init_da8c8, .instanceMethod yJxc12de_init_da8c8, .initialized RJxc12de, .code yJxc12de_init_da8c8 cJxc12de_init_da8c8 1 none, .fieldLink RJxc12de 7 "java/util/AbstractList" "modCount" "I", .methodLink RJxc12de 1 yJxa1e45_init_da8c8, .instanceMethod yJxa1e45_init_da8c8, .initialized RJxa1e45, .code yJxa1e45_init_da8c8 cJxa1e45_init_da8c8 1 none, .methodLink RJxa1e45 1 objectInit, .instanceMethod objectInit, .code objectInit ⟨#[0xb1]⟩ 1 none] ++ wsJx4a65c0)
def wsX5_init_r1 : List Cond := [Cond.methodLink RX5 3 objectInit, Cond.instanceMethod objectInit, Cond.code objectInit ⟨#[0xb1]⟩ 1 none, Cond.classLink RX5 9 RJx4a65c, Cond.instantiable RJx4a65c 3, Cond.initialized RJx4a65c, Cond.fieldLink RX5 12 "QuayMesh$Worker" "waiting" "Ljava/util/ArrayList;", Cond.fieldLink RX5 18 "QuayMesh$Worker" "remembered" "Ljava/util/ArrayList;", Cond.fieldLink RX5 21 "QuayMesh$Worker" "lossesOfMessages" "I", Cond.fieldLink RX5 25 "QuayMesh$Worker" "lossesOfAcks" "I", Cond.fieldLink RX5 28 "QuayMesh$Worker" "isSilent" "Z", Cond.fieldLink RX5 32 "QuayMesh$Worker" "lastAcknowledged" "LQuayMesh$Message;", Cond.fieldLink RX5 36 "QuayMesh$Worker" "number" "I", Cond.methodLink RX5 11 yJx4a65c_init_da8c8, Cond.instanceMethod yJx4a65c_init_da8c8, Cond.code yJx4a65c_init_da8c8 cJx4a65c_init_da8c8 1 none, Cond.fieldLink RJx4a65c 39 "java/util/ArrayList" "DEFAULTCAPACITY_EMPTY_ELEMENTDATA" "[Ljava/lang/Object;", Cond.fieldLink RJx4a65c 9 "java/util/ArrayList" "elementData" "[Ljava/lang/Object;", Cond.methodLink RJx4a65c 1 yJxc12de_init_da8c8, Cond.instanceMethod yJxc12de_init_da8c8, Cond.initialized RJxc12de, Cond.code yJxc12de_init_da8c8 cJxc12de_init_da8c8 1 none, Cond.fieldLink RJxc12de 7 "java/util/AbstractList" "modCount" "I", Cond.methodLink RJxc12de 1 yJxa1e45_init_da8c8]
def wsX5_init_r2 : List Cond := [Cond.instanceMethod yJxa1e45_init_da8c8, Cond.initialized RJxa1e45, Cond.code yJxa1e45_init_da8c8 cJxa1e45_init_da8c8 1 none, Cond.methodLink RJxa1e45 1 objectInit]
def wsX5_init : List Cond := .code yX5_init cX5_init 2 none :: ((wsX5_init_r1 ++ wsX5_init_r2) ++ wsJx4a65c0 ++ wsX10 ++ wsX40)
def wsX1_init_r1 : List Cond := [Cond.fieldLink RX1 7 "QuayMesh$Crane" "place" "I", Cond.methodLink RX1 1 yX5_init, Cond.instanceMethod yX5_init, Cond.initialized RX5, Cond.code yX5_init cX5_init 2 none, Cond.methodLink RX5 3 objectInit, Cond.instanceMethod objectInit, Cond.code objectInit ⟨#[0xb1]⟩ 1 none, Cond.classLink RX5 9 RJx4a65c, Cond.instantiable RJx4a65c 3, Cond.initialized RJx4a65c, Cond.fieldLink RX5 12 "QuayMesh$Worker" "waiting" "Ljava/util/ArrayList;", Cond.fieldLink RX5 18 "QuayMesh$Worker" "remembered" "Ljava/util/ArrayList;", Cond.fieldLink RX5 21 "QuayMesh$Worker" "lossesOfMessages" "I", Cond.fieldLink RX5 25 "QuayMesh$Worker" "lossesOfAcks" "I", Cond.fieldLink RX5 28 "QuayMesh$Worker" "isSilent" "Z", Cond.fieldLink RX5 32 "QuayMesh$Worker" "lastAcknowledged" "LQuayMesh$Message;", Cond.fieldLink RX5 36 "QuayMesh$Worker" "number" "I", Cond.methodLink RX5 11 yJx4a65c_init_da8c8, Cond.instanceMethod yJx4a65c_init_da8c8, Cond.code yJx4a65c_init_da8c8 cJx4a65c_init_da8c8 1 none, Cond.fieldLink RJx4a65c 39 "java/util/ArrayList" "DEFAULTCAPACITY_EMPTY_ELEMENTDATA" "[Ljava/lang/Object;", Cond.fieldLink RJx4a65c 9 "java/util/ArrayList" "elementData" "[Ljava/lang/Object;", Cond.methodLink RJx4a65c 1 yJxc12de_init_da8c8]
def wsX1_init_r2 : List Cond := [Cond.instanceMethod yJxc12de_init_da8c8, Cond.initialized RJxc12de, Cond.code yJxc12de_init_da8c8 cJxc12de_init_da8c8 1 none, Cond.fieldLink RJxc12de 7 "java/util/AbstractList" "modCount" "I", Cond.methodLink RJxc12de 1 yJxa1e45_init_da8c8, Cond.instanceMethod yJxa1e45_init_da8c8, Cond.initialized RJxa1e45, Cond.code yJxa1e45_init_da8c8 cJxa1e45_init_da8c8 1 none, Cond.methodLink RJxa1e45 1 objectInit]
def wsX1_init : List Cond := .code yX1_init cX1_init 3 none :: ((wsX1_init_r1 ++ wsX1_init_r2) ++ wsX10 ++ wsJx4a65c0 ++ wsX40)
def wsX2_init : List Cond := .code yX2_init cX2_init 5 none :: ([.methodLink RX2 3 objectInit, .instanceMethod objectInit, .code objectInit ⟨#[0xb1]⟩ 1 none, .fieldLink RX2 9 "QuayMesh$Message" "timesHanded" "I", .fieldLink RX2 15 "QuayMesh$Message" "orderMade" "I", .fieldLink RX2 18 "QuayMesh$Message" "isLogged" "Z", .fieldLink RX2 22 "QuayMesh$Message" "number" "I", .fieldLink RX2 25 "QuayMesh$Message" "kind" "I", .fieldLink RX2 28 "QuayMesh$Message" "box" "LQuayMesh$Box;", .fieldLink RX2 32 "QuayMesh$Message" "target" "I"] ++ wsX20)
def wsX2_isMoveMade : List Cond := .code yX2_isMoveMade cX2_isMoveMade 1 (some .boolean) :: ([.fieldLink RX2 15 "QuayMesh$Message" "orderMade" "I"] ++ wsX20)
def wsX3_init : List Cond := .code yX3_init cX3_init 3 none :: ([.methodLink RX3 1 objectInit, .instanceMethod objectInit, .code objectInit ⟨#[0xb1]⟩ 1 none, .fieldLink RX3 7 "QuayMesh$Ship" "hasLeft" "Z", .fieldLink RX3 13 "QuayMesh$Ship" "begin" "I", .fieldLink RX3 17 "QuayMesh$Ship" "end" "I"] ++ wsX30)
def wsX4_init_r1 : List Cond := [Cond.fieldLink RX4 7 "QuayMesh$Truck" "lastSeen" "LQuayMesh$Message;", Cond.methodLink RX4 1 yX5_init, Cond.instanceMethod yX5_init, Cond.initialized RX5, Cond.code yX5_init cX5_init 2 none, Cond.methodLink RX5 3 objectInit, Cond.instanceMethod objectInit, Cond.code objectInit ⟨#[0xb1]⟩ 1 none, Cond.classLink RX5 9 RJx4a65c, Cond.instantiable RJx4a65c 3, Cond.initialized RJx4a65c, Cond.fieldLink RX5 12 "QuayMesh$Worker" "waiting" "Ljava/util/ArrayList;", Cond.fieldLink RX5 18 "QuayMesh$Worker" "remembered" "Ljava/util/ArrayList;", Cond.fieldLink RX5 21 "QuayMesh$Worker" "lossesOfMessages" "I", Cond.fieldLink RX5 25 "QuayMesh$Worker" "lossesOfAcks" "I", Cond.fieldLink RX5 28 "QuayMesh$Worker" "isSilent" "Z", Cond.fieldLink RX5 32 "QuayMesh$Worker" "lastAcknowledged" "LQuayMesh$Message;", Cond.fieldLink RX5 36 "QuayMesh$Worker" "number" "I", Cond.methodLink RX5 11 yJx4a65c_init_da8c8, Cond.instanceMethod yJx4a65c_init_da8c8, Cond.code yJx4a65c_init_da8c8 cJx4a65c_init_da8c8 1 none, Cond.fieldLink RJx4a65c 39 "java/util/ArrayList" "DEFAULTCAPACITY_EMPTY_ELEMENTDATA" "[Ljava/lang/Object;", Cond.fieldLink RJx4a65c 9 "java/util/ArrayList" "elementData" "[Ljava/lang/Object;", Cond.methodLink RJx4a65c 1 yJxc12de_init_da8c8]
def wsX4_init_r2 : List Cond := [Cond.instanceMethod yJxc12de_init_da8c8, Cond.initialized RJxc12de, Cond.code yJxc12de_init_da8c8 cJxc12de_init_da8c8 1 none, Cond.fieldLink RJxc12de 7 "java/util/AbstractList" "modCount" "I", Cond.methodLink RJxc12de 1 yJxa1e45_init_da8c8, Cond.instanceMethod yJxa1e45_init_da8c8, Cond.initialized RJxa1e45, Cond.code yJxa1e45_init_da8c8 cJxa1e45_init_da8c8 1 none, Cond.methodLink RJxa1e45 1 objectInit]
def wsX4_init : List Cond := .code yX4_init cX4_init 2 none :: ((wsX4_init_r1 ++ wsX4_init_r2) ++ wsX40 ++ wsJx4a65c0 ++ wsX10)
def wsJx4a65c_size_8abf5 : List Cond := .code yJx4a65c_size_8abf5 cJx4a65c_size_8abf5 1 (some .int) :: ([.fieldLink RJx4a65c 48 "java/util/ArrayList" "size" "I"] ++ wsJx4a65c0)
def wsJ3_checkIndex_8e157 : List Cond := .code yJ3_checkIndex_8e157 cJ3_checkIndex_8e157 3 (some .int) :: ([])
def wsJ15_checkIndex_7cf53 : List Cond := .code yJ15_checkIndex_7cf53 cJ15_checkIndex_7cf53 2 (some .int) :: ([.methodLink RJ15 105 yJ3_checkIndex_8e157, .static yJ3_checkIndex_8e157, .initialized RJ3, .code yJ3_checkIndex_8e157 cJ3_checkIndex_8e157 3 (some .int)])
def wsJx4a65c_elementData_915e3 : List Cond := .code yJx4a65c_elementData_915e3 cJx4a65c_elementData_915e3 2 (some (.object "java/lang/Object")) :: ([.fieldLink RJx4a65c 9 "java/util/ArrayList" "elementData" "[Ljava/lang/Object;"] ++ wsJx4a65c0)
def wsJx4a65c_get_915e3 : List Cond := .code yJx4a65c_get_915e3 cJx4a65c_get_915e3 2 (some (.object "java/lang/Object")) :: ([.fieldLink RJx4a65c 48 "java/util/ArrayList" "size" "I", .methodLink RJx4a65c 118 yJ15_checkIndex_7cf53, .static yJ15_checkIndex_7cf53, .initialized RJ15, .code yJ15_checkIndex_7cf53 cJ15_checkIndex_7cf53 2 (some .int), .methodLink RJ15 105 yJ3_checkIndex_8e157, .static yJ3_checkIndex_8e157, .initialized RJ3, .code yJ3_checkIndex_8e157 cJ3_checkIndex_8e157 3 (some .int), .methodLink RJx4a65c 123 yJx4a65c_elementData_915e3, .instanceMethod yJx4a65c_elementData_915e3, .selects RJx4a65c yJx4a65c_elementData_915e3 yJx4a65c_elementData_915e3, .initialized RJx4a65c, .code yJx4a65c_elementData_915e3 cJx4a65c_elementData_915e3 2 (some (.object "java/lang/Object")), .fieldLink RJx4a65c 9 "java/util/ArrayList" "elementData" "[Ljava/lang/Object;"] ++ wsJx4a65c0)
def wsX6_indexOf : List Cond := .code yX6_indexOf cX6_indexOf 3 (some .int) :: ([.methodLink RX6 62 yJx4a65c_size_8abf5, .instanceMethod yJx4a65c_size_8abf5, .selects RJx4a65c yJx4a65c_size_8abf5 yJx4a65c_size_8abf5, .initialized RJx4a65c, .code yJx4a65c_size_8abf5 cJx4a65c_size_8abf5 1 (some .int), .fieldLink RJx4a65c 48 "java/util/ArrayList" "size" "I", .methodLink RX6 97 yJx4a65c_get_915e3, .instanceMethod yJx4a65c_get_915e3, .selects RJx4a65c yJx4a65c_get_915e3 yJx4a65c_get_915e3, .code yJx4a65c_get_915e3 cJx4a65c_get_915e3 2 (some (.object "java/lang/Object")), .methodLink RJx4a65c 118 yJ15_checkIndex_7cf53, .static yJ15_checkIndex_7cf53, .initialized RJ15, .code yJ15_checkIndex_7cf53 cJ15_checkIndex_7cf53 2 (some .int), .methodLink RJ15 105 yJ3_checkIndex_8e157, .static yJ3_checkIndex_8e157, .initialized RJ3, .code yJ3_checkIndex_8e157 cJ3_checkIndex_8e157 3 (some .int), .methodLink RJx4a65c 123 yJx4a65c_elementData_915e3, .instanceMethod yJx4a65c_elementData_915e3, .selects RJx4a65c yJx4a65c_elementData_915e3 yJx4a65c_elementData_915e3, .code yJx4a65c_elementData_915e3 cJx4a65c_elementData_915e3 2 (some (.object "java/lang/Object")), .fieldLink RJx4a65c 9 "java/util/ArrayList" "elementData" "[Ljava/lang/Object;"] ++ wsJx4a65c0)
def wsJx4a65c_fastRemove_b59b0 : List Cond := .code yJx4a65c_fastRemove_b59b0 cJx4a65c_fastRemove_b59b0 4 none :: ([.fieldLink RJx4a65c 63 "java/util/ArrayList" "modCount" "I", .sameField "java/util/ArrayList" "java/util/AbstractList" "modCount" "I", .fieldLink RJx4a65c 48 "java/util/ArrayList" "size" "I", .methodLink RJx4a65c 112 arraycopyName, .native arraycopyName, .static arraycopyName, .initialized "java/lang/System"] ++ wsJx4a65c0)
def wsJx4a65c_remove_915e3 : List Cond := .code yJx4a65c_remove_915e3 cJx4a65c_remove_915e3 4 (some (.object "java/lang/Object")) :: ([.fieldLink RJx4a65c 48 "java/util/ArrayList" "size" "I", .fieldLink RJx4a65c 9 "java/util/ArrayList" "elementData" "[Ljava/lang/Object;", .methodLink RJx4a65c 118 yJ15_checkIndex_7cf53, .static yJ15_checkIndex_7cf53, .initialized RJ15, .code yJ15_checkIndex_7cf53 cJ15_checkIndex_7cf53 2 (some .int), .methodLink RJ15 105 yJ3_checkIndex_8e157, .static yJ3_checkIndex_8e157, .initialized RJ3, .code yJ3_checkIndex_8e157 cJ3_checkIndex_8e157 3 (some .int), .methodLink RJx4a65c 144 yJx4a65c_fastRemove_b59b0, .instanceMethod yJx4a65c_fastRemove_b59b0, .selects RJx4a65c yJx4a65c_fastRemove_b59b0 yJx4a65c_fastRemove_b59b0, .initialized RJx4a65c, .code yJx4a65c_fastRemove_b59b0 cJx4a65c_fastRemove_b59b0 4 none, .fieldLink RJx4a65c 63 "java/util/ArrayList" "modCount" "I", .sameField "java/util/ArrayList" "java/util/AbstractList" "modCount" "I", .methodLink RJx4a65c 112 arraycopyName, .native arraycopyName, .static arraycopyName, .initialized "java/lang/System"] ++ wsJx4a65c0)
def wsX5_takeOut_r1 : List Cond := [Cond.fieldLink RX5 12 "QuayMesh$Worker" "waiting" "Ljava/util/ArrayList;", Cond.static yX6_indexOf, Cond.initialized RX6, Cond.code yX6_indexOf cX6_indexOf 3 (some .int), Cond.methodLink RX6 62 yJx4a65c_size_8abf5, Cond.instanceMethod yJx4a65c_size_8abf5, Cond.selects RJx4a65c yJx4a65c_size_8abf5 yJx4a65c_size_8abf5, Cond.initialized RJx4a65c, Cond.code yJx4a65c_size_8abf5 cJx4a65c_size_8abf5 1 (some .int), Cond.fieldLink RJx4a65c 48 "java/util/ArrayList" "size" "I", Cond.methodLink RX6 97 yJx4a65c_get_915e3, Cond.instanceMethod yJx4a65c_get_915e3, Cond.selects RJx4a65c yJx4a65c_get_915e3 yJx4a65c_get_915e3, Cond.code yJx4a65c_get_915e3 cJx4a65c_get_915e3 2 (some (.object "java/lang/Object")), Cond.methodLink RJx4a65c 118 yJ15_checkIndex_7cf53, Cond.static yJ15_checkIndex_7cf53, Cond.initialized RJ15, Cond.code yJ15_checkIndex_7cf53 cJ15_checkIndex_7cf53 2 (some .int), Cond.methodLink RJ15 105 yJ3_checkIndex_8e157, Cond.static yJ3_checkIndex_8e157, Cond.initialized RJ3, Cond.code yJ3_checkIndex_8e157 cJ3_checkIndex_8e157 3 (some .int), Cond.methodLink RJx4a65c 123 yJx4a65c_elementData_915e3, Cond.instanceMethod yJx4a65c_elementData_915e3]
def wsX5_takeOut_r2 : List Cond := [Cond.selects RJx4a65c yJx4a65c_elementData_915e3 yJx4a65c_elementData_915e3, Cond.code yJx4a65c_elementData_915e3 cJx4a65c_elementData_915e3 2 (some (.object "java/lang/Object")), Cond.fieldLink RJx4a65c 9 "java/util/ArrayList" "elementData" "[Ljava/lang/Object;", Cond.methodLink RX5 43 yJx4a65c_remove_915e3, Cond.instanceMethod yJx4a65c_remove_915e3, Cond.selects RJx4a65c yJx4a65c_remove_915e3 yJx4a65c_remove_915e3, Cond.code yJx4a65c_remove_915e3 cJx4a65c_remove_915e3 4 (some (.object "java/lang/Object")), Cond.methodLink RJx4a65c 144 yJx4a65c_fastRemove_b59b0, Cond.instanceMethod yJx4a65c_fastRemove_b59b0, Cond.selects RJx4a65c yJx4a65c_fastRemove_b59b0 yJx4a65c_fastRemove_b59b0, Cond.code yJx4a65c_fastRemove_b59b0 cJx4a65c_fastRemove_b59b0 4 none, Cond.fieldLink RJx4a65c 63 "java/util/ArrayList" "modCount" "I", Cond.sameField "java/util/ArrayList" "java/util/AbstractList" "modCount" "I", Cond.methodLink RJx4a65c 112 arraycopyName, Cond.native arraycopyName, Cond.static arraycopyName, Cond.initialized "java/lang/System"]
def wsX5_takeOut : List Cond := .code yX5_takeOut cX5_takeOut 3 none :: ((wsX5_takeOut_r1 ++ wsX5_takeOut_r2) ++ wsX10 ++ wsX40 ++ wsJx4a65c0)
def wsJ8_hugeLength_7cf53 : List Cond := .code yJ8_hugeLength_7cf53 cJ8_hugeLength_7cf53 3 (some .int) :: ([.constant RJ8 200 (2147483639)])
def wsJ8_newLength_cabcc : List Cond := .code yJ8_newLength_cabcc cJ8_newLength_cabcc 4 (some .int) :: ([.methodLink RJ8 194 Lib.Math.max.name, .static Lib.Math.max.name, .initialized "java/lang/Math", .code Lib.Math.max.name Lib.Math.max.code 2 (some .int), .constant RJ8 200 (2147483639), .methodLink RJ8 201 yJ8_hugeLength_7cf53, .static yJ8_hugeLength_7cf53, .initialized RJ8, .code yJ8_hugeLength_7cf53 cJ8_hugeLength_7cf53 3 (some .int)])
def wsJ7_copyOf_6403c : List Cond := .code yJ7_copyOf_6403c cJ7_copyOf_6403c 4 (some (.array (.object "java/lang/Object"))) :: ([.classLink RJ7 110 "[Ljava/lang/Object;", .classLink RJ7 2 "java/lang/Object", .methodLink RJ7 304 Lib.Math.min.name, .static Lib.Math.min.name, .initialized "java/lang/Math", .code Lib.Math.min.name Lib.Math.min.code 2 (some .int), .methodLink RJ7 150 arraycopyName, .native arraycopyName, .static arraycopyName, .initialized "java/lang/System"])
def wsJ7_copyOf_1904c : List Cond := .code yJ7_copyOf_1904c cJ7_copyOf_1904c 2 (some (.array (.object "java/lang/Object"))) :: ([.methodLink RJ7 86 ⟨"java/lang/Object", "getClass", "()Ljava/lang/Class;"⟩, .selects "[Ljava/lang/Object;" ⟨"java/lang/Object", "getClass", "()Ljava/lang/Class;"⟩ ⟨"java/lang/Object", "getClass", "()Ljava/lang/Class;"⟩, .instanceMethod ⟨"java/lang/Object", "getClass", "()Ljava/lang/Class;"⟩, .native ⟨"java/lang/Object", "getClass", "()Ljava/lang/Class;"⟩, .methodLink RJ7 300 yJ7_copyOf_6403c, .static yJ7_copyOf_6403c, .initialized RJ7, .code yJ7_copyOf_6403c cJ7_copyOf_6403c 4 (some (.array (.object "java/lang/Object"))), .classLink RJ7 110 "[Ljava/lang/Object;", .classLink RJ7 2 "java/lang/Object", .methodLink RJ7 304 Lib.Math.min.name, .static Lib.Math.min.name, .initialized "java/lang/Math", .code Lib.Math.min.name Lib.Math.min.code 2 (some .int), .methodLink RJ7 150 arraycopyName, .native arraycopyName, .static arraycopyName, .initialized "java/lang/System"])
def wsJx4a65c_grow_92f84_r1 : List Cond := [Cond.fieldLink RJx4a65c 9 "java/util/ArrayList" "elementData" "[Ljava/lang/Object;", Cond.fieldLink RJx4a65c 39 "java/util/ArrayList" "DEFAULTCAPACITY_EMPTY_ELEMENTDATA" "[Ljava/lang/Object;", Cond.methodLink RJx4a65c 79 Lib.Math.max.name, Cond.static Lib.Math.max.name, Cond.initialized "java/lang/Math", Cond.code Lib.Math.max.name Lib.Math.max.code 2 (some .int), Cond.classLink RJx4a65c 7 "java/lang/Object", Cond.methodLink RJx4a65c 73 yJ8_newLength_cabcc, Cond.static yJ8_newLength_cabcc, Cond.initialized RJ8, Cond.code yJ8_newLength_cabcc cJ8_newLength_cabcc 4 (some .int), Cond.methodLink RJ8 194 Lib.Math.max.name, Cond.constant RJ8 200 (2147483639), Cond.methodLink RJ8 201 yJ8_hugeLength_7cf53, Cond.static yJ8_hugeLength_7cf53, Cond.code yJ8_hugeLength_7cf53 cJ8_hugeLength_7cf53 3 (some .int), Cond.methodLink RJx4a65c 66 yJ7_copyOf_1904c, Cond.static yJ7_copyOf_1904c, Cond.initialized RJ7, Cond.code yJ7_copyOf_1904c cJ7_copyOf_1904c 2 (some (.array (.object "java/lang/Object"))), Cond.methodLink RJ7 86 ⟨"java/lang/Object", "getClass", "()Ljava/lang/Class;"⟩, Cond.selects "[Ljava/lang/Object;" ⟨"java/lang/Object", "getClass", "()Ljava/lang/Class;"⟩ ⟨"java/lang/Object", "getClass", "()Ljava/lang/Class;"⟩, Cond.instanceMethod ⟨"java/lang/Object", "getClass", "()Ljava/lang/Class;"⟩, Cond.native ⟨"java/lang/Object", "getClass", "()Ljava/lang/Class;"⟩]
def wsJx4a65c_grow_92f84_r2 : List Cond := [Cond.methodLink RJ7 300 yJ7_copyOf_6403c, Cond.static yJ7_copyOf_6403c, Cond.code yJ7_copyOf_6403c cJ7_copyOf_6403c 4 (some (.array (.object "java/lang/Object"))), Cond.classLink RJ7 110 "[Ljava/lang/Object;", Cond.classLink RJ7 2 "java/lang/Object", Cond.methodLink RJ7 304 Lib.Math.min.name, Cond.static Lib.Math.min.name, Cond.code Lib.Math.min.name Lib.Math.min.code 2 (some .int), Cond.methodLink RJ7 150 arraycopyName, Cond.native arraycopyName, Cond.static arraycopyName, Cond.initialized "java/lang/System"]
def wsJx4a65c_grow_92f84 : List Cond := .code yJx4a65c_grow_92f84 cJx4a65c_grow_92f84 4 (some (.array (.object "java/lang/Object"))) :: ((wsJx4a65c_grow_92f84_r1 ++ wsJx4a65c_grow_92f84_r2) ++ wsJx4a65c0)
def wsJx4a65c_grow_d5877_r1 : List Cond := [Cond.fieldLink RJx4a65c 48 "java/util/ArrayList" "size" "I", Cond.methodLink RJx4a65c 69 yJx4a65c_grow_92f84, Cond.instanceMethod yJx4a65c_grow_92f84, Cond.selects RJx4a65c yJx4a65c_grow_92f84 yJx4a65c_grow_92f84, Cond.initialized RJx4a65c, Cond.code yJx4a65c_grow_92f84 cJx4a65c_grow_92f84 4 (some (.array (.object "java/lang/Object"))), Cond.fieldLink RJx4a65c 9 "java/util/ArrayList" "elementData" "[Ljava/lang/Object;", Cond.fieldLink RJx4a65c 39 "java/util/ArrayList" "DEFAULTCAPACITY_EMPTY_ELEMENTDATA" "[Ljava/lang/Object;", Cond.methodLink RJx4a65c 79 Lib.Math.max.name, Cond.static Lib.Math.max.name, Cond.initialized "java/lang/Math", Cond.code Lib.Math.max.name Lib.Math.max.code 2 (some .int), Cond.classLink RJx4a65c 7 "java/lang/Object", Cond.methodLink RJx4a65c 73 yJ8_newLength_cabcc, Cond.static yJ8_newLength_cabcc, Cond.initialized RJ8, Cond.code yJ8_newLength_cabcc cJ8_newLength_cabcc 4 (some .int), Cond.methodLink RJ8 194 Lib.Math.max.name, Cond.constant RJ8 200 (2147483639), Cond.methodLink RJ8 201 yJ8_hugeLength_7cf53, Cond.static yJ8_hugeLength_7cf53, Cond.code yJ8_hugeLength_7cf53 cJ8_hugeLength_7cf53 3 (some .int), Cond.methodLink RJx4a65c 66 yJ7_copyOf_1904c, Cond.static yJ7_copyOf_1904c]
def wsJx4a65c_grow_d5877_r2 : List Cond := [Cond.initialized RJ7, Cond.code yJ7_copyOf_1904c cJ7_copyOf_1904c 2 (some (.array (.object "java/lang/Object"))), Cond.methodLink RJ7 86 ⟨"java/lang/Object", "getClass", "()Ljava/lang/Class;"⟩, Cond.selects "[Ljava/lang/Object;" ⟨"java/lang/Object", "getClass", "()Ljava/lang/Class;"⟩ ⟨"java/lang/Object", "getClass", "()Ljava/lang/Class;"⟩, Cond.instanceMethod ⟨"java/lang/Object", "getClass", "()Ljava/lang/Class;"⟩, Cond.native ⟨"java/lang/Object", "getClass", "()Ljava/lang/Class;"⟩, Cond.methodLink RJ7 300 yJ7_copyOf_6403c, Cond.static yJ7_copyOf_6403c, Cond.code yJ7_copyOf_6403c cJ7_copyOf_6403c 4 (some (.array (.object "java/lang/Object"))), Cond.classLink RJ7 110 "[Ljava/lang/Object;", Cond.classLink RJ7 2 "java/lang/Object", Cond.methodLink RJ7 304 Lib.Math.min.name, Cond.static Lib.Math.min.name, Cond.code Lib.Math.min.name Lib.Math.min.code 2 (some .int), Cond.methodLink RJ7 150 arraycopyName, Cond.native arraycopyName, Cond.static arraycopyName, Cond.initialized "java/lang/System"]
def wsJx4a65c_grow_d5877 : List Cond := .code yJx4a65c_grow_d5877 cJx4a65c_grow_d5877 1 (some (.array (.object "java/lang/Object"))) :: ((wsJx4a65c_grow_d5877_r1 ++ wsJx4a65c_grow_d5877_r2) ++ wsJx4a65c0)
def wsJx4a65c_add_72be8_r1 : List Cond := [Cond.fieldLink RJx4a65c 48 "java/util/ArrayList" "size" "I", Cond.methodLink RJx4a65c 129 yJx4a65c_grow_d5877, Cond.instanceMethod yJx4a65c_grow_d5877, Cond.selects RJx4a65c yJx4a65c_grow_d5877 yJx4a65c_grow_d5877, Cond.initialized RJx4a65c, Cond.code yJx4a65c_grow_d5877 cJx4a65c_grow_d5877 1 (some (.array (.object "java/lang/Object"))), Cond.methodLink RJx4a65c 69 yJx4a65c_grow_92f84, Cond.instanceMethod yJx4a65c_grow_92f84, Cond.selects RJx4a65c yJx4a65c_grow_92f84 yJx4a65c_grow_92f84, Cond.code yJx4a65c_grow_92f84 cJx4a65c_grow_92f84 4 (some (.array (.object "java/lang/Object"))), Cond.fieldLink RJx4a65c 9 "java/util/ArrayList" "elementData" "[Ljava/lang/Object;", Cond.fieldLink RJx4a65c 39 "java/util/ArrayList" "DEFAULTCAPACITY_EMPTY_ELEMENTDATA" "[Ljava/lang/Object;", Cond.methodLink RJx4a65c 79 Lib.Math.max.name, Cond.static Lib.Math.max.name, Cond.initialized "java/lang/Math", Cond.code Lib.Math.max.name Lib.Math.max.code 2 (some .int), Cond.classLink RJx4a65c 7 "java/lang/Object", Cond.methodLink RJx4a65c 73 yJ8_newLength_cabcc, Cond.static yJ8_newLength_cabcc, Cond.initialized RJ8, Cond.code yJ8_newLength_cabcc cJ8_newLength_cabcc 4 (some .int), Cond.methodLink RJ8 194 Lib.Math.max.name, Cond.constant RJ8 200 (2147483639), Cond.methodLink RJ8 201 yJ8_hugeLength_7cf53]
def wsJx4a65c_add_72be8_r2 : List Cond := [Cond.static yJ8_hugeLength_7cf53, Cond.code yJ8_hugeLength_7cf53 cJ8_hugeLength_7cf53 3 (some .int), Cond.methodLink RJx4a65c 66 yJ7_copyOf_1904c, Cond.static yJ7_copyOf_1904c, Cond.initialized RJ7, Cond.code yJ7_copyOf_1904c cJ7_copyOf_1904c 2 (some (.array (.object "java/lang/Object"))), Cond.methodLink RJ7 86 ⟨"java/lang/Object", "getClass", "()Ljava/lang/Class;"⟩, Cond.selects "[Ljava/lang/Object;" ⟨"java/lang/Object", "getClass", "()Ljava/lang/Class;"⟩ ⟨"java/lang/Object", "getClass", "()Ljava/lang/Class;"⟩, Cond.instanceMethod ⟨"java/lang/Object", "getClass", "()Ljava/lang/Class;"⟩, Cond.native ⟨"java/lang/Object", "getClass", "()Ljava/lang/Class;"⟩, Cond.methodLink RJ7 300 yJ7_copyOf_6403c, Cond.static yJ7_copyOf_6403c, Cond.code yJ7_copyOf_6403c cJ7_copyOf_6403c 4 (some (.array (.object "java/lang/Object"))), Cond.classLink RJ7 110 "[Ljava/lang/Object;", Cond.classLink RJ7 2 "java/lang/Object", Cond.methodLink RJ7 304 Lib.Math.min.name, Cond.static Lib.Math.min.name, Cond.code Lib.Math.min.name Lib.Math.min.code 2 (some .int), Cond.methodLink RJ7 150 arraycopyName, Cond.native arraycopyName, Cond.static arraycopyName, Cond.initialized "java/lang/System"]
def wsJx4a65c_add_72be8 : List Cond := .code yJx4a65c_add_72be8 cJx4a65c_add_72be8 4 none :: ((wsJx4a65c_add_72be8_r1 ++ wsJx4a65c_add_72be8_r2) ++ wsJx4a65c0)
def wsJx4a65c_add_9ea2d_r1 : List Cond := [Cond.fieldLink RJx4a65c 63 "java/util/ArrayList" "modCount" "I", Cond.sameField "java/util/ArrayList" "java/util/AbstractList" "modCount" "I", Cond.fieldLink RJx4a65c 9 "java/util/ArrayList" "elementData" "[Ljava/lang/Object;", Cond.fieldLink RJx4a65c 48 "java/util/ArrayList" "size" "I", Cond.methodLink RJx4a65c 131 yJx4a65c_add_72be8, Cond.instanceMethod yJx4a65c_add_72be8, Cond.selects RJx4a65c yJx4a65c_add_72be8 yJx4a65c_add_72be8, Cond.initialized RJx4a65c, Cond.code yJx4a65c_add_72be8 cJx4a65c_add_72be8 4 none, Cond.methodLink RJx4a65c 129 yJx4a65c_grow_d5877, Cond.instanceMethod yJx4a65c_grow_d5877, Cond.selects RJx4a65c yJx4a65c_grow_d5877 yJx4a65c_grow_d5877, Cond.code yJx4a65c_grow_d5877 cJx4a65c_grow_d5877 1 (some (.array (.object "java/lang/Object"))), Cond.methodLink RJx4a65c 69 yJx4a65c_grow_92f84, Cond.instanceMethod yJx4a65c_grow_92f84, Cond.selects RJx4a65c yJx4a65c_grow_92f84 yJx4a65c_grow_92f84, Cond.code yJx4a65c_grow_92f84 cJx4a65c_grow_92f84 4 (some (.array (.object "java/lang/Object"))), Cond.fieldLink RJx4a65c 39 "java/util/ArrayList" "DEFAULTCAPACITY_EMPTY_ELEMENTDATA" "[Ljava/lang/Object;", Cond.methodLink RJx4a65c 79 Lib.Math.max.name, Cond.static Lib.Math.max.name, Cond.initialized "java/lang/Math", Cond.code Lib.Math.max.name Lib.Math.max.code 2 (some .int), Cond.classLink RJx4a65c 7 "java/lang/Object", Cond.methodLink RJx4a65c 73 yJ8_newLength_cabcc]
def wsJx4a65c_add_9ea2d_r2 : List Cond := [Cond.static yJ8_newLength_cabcc, Cond.initialized RJ8, Cond.code yJ8_newLength_cabcc cJ8_newLength_cabcc 4 (some .int), Cond.methodLink RJ8 194 Lib.Math.max.name, Cond.constant RJ8 200 (2147483639), Cond.methodLink RJ8 201 yJ8_hugeLength_7cf53, Cond.static yJ8_hugeLength_7cf53, Cond.code yJ8_hugeLength_7cf53 cJ8_hugeLength_7cf53 3 (some .int), Cond.methodLink RJx4a65c 66 yJ7_copyOf_1904c, Cond.static yJ7_copyOf_1904c, Cond.initialized RJ7, Cond.code yJ7_copyOf_1904c cJ7_copyOf_1904c 2 (some (.array (.object "java/lang/Object"))), Cond.methodLink RJ7 86 ⟨"java/lang/Object", "getClass", "()Ljava/lang/Class;"⟩, Cond.selects "[Ljava/lang/Object;" ⟨"java/lang/Object", "getClass", "()Ljava/lang/Class;"⟩ ⟨"java/lang/Object", "getClass", "()Ljava/lang/Class;"⟩, Cond.instanceMethod ⟨"java/lang/Object", "getClass", "()Ljava/lang/Class;"⟩, Cond.native ⟨"java/lang/Object", "getClass", "()Ljava/lang/Class;"⟩, Cond.methodLink RJ7 300 yJ7_copyOf_6403c, Cond.static yJ7_copyOf_6403c, Cond.code yJ7_copyOf_6403c cJ7_copyOf_6403c 4 (some (.array (.object "java/lang/Object"))), Cond.classLink RJ7 110 "[Ljava/lang/Object;", Cond.classLink RJ7 2 "java/lang/Object", Cond.methodLink RJ7 304 Lib.Math.min.name, Cond.static Lib.Math.min.name, Cond.code Lib.Math.min.name Lib.Math.min.code 2 (some .int)]
def wsJx4a65c_add_9ea2d_r3 : List Cond := [Cond.methodLink RJ7 150 arraycopyName, Cond.native arraycopyName, Cond.static arraycopyName, Cond.initialized "java/lang/System"]
def wsJx4a65c_add_9ea2d : List Cond := .code yJx4a65c_add_9ea2d cJx4a65c_add_9ea2d 2 (some .boolean) :: ((wsJx4a65c_add_9ea2d_r1 ++ (wsJx4a65c_add_9ea2d_r2 ++ wsJx4a65c_add_9ea2d_r3)) ++ wsJx4a65c0)
def wsX5_putLast_r1 : List Cond := [Cond.fieldLink RX5 12 "QuayMesh$Worker" "waiting" "Ljava/util/ArrayList;", Cond.methodLink RX5 47 ⟨"QuayMesh$Worker", "takeOut", "(LQuayMesh$Message;)V"⟩, Cond.sameMethod "QuayMesh$Worker" "QuayMesh$Worker" "takeOut" "(LQuayMesh$Message;)V", Cond.selects RX1 ⟨"QuayMesh$Worker", "takeOut", "(LQuayMesh$Message;)V"⟩ yX5_takeOut, Cond.instanceMethod yX5_takeOut, Cond.initialized RX5, Cond.code yX5_takeOut cX5_takeOut 3 none, Cond.static yX6_indexOf, Cond.initialized RX6, Cond.code yX6_indexOf cX6_indexOf 3 (some .int), Cond.methodLink RX6 62 yJx4a65c_size_8abf5, Cond.instanceMethod yJx4a65c_size_8abf5, Cond.selects RJx4a65c yJx4a65c_size_8abf5 yJx4a65c_size_8abf5, Cond.initialized RJx4a65c, Cond.code yJx4a65c_size_8abf5 cJx4a65c_size_8abf5 1 (some .int), Cond.fieldLink RJx4a65c 48 "java/util/ArrayList" "size" "I", Cond.methodLink RX6 97 yJx4a65c_get_915e3, Cond.instanceMethod yJx4a65c_get_915e3, Cond.selects RJx4a65c yJx4a65c_get_915e3 yJx4a65c_get_915e3, Cond.code yJx4a65c_get_915e3 cJx4a65c_get_915e3 2 (some (.object "java/lang/Object")), Cond.methodLink RJx4a65c 118 yJ15_checkIndex_7cf53, Cond.static yJ15_checkIndex_7cf53, Cond.initialized RJ15, Cond.code yJ15_checkIndex_7cf53 cJ15_checkIndex_7cf53 2 (some .int)]
def wsX5_putLast_r2 : List Cond := [Cond.methodLink RJ15 105 yJ3_checkIndex_8e157, Cond.static yJ3_checkIndex_8e157, Cond.initialized RJ3, Cond.code yJ3_checkIndex_8e157 cJ3_checkIndex_8e157 3 (some .int), Cond.methodLink RJx4a65c 123 yJx4a65c_elementData_915e3, Cond.instanceMethod yJx4a65c_elementData_915e3, Cond.selects RJx4a65c yJx4a65c_elementData_915e3 yJx4a65c_elementData_915e3, Cond.code yJx4a65c_elementData_915e3 cJx4a65c_elementData_915e3 2 (some (.object "java/lang/Object")), Cond.fieldLink RJx4a65c 9 "java/util/ArrayList" "elementData" "[Ljava/lang/Object;", Cond.methodLink RX5 43 yJx4a65c_remove_915e3, Cond.instanceMethod yJx4a65c_remove_915e3, Cond.selects RJx4a65c yJx4a65c_remove_915e3 yJx4a65c_remove_915e3, Cond.code yJx4a65c_remove_915e3 cJx4a65c_remove_915e3 4 (some (.object "java/lang/Object")), Cond.methodLink RJx4a65c 144 yJx4a65c_fastRemove_b59b0, Cond.instanceMethod yJx4a65c_fastRemove_b59b0, Cond.selects RJx4a65c yJx4a65c_fastRemove_b59b0 yJx4a65c_fastRemove_b59b0, Cond.code yJx4a65c_fastRemove_b59b0 cJx4a65c_fastRemove_b59b0 4 none, Cond.fieldLink RJx4a65c 63 "java/util/ArrayList" "modCount" "I", Cond.sameField "java/util/ArrayList" "java/util/AbstractList" "modCount" "I", Cond.methodLink RJx4a65c 112 arraycopyName, Cond.native arraycopyName, Cond.static arraycopyName, Cond.initialized "java/lang/System", Cond.selects RX4 ⟨"QuayMesh$Worker", "takeOut", "(LQuayMesh$Message;)V"⟩ yX5_takeOut]
def wsX5_putLast_r3 : List Cond := [Cond.methodLink RX5 51 yJx4a65c_add_9ea2d, Cond.instanceMethod yJx4a65c_add_9ea2d, Cond.selects RJx4a65c yJx4a65c_add_9ea2d yJx4a65c_add_9ea2d, Cond.code yJx4a65c_add_9ea2d cJx4a65c_add_9ea2d 2 (some .boolean), Cond.methodLink RJx4a65c 131 yJx4a65c_add_72be8, Cond.instanceMethod yJx4a65c_add_72be8, Cond.selects RJx4a65c yJx4a65c_add_72be8 yJx4a65c_add_72be8, Cond.code yJx4a65c_add_72be8 cJx4a65c_add_72be8 4 none, Cond.methodLink RJx4a65c 129 yJx4a65c_grow_d5877, Cond.instanceMethod yJx4a65c_grow_d5877, Cond.selects RJx4a65c yJx4a65c_grow_d5877 yJx4a65c_grow_d5877, Cond.code yJx4a65c_grow_d5877 cJx4a65c_grow_d5877 1 (some (.array (.object "java/lang/Object"))), Cond.methodLink RJx4a65c 69 yJx4a65c_grow_92f84, Cond.instanceMethod yJx4a65c_grow_92f84, Cond.selects RJx4a65c yJx4a65c_grow_92f84 yJx4a65c_grow_92f84, Cond.code yJx4a65c_grow_92f84 cJx4a65c_grow_92f84 4 (some (.array (.object "java/lang/Object"))), Cond.fieldLink RJx4a65c 39 "java/util/ArrayList" "DEFAULTCAPACITY_EMPTY_ELEMENTDATA" "[Ljava/lang/Object;", Cond.methodLink RJx4a65c 79 Lib.Math.max.name, Cond.static Lib.Math.max.name, Cond.initialized "java/lang/Math", Cond.code Lib.Math.max.name Lib.Math.max.code 2 (some .int), Cond.classLink RJx4a65c 7 "java/lang/Object", Cond.methodLink RJx4a65c 73 yJ8_newLength_cabcc, Cond.static yJ8_newLength_cabcc]
def wsX5_putLast_r4 : List Cond := [Cond.initialized RJ8, Cond.code yJ8_newLength_cabcc cJ8_newLength_cabcc 4 (some .int), Cond.methodLink RJ8 194 Lib.Math.max.name, Cond.constant RJ8 200 (2147483639), Cond.methodLink RJ8 201 yJ8_hugeLength_7cf53, Cond.static yJ8_hugeLength_7cf53, Cond.code yJ8_hugeLength_7cf53 cJ8_hugeLength_7cf53 3 (some .int), Cond.methodLink RJx4a65c 66 yJ7_copyOf_1904c, Cond.static yJ7_copyOf_1904c, Cond.initialized RJ7, Cond.code yJ7_copyOf_1904c cJ7_copyOf_1904c 2 (some (.array (.object "java/lang/Object"))), Cond.methodLink RJ7 86 ⟨"java/lang/Object", "getClass", "()Ljava/lang/Class;"⟩, Cond.selects "[Ljava/lang/Object;" ⟨"java/lang/Object", "getClass", "()Ljava/lang/Class;"⟩ ⟨"java/lang/Object", "getClass", "()Ljava/lang/Class;"⟩, Cond.instanceMethod ⟨"java/lang/Object", "getClass", "()Ljava/lang/Class;"⟩, Cond.native ⟨"java/lang/Object", "getClass", "()Ljava/lang/Class;"⟩, Cond.methodLink RJ7 300 yJ7_copyOf_6403c, Cond.static yJ7_copyOf_6403c, Cond.code yJ7_copyOf_6403c cJ7_copyOf_6403c 4 (some (.array (.object "java/lang/Object"))), Cond.classLink RJ7 110 "[Ljava/lang/Object;", Cond.classLink RJ7 2 "java/lang/Object", Cond.methodLink RJ7 304 Lib.Math.min.name, Cond.static Lib.Math.min.name, Cond.code Lib.Math.min.name Lib.Math.min.code 2 (some .int), Cond.methodLink RJ7 150 arraycopyName]
def wsX5_putLast : List Cond := .code yX5_putLast cX5_putLast 2 none :: ((wsX5_putLast_r1 ++ (wsX5_putLast_r2 ++ (wsX5_putLast_r3 ++ wsX5_putLast_r4))) ++ wsX10 ++ wsX40 ++ wsJx4a65c0)
def wsX6_init_r1 : List Cond := [Cond.methodLink RX6 3 objectInit, Cond.instanceMethod objectInit, Cond.code objectInit ⟨#[0xb1]⟩ 1 none, Cond.classLink RX6 9 RJx4a65c, Cond.instantiable RJx4a65c 3, Cond.initialized RJx4a65c, Cond.fieldLink RX6 12 "QuayMesh" "allShips" "Ljava/util/ArrayList;", Cond.fieldLink RX6 16 "QuayMesh" "allBoxes" "Ljava/util/ArrayList;", Cond.fieldLink RX6 19 "QuayMesh" "allMessages" "Ljava/util/ArrayList;", Cond.fieldLink RX6 22 "QuayMesh" "log" "Ljava/util/ArrayList;", Cond.fieldLink RX6 25 "QuayMesh" "cranes" "Ljava/util/ArrayList;", Cond.fieldLink RX6 28 "QuayMesh" "trucks" "Ljava/util/ArrayList;", Cond.fieldLink RX6 31 "QuayMesh" "now" "I", Cond.fieldLink RX6 35 "QuayMesh" "movesMade" "I", Cond.classLink RX6 38 RX1, Cond.instantiable RX1 8, Cond.initialized RX1, Cond.classLink RX6 47 RX4, Cond.instantiable RX4 8, Cond.initialized RX4, Cond.methodLink RX6 11 yJx4a65c_init_da8c8, Cond.instanceMethod yJx4a65c_init_da8c8, Cond.code yJx4a65c_init_da8c8 cJx4a65c_init_da8c8 1 none, Cond.fieldLink RJx4a65c 39 "java/util/ArrayList" "DEFAULTCAPACITY_EMPTY_ELEMENTDATA" "[Ljava/lang/Object;"]
def wsX6_init_r2 : List Cond := [Cond.fieldLink RJx4a65c 9 "java/util/ArrayList" "elementData" "[Ljava/lang/Object;", Cond.methodLink RJx4a65c 1 yJxc12de_init_da8c8, Cond.instanceMethod yJxc12de_init_da8c8, Cond.initialized RJxc12de, Cond.code yJxc12de_init_da8c8 cJxc12de_init_da8c8 1 none, Cond.fieldLink RJxc12de 7 "java/util/AbstractList" "modCount" "I", Cond.methodLink RJxc12de 1 yJxa1e45_init_da8c8, Cond.instanceMethod yJxa1e45_init_da8c8, Cond.initialized RJxa1e45, Cond.code yJxa1e45_init_da8c8 cJxa1e45_init_da8c8 1 none, Cond.methodLink RJxa1e45 1 objectInit, Cond.methodLink RX6 40 yX1_init, Cond.instanceMethod yX1_init, Cond.code yX1_init cX1_init 3 none, Cond.fieldLink RX1 7 "QuayMesh$Crane" "place" "I", Cond.methodLink RX1 1 yX5_init, Cond.instanceMethod yX5_init, Cond.initialized RX5, Cond.code yX5_init cX5_init 2 none, Cond.methodLink RX5 3 objectInit, Cond.classLink RX5 9 RJx4a65c, Cond.fieldLink RX5 12 "QuayMesh$Worker" "waiting" "Ljava/util/ArrayList;", Cond.fieldLink RX5 18 "QuayMesh$Worker" "remembered" "Ljava/util/ArrayList;", Cond.fieldLink RX5 21 "QuayMesh$Worker" "lossesOfMessages" "I"]
def wsX6_init_r3 : List Cond := [Cond.fieldLink RX5 25 "QuayMesh$Worker" "lossesOfAcks" "I", Cond.fieldLink RX5 28 "QuayMesh$Worker" "isSilent" "Z", Cond.fieldLink RX5 32 "QuayMesh$Worker" "lastAcknowledged" "LQuayMesh$Message;", Cond.fieldLink RX5 36 "QuayMesh$Worker" "number" "I", Cond.methodLink RX5 11 yJx4a65c_init_da8c8, Cond.methodLink RX6 43 yJx4a65c_add_9ea2d, Cond.instanceMethod yJx4a65c_add_9ea2d, Cond.selects RJx4a65c yJx4a65c_add_9ea2d yJx4a65c_add_9ea2d, Cond.code yJx4a65c_add_9ea2d cJx4a65c_add_9ea2d 2 (some .boolean), Cond.fieldLink RJx4a65c 63 "java/util/ArrayList" "modCount" "I", Cond.sameField "java/util/ArrayList" "java/util/AbstractList" "modCount" "I", Cond.fieldLink RJx4a65c 48 "java/util/ArrayList" "size" "I", Cond.methodLink RJx4a65c 131 yJx4a65c_add_72be8, Cond.instanceMethod yJx4a65c_add_72be8, Cond.selects RJx4a65c yJx4a65c_add_72be8 yJx4a65c_add_72be8, Cond.code yJx4a65c_add_72be8 cJx4a65c_add_72be8 4 none, Cond.methodLink RJx4a65c 129 yJx4a65c_grow_d5877, Cond.instanceMethod yJx4a65c_grow_d5877, Cond.selects RJx4a65c yJx4a65c_grow_d5877 yJx4a65c_grow_d5877, Cond.code yJx4a65c_grow_d5877 cJx4a65c_grow_d5877 1 (some (.array (.object "java/lang/Object"))), Cond.methodLink RJx4a65c 69 yJx4a65c_grow_92f84, Cond.instanceMethod yJx4a65c_grow_92f84, Cond.selects RJx4a65c yJx4a65c_grow_92f84 yJx4a65c_grow_92f84, Cond.code yJx4a65c_grow_92f84 cJx4a65c_grow_92f84 4 (some (.array (.object "java/lang/Object")))]
def wsX6_init_r4 : List Cond := [Cond.methodLink RJx4a65c 79 Lib.Math.max.name, Cond.static Lib.Math.max.name, Cond.initialized "java/lang/Math", Cond.code Lib.Math.max.name Lib.Math.max.code 2 (some .int), Cond.classLink RJx4a65c 7 "java/lang/Object", Cond.methodLink RJx4a65c 73 yJ8_newLength_cabcc, Cond.static yJ8_newLength_cabcc, Cond.initialized RJ8, Cond.code yJ8_newLength_cabcc cJ8_newLength_cabcc 4 (some .int), Cond.methodLink RJ8 194 Lib.Math.max.name, Cond.constant RJ8 200 (2147483639), Cond.methodLink RJ8 201 yJ8_hugeLength_7cf53, Cond.static yJ8_hugeLength_7cf53, Cond.code yJ8_hugeLength_7cf53 cJ8_hugeLength_7cf53 3 (some .int), Cond.methodLink RJx4a65c 66 yJ7_copyOf_1904c, Cond.static yJ7_copyOf_1904c, Cond.initialized RJ7, Cond.code yJ7_copyOf_1904c cJ7_copyOf_1904c 2 (some (.array (.object "java/lang/Object"))), Cond.methodLink RJ7 86 ⟨"java/lang/Object", "getClass", "()Ljava/lang/Class;"⟩, Cond.selects "[Ljava/lang/Object;" ⟨"java/lang/Object", "getClass", "()Ljava/lang/Class;"⟩ ⟨"java/lang/Object", "getClass", "()Ljava/lang/Class;"⟩, Cond.instanceMethod ⟨"java/lang/Object", "getClass", "()Ljava/lang/Class;"⟩, Cond.native ⟨"java/lang/Object", "getClass", "()Ljava/lang/Class;"⟩, Cond.methodLink RJ7 300 yJ7_copyOf_6403c, Cond.static yJ7_copyOf_6403c]
def wsX6_init_r5 : List Cond := [Cond.code yJ7_copyOf_6403c cJ7_copyOf_6403c 4 (some (.array (.object "java/lang/Object"))), Cond.classLink RJ7 110 "[Ljava/lang/Object;", Cond.classLink RJ7 2 "java/lang/Object", Cond.methodLink RJ7 304 Lib.Math.min.name, Cond.static Lib.Math.min.name, Cond.code Lib.Math.min.name Lib.Math.min.code 2 (some .int), Cond.methodLink RJ7 150 arraycopyName, Cond.native arraycopyName, Cond.static arraycopyName, Cond.initialized "java/lang/System", Cond.methodLink RX6 49 yX4_init, Cond.instanceMethod yX4_init, Cond.code yX4_init cX4_init 2 none, Cond.fieldLink RX4 7 "QuayMesh$Truck" "lastSeen" "LQuayMesh$Message;", Cond.methodLink RX4 1 yX5_init]
def wsX6_init : List Cond := .code yX6_init cX6_init 2 none :: ((wsX6_init_r1 ++ (wsX6_init_r2 ++ (wsX6_init_r3 ++ (wsX6_init_r4 ++ wsX6_init_r5)))) ++ wsJx4a65c0 ++ wsX60 ++ wsX10 ++ wsX40)
def wsX6_requireOneOf : List Cond := .code yX6_requireOneOf cX6_requireOneOf 2 none :: ([.classLink RX6 127 "java/lang/IndexOutOfBoundsException", .initialized "java/lang/IndexOutOfBoundsException"] ++ (vx_atS RX6 131 "java/lang/IndexOutOfBoundsException" ["java/lang/RuntimeException", "java/lang/Exception"]).filter goodWord)
def wsX6_isTaken_r1 : List Cond := [Cond.fieldLink RX6 12 "QuayMesh" "allShips" "Ljava/util/ArrayList;", Cond.classLink RX6 75 "QuayMesh$Ship", Cond.fieldLink RX6 110 "QuayMesh$Ship" "hasLeft" "Z", Cond.fieldLink RX6 82 "QuayMesh$Ship" "begin" "I", Cond.fieldLink RX6 85 "QuayMesh$Ship" "end" "I", Cond.methodLink RX6 62 yJx4a65c_size_8abf5, Cond.instanceMethod yJx4a65c_size_8abf5, Cond.selects RJx4a65c yJx4a65c_size_8abf5 yJx4a65c_size_8abf5, Cond.initialized RJx4a65c, Cond.code yJx4a65c_size_8abf5 cJx4a65c_size_8abf5 1 (some .int), Cond.fieldLink RJx4a65c 48 "java/util/ArrayList" "size" "I", Cond.methodLink RX6 97 yJx4a65c_get_915e3, Cond.instanceMethod yJx4a65c_get_915e3, Cond.selects RJx4a65c yJx4a65c_get_915e3 yJx4a65c_get_915e3, Cond.code yJx4a65c_get_915e3 cJx4a65c_get_915e3 2 (some (.object "java/lang/Object")), Cond.methodLink RJx4a65c 118 yJ15_checkIndex_7cf53, Cond.static yJ15_checkIndex_7cf53, Cond.initialized RJ15, Cond.code yJ15_checkIndex_7cf53 cJ15_checkIndex_7cf53 2 (some .int), Cond.methodLink RJ15 105 yJ3_checkIndex_8e157, Cond.static yJ3_checkIndex_8e157, Cond.initialized RJ3, Cond.code yJ3_checkIndex_8e157 cJ3_checkIndex_8e157 3 (some .int), Cond.methodLink RJx4a65c 123 yJx4a65c_elementData_915e3]
def wsX6_isTaken_r2 : List Cond := [Cond.instanceMethod yJx4a65c_elementData_915e3, Cond.selects RJx4a65c yJx4a65c_elementData_915e3 yJx4a65c_elementData_915e3, Cond.code yJx4a65c_elementData_915e3 cJx4a65c_elementData_915e3 2 (some (.object "java/lang/Object")), Cond.fieldLink RJx4a65c 9 "java/util/ArrayList" "elementData" "[Ljava/lang/Object;"]
def wsX6_isTaken : List Cond := .code yX6_isTaken cX6_isTaken 5 (some .boolean) :: ((wsX6_isTaken_r1 ++ wsX6_isTaken_r2) ++ wsX60 ++ wsX30 ++ wsJx4a65c0)
def wsX6_berth_r1 : List Cond := [Cond.classLink RX6 55 "java/lang/IllegalArgumentException", Cond.initialized "java/lang/IllegalArgumentException", Cond.classLink RX6 70 "java/lang/IllegalStateException", Cond.initialized "java/lang/IllegalStateException", Cond.fieldLink RX6 12 "QuayMesh" "allShips" "Ljava/util/ArrayList;", Cond.classLink RX6 75 RX3, Cond.instantiable RX3 3, Cond.initialized RX3, Cond.methodLink RX6 52 yX6_requireOneOf, Cond.static yX6_requireOneOf, Cond.initialized RX6, Cond.code yX6_requireOneOf cX6_requireOneOf 2 none, Cond.classLink RX6 127 "java/lang/IndexOutOfBoundsException", Cond.initialized "java/lang/IndexOutOfBoundsException", Cond.methodLink RX6 62 yJx4a65c_size_8abf5, Cond.instanceMethod yJx4a65c_size_8abf5, Cond.selects RJx4a65c yJx4a65c_size_8abf5 yJx4a65c_size_8abf5, Cond.initialized RJx4a65c, Cond.code yJx4a65c_size_8abf5 cJx4a65c_size_8abf5 1 (some .int), Cond.fieldLink RJx4a65c 48 "java/util/ArrayList" "size" "I", Cond.methodLink RX6 66 yX6_isTaken, Cond.instanceMethod yX6_isTaken, Cond.selects RX6 yX6_isTaken yX6_isTaken, Cond.code yX6_isTaken cX6_isTaken 5 (some .boolean)]
def wsX6_berth_r2 : List Cond := [Cond.classLink RX6 75 "QuayMesh$Ship", Cond.fieldLink RX6 110 "QuayMesh$Ship" "hasLeft" "Z", Cond.fieldLink RX6 82 "QuayMesh$Ship" "begin" "I", Cond.fieldLink RX6 85 "QuayMesh$Ship" "end" "I", Cond.methodLink RX6 97 yJx4a65c_get_915e3, Cond.instanceMethod yJx4a65c_get_915e3, Cond.selects RJx4a65c yJx4a65c_get_915e3 yJx4a65c_get_915e3, Cond.code yJx4a65c_get_915e3 cJx4a65c_get_915e3 2 (some (.object "java/lang/Object")), Cond.methodLink RJx4a65c 118 yJ15_checkIndex_7cf53, Cond.static yJ15_checkIndex_7cf53, Cond.initialized RJ15, Cond.code yJ15_checkIndex_7cf53 cJ15_checkIndex_7cf53 2 (some .int), Cond.methodLink RJ15 105 yJ3_checkIndex_8e157, Cond.static yJ3_checkIndex_8e157, Cond.initialized RJ3, Cond.code yJ3_checkIndex_8e157 cJ3_checkIndex_8e157 3 (some .int), Cond.methodLink RJx4a65c 123 yJx4a65c_elementData_915e3, Cond.instanceMethod yJx4a65c_elementData_915e3, Cond.selects RJx4a65c yJx4a65c_elementData_915e3 yJx4a65c_elementData_915e3, Cond.code yJx4a65c_elementData_915e3 cJx4a65c_elementData_915e3 2 (some (.object "java/lang/Object")), Cond.fieldLink RJx4a65c 9 "java/util/ArrayList" "elementData" "[Ljava/lang/Object;", Cond.methodLink RX6 77 yX3_init, Cond.instanceMethod yX3_init, Cond.code yX3_init cX3_init 3 none]
def wsX6_berth_r3 : List Cond := [Cond.methodLink RX3 1 objectInit, Cond.instanceMethod objectInit, Cond.code objectInit ⟨#[0xb1]⟩ 1 none, Cond.fieldLink RX3 7 "QuayMesh$Ship" "hasLeft" "Z", Cond.fieldLink RX3 13 "QuayMesh$Ship" "begin" "I", Cond.fieldLink RX3 17 "QuayMesh$Ship" "end" "I", Cond.methodLink RX6 43 yJx4a65c_add_9ea2d, Cond.instanceMethod yJx4a65c_add_9ea2d, Cond.selects RJx4a65c yJx4a65c_add_9ea2d yJx4a65c_add_9ea2d, Cond.code yJx4a65c_add_9ea2d cJx4a65c_add_9ea2d 2 (some .boolean), Cond.fieldLink RJx4a65c 63 "java/util/ArrayList" "modCount" "I", Cond.sameField "java/util/ArrayList" "java/util/AbstractList" "modCount" "I", Cond.methodLink RJx4a65c 131 yJx4a65c_add_72be8, Cond.instanceMethod yJx4a65c_add_72be8, Cond.selects RJx4a65c yJx4a65c_add_72be8 yJx4a65c_add_72be8, Cond.code yJx4a65c_add_72be8 cJx4a65c_add_72be8 4 none, Cond.methodLink RJx4a65c 129 yJx4a65c_grow_d5877, Cond.instanceMethod yJx4a65c_grow_d5877, Cond.selects RJx4a65c yJx4a65c_grow_d5877 yJx4a65c_grow_d5877, Cond.code yJx4a65c_grow_d5877 cJx4a65c_grow_d5877 1 (some (.array (.object "java/lang/Object"))), Cond.methodLink RJx4a65c 69 yJx4a65c_grow_92f84, Cond.instanceMethod yJx4a65c_grow_92f84, Cond.selects RJx4a65c yJx4a65c_grow_92f84 yJx4a65c_grow_92f84, Cond.code yJx4a65c_grow_92f84 cJx4a65c_grow_92f84 4 (some (.array (.object "java/lang/Object")))]
def wsX6_berth_r4 : List Cond := [Cond.fieldLink RJx4a65c 39 "java/util/ArrayList" "DEFAULTCAPACITY_EMPTY_ELEMENTDATA" "[Ljava/lang/Object;", Cond.methodLink RJx4a65c 79 Lib.Math.max.name, Cond.static Lib.Math.max.name, Cond.initialized "java/lang/Math", Cond.code Lib.Math.max.name Lib.Math.max.code 2 (some .int), Cond.classLink RJx4a65c 7 "java/lang/Object", Cond.methodLink RJx4a65c 73 yJ8_newLength_cabcc, Cond.static yJ8_newLength_cabcc, Cond.initialized RJ8, Cond.code yJ8_newLength_cabcc cJ8_newLength_cabcc 4 (some .int), Cond.methodLink RJ8 194 Lib.Math.max.name, Cond.constant RJ8 200 (2147483639), Cond.methodLink RJ8 201 yJ8_hugeLength_7cf53, Cond.static yJ8_hugeLength_7cf53, Cond.code yJ8_hugeLength_7cf53 cJ8_hugeLength_7cf53 3 (some .int), Cond.methodLink RJx4a65c 66 yJ7_copyOf_1904c, Cond.static yJ7_copyOf_1904c, Cond.initialized RJ7, Cond.code yJ7_copyOf_1904c cJ7_copyOf_1904c 2 (some (.array (.object "java/lang/Object"))), Cond.methodLink RJ7 86 ⟨"java/lang/Object", "getClass", "()Ljava/lang/Class;"⟩, Cond.selects "[Ljava/lang/Object;" ⟨"java/lang/Object", "getClass", "()Ljava/lang/Class;"⟩ ⟨"java/lang/Object", "getClass", "()Ljava/lang/Class;"⟩, Cond.instanceMethod ⟨"java/lang/Object", "getClass", "()Ljava/lang/Class;"⟩, Cond.native ⟨"java/lang/Object", "getClass", "()Ljava/lang/Class;"⟩, Cond.methodLink RJ7 300 yJ7_copyOf_6403c]
def wsX6_berth_r5 : List Cond := [Cond.static yJ7_copyOf_6403c, Cond.code yJ7_copyOf_6403c cJ7_copyOf_6403c 4 (some (.array (.object "java/lang/Object"))), Cond.classLink RJ7 110 "[Ljava/lang/Object;", Cond.classLink RJ7 2 "java/lang/Object", Cond.methodLink RJ7 304 Lib.Math.min.name, Cond.static Lib.Math.min.name, Cond.code Lib.Math.min.name Lib.Math.min.code 2 (some .int), Cond.methodLink RJ7 150 arraycopyName, Cond.native arraycopyName, Cond.static arraycopyName, Cond.initialized "java/lang/System"]
def wsX6_berth : List Cond := .code yX6_berth cX6_berth 3 (some .int) :: ((wsX6_berth_r1 ++ (wsX6_berth_r2 ++ (wsX6_berth_r3 ++ (wsX6_berth_r4 ++ wsX6_berth_r5)))) ++ wsX60 ++ wsX30 ++ wsJx4a65c0 ++ (vx_atS RX6 59 "java/lang/IllegalArgumentException" ["java/lang/RuntimeException", "java/lang/Exception"]).filter goodWord ++ (vx_atS RX6 74 "java/lang/IllegalStateException" ["java/lang/RuntimeException", "java/lang/Exception"]).filter goodWord ++ (vx_atS RX6 131 "java/lang/IndexOutOfBoundsException" ["java/lang/RuntimeException", "java/lang/Exception"]).filter goodWord)
def wsX6_shipNumbered_r1 : List Cond := [Cond.classLink RX6 127 "java/lang/IndexOutOfBoundsException", Cond.initialized "java/lang/IndexOutOfBoundsException", Cond.fieldLink RX6 12 "QuayMesh" "allShips" "Ljava/util/ArrayList;", Cond.classLink RX6 75 "QuayMesh$Ship", Cond.fieldLink RX6 110 "QuayMesh$Ship" "hasLeft" "Z", Cond.methodLink RX6 62 yJx4a65c_size_8abf5, Cond.instanceMethod yJx4a65c_size_8abf5, Cond.selects RJx4a65c yJx4a65c_size_8abf5 yJx4a65c_size_8abf5, Cond.initialized RJx4a65c, Cond.code yJx4a65c_size_8abf5 cJx4a65c_size_8abf5 1 (some .int), Cond.fieldLink RJx4a65c 48 "java/util/ArrayList" "size" "I", Cond.methodLink RX6 52 yX6_requireOneOf, Cond.static yX6_requireOneOf, Cond.initialized RX6, Cond.code yX6_requireOneOf cX6_requireOneOf 2 none, Cond.methodLink RX6 97 yJx4a65c_get_915e3, Cond.instanceMethod yJx4a65c_get_915e3, Cond.selects RJx4a65c yJx4a65c_get_915e3 yJx4a65c_get_915e3, Cond.code yJx4a65c_get_915e3 cJx4a65c_get_915e3 2 (some (.object "java/lang/Object")), Cond.methodLink RJx4a65c 118 yJ15_checkIndex_7cf53, Cond.static yJ15_checkIndex_7cf53, Cond.initialized RJ15, Cond.code yJ15_checkIndex_7cf53 cJ15_checkIndex_7cf53 2 (some .int), Cond.methodLink RJ15 105 yJ3_checkIndex_8e157]
def wsX6_shipNumbered_r2 : List Cond := [Cond.static yJ3_checkIndex_8e157, Cond.initialized RJ3, Cond.code yJ3_checkIndex_8e157 cJ3_checkIndex_8e157 3 (some .int), Cond.methodLink RJx4a65c 123 yJx4a65c_elementData_915e3, Cond.instanceMethod yJx4a65c_elementData_915e3, Cond.selects RJx4a65c yJx4a65c_elementData_915e3 yJx4a65c_elementData_915e3, Cond.code yJx4a65c_elementData_915e3 cJx4a65c_elementData_915e3 2 (some (.object "java/lang/Object")), Cond.fieldLink RJx4a65c 9 "java/util/ArrayList" "elementData" "[Ljava/lang/Object;"]
def wsX6_shipNumbered : List Cond := .code yX6_shipNumbered cX6_shipNumbered 3 (some (.object "QuayMesh$Ship")) :: ((wsX6_shipNumbered_r1 ++ wsX6_shipNumbered_r2) ++ wsX60 ++ wsX30 ++ wsJx4a65c0 ++ (vx_atS RX6 131 "java/lang/IndexOutOfBoundsException" ["java/lang/RuntimeException", "java/lang/Exception"]).filter goodWord)
def wsX6_box_r1 : List Cond := [Cond.classLink RX6 55 "java/lang/IllegalArgumentException", Cond.initialized "java/lang/IllegalArgumentException", Cond.classLink RX6 70 "java/lang/IllegalStateException", Cond.initialized "java/lang/IllegalStateException", Cond.fieldLink RX6 82 "QuayMesh$Ship" "begin" "I", Cond.fieldLink RX6 85 "QuayMesh$Ship" "end" "I", Cond.fieldLink RX6 16 "QuayMesh" "allBoxes" "Ljava/util/ArrayList;", Cond.classLink RX6 92 RX0, Cond.instantiable RX0 8, Cond.initialized RX0, Cond.methodLink RX6 78 yX6_shipNumbered, Cond.instanceMethod yX6_shipNumbered, Cond.selects RX6 yX6_shipNumbered yX6_shipNumbered, Cond.initialized RX6, Cond.code yX6_shipNumbered cX6_shipNumbered 3 (some (.object "QuayMesh$Ship")), Cond.classLink RX6 127 "java/lang/IndexOutOfBoundsException", Cond.initialized "java/lang/IndexOutOfBoundsException", Cond.fieldLink RX6 12 "QuayMesh" "allShips" "Ljava/util/ArrayList;", Cond.classLink RX6 75 "QuayMesh$Ship", Cond.fieldLink RX6 110 "QuayMesh$Ship" "hasLeft" "Z", Cond.methodLink RX6 62 yJx4a65c_size_8abf5, Cond.instanceMethod yJx4a65c_size_8abf5, Cond.selects RJx4a65c yJx4a65c_size_8abf5 yJx4a65c_size_8abf5, Cond.initialized RJx4a65c]
def wsX6_box_r2 : List Cond := [Cond.code yJx4a65c_size_8abf5 cJx4a65c_size_8abf5 1 (some .int), Cond.fieldLink RJx4a65c 48 "java/util/ArrayList" "size" "I", Cond.methodLink RX6 52 yX6_requireOneOf, Cond.static yX6_requireOneOf, Cond.code yX6_requireOneOf cX6_requireOneOf 2 none, Cond.methodLink RX6 97 yJx4a65c_get_915e3, Cond.instanceMethod yJx4a65c_get_915e3, Cond.selects RJx4a65c yJx4a65c_get_915e3 yJx4a65c_get_915e3, Cond.code yJx4a65c_get_915e3 cJx4a65c_get_915e3 2 (some (.object "java/lang/Object")), Cond.methodLink RJx4a65c 118 yJ15_checkIndex_7cf53, Cond.static yJ15_checkIndex_7cf53, Cond.initialized RJ15, Cond.code yJ15_checkIndex_7cf53 cJ15_checkIndex_7cf53 2 (some .int), Cond.methodLink RJ15 105 yJ3_checkIndex_8e157, Cond.static yJ3_checkIndex_8e157, Cond.initialized RJ3, Cond.code yJ3_checkIndex_8e157 cJ3_checkIndex_8e157 3 (some .int), Cond.methodLink RJx4a65c 123 yJx4a65c_elementData_915e3, Cond.instanceMethod yJx4a65c_elementData_915e3, Cond.selects RJx4a65c yJx4a65c_elementData_915e3 yJx4a65c_elementData_915e3, Cond.code yJx4a65c_elementData_915e3 cJx4a65c_elementData_915e3 2 (some (.object "java/lang/Object")), Cond.fieldLink RJx4a65c 9 "java/util/ArrayList" "elementData" "[Ljava/lang/Object;", Cond.methodLink RX6 94 yX0_init, Cond.instanceMethod yX0_init]
def wsX6_box_r3 : List Cond := [Cond.code yX0_init cX0_init 3 none, Cond.methodLink RX0 3 objectInit, Cond.instanceMethod objectInit, Cond.code objectInit ⟨#[0xb1]⟩ 1 none, Cond.fieldLink RX0 9 "QuayMesh$Box" "where" "I", Cond.fieldLink RX0 15 "QuayMesh$Box" "level" "I", Cond.fieldLink RX0 18 "QuayMesh$Box" "lifter" "I", Cond.fieldLink RX0 21 "QuayMesh$Box" "bookedGate" "I", Cond.fieldLink RX0 24 "QuayMesh$Box" "bookedHour" "I", Cond.fieldLink RX0 27 "QuayMesh$Box" "ship" "LQuayMesh$Ship;", Cond.fieldLink RX0 31 "QuayMesh$Box" "place" "I", Cond.fieldLink RX0 34 "QuayMesh$Box" "spot" "I", Cond.methodLink RX6 43 yJx4a65c_add_9ea2d, Cond.instanceMethod yJx4a65c_add_9ea2d, Cond.selects RJx4a65c yJx4a65c_add_9ea2d yJx4a65c_add_9ea2d, Cond.code yJx4a65c_add_9ea2d cJx4a65c_add_9ea2d 2 (some .boolean), Cond.fieldLink RJx4a65c 63 "java/util/ArrayList" "modCount" "I", Cond.sameField "java/util/ArrayList" "java/util/AbstractList" "modCount" "I", Cond.methodLink RJx4a65c 131 yJx4a65c_add_72be8, Cond.instanceMethod yJx4a65c_add_72be8, Cond.selects RJx4a65c yJx4a65c_add_72be8 yJx4a65c_add_72be8, Cond.code yJx4a65c_add_72be8 cJx4a65c_add_72be8 4 none, Cond.methodLink RJx4a65c 129 yJx4a65c_grow_d5877, Cond.instanceMethod yJx4a65c_grow_d5877]
def wsX6_box_r4 : List Cond := [Cond.selects RJx4a65c yJx4a65c_grow_d5877 yJx4a65c_grow_d5877, Cond.code yJx4a65c_grow_d5877 cJx4a65c_grow_d5877 1 (some (.array (.object "java/lang/Object"))), Cond.methodLink RJx4a65c 69 yJx4a65c_grow_92f84, Cond.instanceMethod yJx4a65c_grow_92f84, Cond.selects RJx4a65c yJx4a65c_grow_92f84 yJx4a65c_grow_92f84, Cond.code yJx4a65c_grow_92f84 cJx4a65c_grow_92f84 4 (some (.array (.object "java/lang/Object"))), Cond.fieldLink RJx4a65c 39 "java/util/ArrayList" "DEFAULTCAPACITY_EMPTY_ELEMENTDATA" "[Ljava/lang/Object;", Cond.methodLink RJx4a65c 79 Lib.Math.max.name, Cond.static Lib.Math.max.name, Cond.initialized "java/lang/Math", Cond.code Lib.Math.max.name Lib.Math.max.code 2 (some .int), Cond.classLink RJx4a65c 7 "java/lang/Object", Cond.methodLink RJx4a65c 73 yJ8_newLength_cabcc, Cond.static yJ8_newLength_cabcc, Cond.initialized RJ8, Cond.code yJ8_newLength_cabcc cJ8_newLength_cabcc 4 (some .int), Cond.methodLink RJ8 194 Lib.Math.max.name, Cond.constant RJ8 200 (2147483639), Cond.methodLink RJ8 201 yJ8_hugeLength_7cf53, Cond.static yJ8_hugeLength_7cf53, Cond.code yJ8_hugeLength_7cf53 cJ8_hugeLength_7cf53 3 (some .int), Cond.methodLink RJx4a65c 66 yJ7_copyOf_1904c, Cond.static yJ7_copyOf_1904c, Cond.initialized RJ7]
def wsX6_box_r5 : List Cond := [Cond.code yJ7_copyOf_1904c cJ7_copyOf_1904c 2 (some (.array (.object "java/lang/Object"))), Cond.methodLink RJ7 86 ⟨"java/lang/Object", "getClass", "()Ljava/lang/Class;"⟩, Cond.selects "[Ljava/lang/Object;" ⟨"java/lang/Object", "getClass", "()Ljava/lang/Class;"⟩ ⟨"java/lang/Object", "getClass", "()Ljava/lang/Class;"⟩, Cond.instanceMethod ⟨"java/lang/Object", "getClass", "()Ljava/lang/Class;"⟩, Cond.native ⟨"java/lang/Object", "getClass", "()Ljava/lang/Class;"⟩, Cond.methodLink RJ7 300 yJ7_copyOf_6403c, Cond.static yJ7_copyOf_6403c, Cond.code yJ7_copyOf_6403c cJ7_copyOf_6403c 4 (some (.array (.object "java/lang/Object"))), Cond.classLink RJ7 110 "[Ljava/lang/Object;", Cond.classLink RJ7 2 "java/lang/Object", Cond.methodLink RJ7 304 Lib.Math.min.name, Cond.static Lib.Math.min.name, Cond.code Lib.Math.min.name Lib.Math.min.code 2 (some .int), Cond.methodLink RJ7 150 arraycopyName, Cond.native arraycopyName, Cond.static arraycopyName, Cond.initialized "java/lang/System"]
def wsX6_box : List Cond := .code yX6_box cX6_box 4 (some .int) :: ((wsX6_box_r1 ++ (wsX6_box_r2 ++ (wsX6_box_r3 ++ (wsX6_box_r4 ++ wsX6_box_r5)))) ++ wsX30 ++ wsX60 ++ wsX00 ++ wsJx4a65c0 ++ (vx_atS RX6 59 "java/lang/IllegalArgumentException" ["java/lang/RuntimeException", "java/lang/Exception"]).filter goodWord ++ (vx_atS RX6 74 "java/lang/IllegalStateException" ["java/lang/RuntimeException", "java/lang/Exception"]).filter goodWord ++ (vx_atS RX6 131 "java/lang/IndexOutOfBoundsException" ["java/lang/RuntimeException", "java/lang/Exception"]).filter goodWord)
def wsX6_leave_r1 : List Cond := [Cond.classLink RX6 70 "java/lang/IllegalStateException", Cond.initialized "java/lang/IllegalStateException", Cond.fieldLink RX6 16 "QuayMesh" "allBoxes" "Ljava/util/ArrayList;", Cond.classLink RX6 92 "QuayMesh$Box", Cond.fieldLink RX6 101 "QuayMesh$Box" "ship" "LQuayMesh$Ship;", Cond.fieldLink RX6 105 "QuayMesh$Box" "where" "I", Cond.fieldLink RX6 110 "QuayMesh$Ship" "hasLeft" "Z", Cond.methodLink RX6 78 yX6_shipNumbered, Cond.instanceMethod yX6_shipNumbered, Cond.selects RX6 yX6_shipNumbered yX6_shipNumbered, Cond.initialized RX6, Cond.code yX6_shipNumbered cX6_shipNumbered 3 (some (.object "QuayMesh$Ship")), Cond.classLink RX6 127 "java/lang/IndexOutOfBoundsException", Cond.initialized "java/lang/IndexOutOfBoundsException", Cond.fieldLink RX6 12 "QuayMesh" "allShips" "Ljava/util/ArrayList;", Cond.classLink RX6 75 "QuayMesh$Ship", Cond.methodLink RX6 62 yJx4a65c_size_8abf5, Cond.instanceMethod yJx4a65c_size_8abf5, Cond.selects RJx4a65c yJx4a65c_size_8abf5 yJx4a65c_size_8abf5, Cond.initialized RJx4a65c, Cond.code yJx4a65c_size_8abf5 cJx4a65c_size_8abf5 1 (some .int), Cond.fieldLink RJx4a65c 48 "java/util/ArrayList" "size" "I", Cond.methodLink RX6 52 yX6_requireOneOf, Cond.static yX6_requireOneOf]
def wsX6_leave_r2 : List Cond := [Cond.code yX6_requireOneOf cX6_requireOneOf 2 none, Cond.methodLink RX6 97 yJx4a65c_get_915e3, Cond.instanceMethod yJx4a65c_get_915e3, Cond.selects RJx4a65c yJx4a65c_get_915e3 yJx4a65c_get_915e3, Cond.code yJx4a65c_get_915e3 cJx4a65c_get_915e3 2 (some (.object "java/lang/Object")), Cond.methodLink RJx4a65c 118 yJ15_checkIndex_7cf53, Cond.static yJ15_checkIndex_7cf53, Cond.initialized RJ15, Cond.code yJ15_checkIndex_7cf53 cJ15_checkIndex_7cf53 2 (some .int), Cond.methodLink RJ15 105 yJ3_checkIndex_8e157, Cond.static yJ3_checkIndex_8e157, Cond.initialized RJ3, Cond.code yJ3_checkIndex_8e157 cJ3_checkIndex_8e157 3 (some .int), Cond.methodLink RJx4a65c 123 yJx4a65c_elementData_915e3, Cond.instanceMethod yJx4a65c_elementData_915e3, Cond.selects RJx4a65c yJx4a65c_elementData_915e3 yJx4a65c_elementData_915e3, Cond.code yJx4a65c_elementData_915e3 cJx4a65c_elementData_915e3 2 (some (.object "java/lang/Object")), Cond.fieldLink RJx4a65c 9 "java/util/ArrayList" "elementData" "[Ljava/lang/Object;"]
def wsX6_leave : List Cond := .code yX6_leave cX6_leave 6 (some .int) :: ((wsX6_leave_r1 ++ wsX6_leave_r2) ++ wsX60 ++ wsX00 ++ wsX30 ++ wsJx4a65c0 ++ (vx_atS RX6 74 "java/lang/IllegalStateException" ["java/lang/RuntimeException", "java/lang/Exception"]).filter goodWord ++ (vx_atS RX6 131 "java/lang/IndexOutOfBoundsException" ["java/lang/RuntimeException", "java/lang/Exception"]).filter goodWord)
def wsX6_boxNumbered_r1 : List Cond := [Cond.fieldLink RX6 16 "QuayMesh" "allBoxes" "Ljava/util/ArrayList;", Cond.classLink RX6 92 "QuayMesh$Box", Cond.methodLink RX6 62 yJx4a65c_size_8abf5, Cond.instanceMethod yJx4a65c_size_8abf5, Cond.selects RJx4a65c yJx4a65c_size_8abf5 yJx4a65c_size_8abf5, Cond.initialized RJx4a65c, Cond.code yJx4a65c_size_8abf5 cJx4a65c_size_8abf5 1 (some .int), Cond.fieldLink RJx4a65c 48 "java/util/ArrayList" "size" "I", Cond.methodLink RX6 52 yX6_requireOneOf, Cond.static yX6_requireOneOf, Cond.initialized RX6, Cond.code yX6_requireOneOf cX6_requireOneOf 2 none, Cond.classLink RX6 127 "java/lang/IndexOutOfBoundsException", Cond.initialized "java/lang/IndexOutOfBoundsException", Cond.methodLink RX6 97 yJx4a65c_get_915e3, Cond.instanceMethod yJx4a65c_get_915e3, Cond.selects RJx4a65c yJx4a65c_get_915e3 yJx4a65c_get_915e3, Cond.code yJx4a65c_get_915e3 cJx4a65c_get_915e3 2 (some (.object "java/lang/Object")), Cond.methodLink RJx4a65c 118 yJ15_checkIndex_7cf53, Cond.static yJ15_checkIndex_7cf53, Cond.initialized RJ15, Cond.code yJ15_checkIndex_7cf53 cJ15_checkIndex_7cf53 2 (some .int), Cond.methodLink RJ15 105 yJ3_checkIndex_8e157, Cond.static yJ3_checkIndex_8e157]
def wsX6_boxNumbered_r2 : List Cond := [Cond.initialized RJ3, Cond.code yJ3_checkIndex_8e157 cJ3_checkIndex_8e157 3 (some .int), Cond.methodLink RJx4a65c 123 yJx4a65c_elementData_915e3, Cond.instanceMethod yJx4a65c_elementData_915e3, Cond.selects RJx4a65c yJx4a65c_elementData_915e3 yJx4a65c_elementData_915e3, Cond.code yJx4a65c_elementData_915e3 cJx4a65c_elementData_915e3 2 (some (.object "java/lang/Object")), Cond.fieldLink RJx4a65c 9 "java/util/ArrayList" "elementData" "[Ljava/lang/Object;"]
def wsX6_boxNumbered : List Cond := .code yX6_boxNumbered cX6_boxNumbered 2 (some (.object "QuayMesh$Box")) :: ((wsX6_boxNumbered_r1 ++ wsX6_boxNumbered_r2) ++ wsX60 ++ wsJx4a65c0 ++ (vx_atS RX6 131 "java/lang/IndexOutOfBoundsException" ["java/lang/RuntimeException", "java/lang/Exception"]).filter goodWord)
def wsX6_targetsOf : List Cond := .code yX6_targetsOf cX6_targetsOf 1 (some .int) :: ([])
def wsX6_isFor : List Cond := .code yX6_isFor cX6_isFor 2 (some .boolean) :: ([])
def wsX6_craneNumbered_r1 : List Cond := [Cond.fieldLink RX6 25 "QuayMesh" "cranes" "Ljava/util/ArrayList;", Cond.classLink RX6 38 "QuayMesh$Crane", Cond.methodLink RX6 62 yJx4a65c_size_8abf5, Cond.instanceMethod yJx4a65c_size_8abf5, Cond.selects RJx4a65c yJx4a65c_size_8abf5 yJx4a65c_size_8abf5, Cond.initialized RJx4a65c, Cond.code yJx4a65c_size_8abf5 cJx4a65c_size_8abf5 1 (some .int), Cond.fieldLink RJx4a65c 48 "java/util/ArrayList" "size" "I", Cond.methodLink RX6 52 yX6_requireOneOf, Cond.static yX6_requireOneOf, Cond.initialized RX6, Cond.code yX6_requireOneOf cX6_requireOneOf 2 none, Cond.classLink RX6 127 "java/lang/IndexOutOfBoundsException", Cond.initialized "java/lang/IndexOutOfBoundsException", Cond.methodLink RX6 97 yJx4a65c_get_915e3, Cond.instanceMethod yJx4a65c_get_915e3, Cond.selects RJx4a65c yJx4a65c_get_915e3 yJx4a65c_get_915e3, Cond.code yJx4a65c_get_915e3 cJx4a65c_get_915e3 2 (some (.object "java/lang/Object")), Cond.methodLink RJx4a65c 118 yJ15_checkIndex_7cf53, Cond.static yJ15_checkIndex_7cf53, Cond.initialized RJ15, Cond.code yJ15_checkIndex_7cf53 cJ15_checkIndex_7cf53 2 (some .int), Cond.methodLink RJ15 105 yJ3_checkIndex_8e157, Cond.static yJ3_checkIndex_8e157]
def wsX6_craneNumbered_r2 : List Cond := [Cond.initialized RJ3, Cond.code yJ3_checkIndex_8e157 cJ3_checkIndex_8e157 3 (some .int), Cond.methodLink RJx4a65c 123 yJx4a65c_elementData_915e3, Cond.instanceMethod yJx4a65c_elementData_915e3, Cond.selects RJx4a65c yJx4a65c_elementData_915e3 yJx4a65c_elementData_915e3, Cond.code yJx4a65c_elementData_915e3 cJx4a65c_elementData_915e3 2 (some (.object "java/lang/Object")), Cond.fieldLink RJx4a65c 9 "java/util/ArrayList" "elementData" "[Ljava/lang/Object;"]
def wsX6_craneNumbered : List Cond := .code yX6_craneNumbered cX6_craneNumbered 2 (some (.object "QuayMesh$Crane")) :: ((wsX6_craneNumbered_r1 ++ wsX6_craneNumbered_r2) ++ wsX60 ++ wsJx4a65c0 ++ (vx_atS RX6 131 "java/lang/IndexOutOfBoundsException" ["java/lang/RuntimeException", "java/lang/Exception"]).filter goodWord)
def wsX6_truckNumbered_r1 : List Cond := [Cond.classLink RX6 127 "java/lang/IndexOutOfBoundsException", Cond.initialized "java/lang/IndexOutOfBoundsException", Cond.fieldLink RX6 28 "QuayMesh" "trucks" "Ljava/util/ArrayList;", Cond.classLink RX6 47 "QuayMesh$Truck", Cond.methodLink RX6 62 yJx4a65c_size_8abf5, Cond.instanceMethod yJx4a65c_size_8abf5, Cond.selects RJx4a65c yJx4a65c_size_8abf5 yJx4a65c_size_8abf5, Cond.initialized RJx4a65c, Cond.code yJx4a65c_size_8abf5 cJx4a65c_size_8abf5 1 (some .int), Cond.fieldLink RJx4a65c 48 "java/util/ArrayList" "size" "I", Cond.methodLink RX6 97 yJx4a65c_get_915e3, Cond.instanceMethod yJx4a65c_get_915e3, Cond.selects RJx4a65c yJx4a65c_get_915e3 yJx4a65c_get_915e3, Cond.code yJx4a65c_get_915e3 cJx4a65c_get_915e3 2 (some (.object "java/lang/Object")), Cond.methodLink RJx4a65c 118 yJ15_checkIndex_7cf53, Cond.static yJ15_checkIndex_7cf53, Cond.initialized RJ15, Cond.code yJ15_checkIndex_7cf53 cJ15_checkIndex_7cf53 2 (some .int), Cond.methodLink RJ15 105 yJ3_checkIndex_8e157, Cond.static yJ3_checkIndex_8e157, Cond.initialized RJ3, Cond.code yJ3_checkIndex_8e157 cJ3_checkIndex_8e157 3 (some .int), Cond.methodLink RJx4a65c 123 yJx4a65c_elementData_915e3, Cond.instanceMethod yJx4a65c_elementData_915e3]
def wsX6_truckNumbered_r2 : List Cond := [Cond.selects RJx4a65c yJx4a65c_elementData_915e3 yJx4a65c_elementData_915e3, Cond.code yJx4a65c_elementData_915e3 cJx4a65c_elementData_915e3 2 (some (.object "java/lang/Object")), Cond.fieldLink RJx4a65c 9 "java/util/ArrayList" "elementData" "[Ljava/lang/Object;"]
def wsX6_truckNumbered : List Cond := .code yX6_truckNumbered cX6_truckNumbered 2 (some (.object "QuayMesh$Truck")) :: ((wsX6_truckNumbered_r1 ++ wsX6_truckNumbered_r2) ++ wsX60 ++ wsJx4a65c0 ++ (vx_atS RX6 131 "java/lang/IndexOutOfBoundsException" ["java/lang/RuntimeException", "java/lang/Exception"]).filter goodWord)
def wsX6_workerNumbered_r1 : List Cond := [Cond.methodLink RX6 221 yX6_craneNumbered, Cond.instanceMethod yX6_craneNumbered, Cond.selects RX6 yX6_craneNumbered yX6_craneNumbered, Cond.initialized RX6, Cond.code yX6_craneNumbered cX6_craneNumbered 2 (some (.object "QuayMesh$Crane")), Cond.fieldLink RX6 25 "QuayMesh" "cranes" "Ljava/util/ArrayList;", Cond.classLink RX6 38 "QuayMesh$Crane", Cond.methodLink RX6 62 yJx4a65c_size_8abf5, Cond.instanceMethod yJx4a65c_size_8abf5, Cond.selects RJx4a65c yJx4a65c_size_8abf5 yJx4a65c_size_8abf5, Cond.initialized RJx4a65c, Cond.code yJx4a65c_size_8abf5 cJx4a65c_size_8abf5 1 (some .int), Cond.fieldLink RJx4a65c 48 "java/util/ArrayList" "size" "I", Cond.methodLink RX6 52 yX6_requireOneOf, Cond.static yX6_requireOneOf, Cond.code yX6_requireOneOf cX6_requireOneOf 2 none, Cond.classLink RX6 127 "java/lang/IndexOutOfBoundsException", Cond.initialized "java/lang/IndexOutOfBoundsException", Cond.methodLink RX6 97 yJx4a65c_get_915e3, Cond.instanceMethod yJx4a65c_get_915e3, Cond.selects RJx4a65c yJx4a65c_get_915e3 yJx4a65c_get_915e3, Cond.code yJx4a65c_get_915e3 cJx4a65c_get_915e3 2 (some (.object "java/lang/Object")), Cond.methodLink RJx4a65c 118 yJ15_checkIndex_7cf53, Cond.static yJ15_checkIndex_7cf53]
def wsX6_workerNumbered_r2 : List Cond := [Cond.initialized RJ15, Cond.code yJ15_checkIndex_7cf53 cJ15_checkIndex_7cf53 2 (some .int), Cond.methodLink RJ15 105 yJ3_checkIndex_8e157, Cond.static yJ3_checkIndex_8e157, Cond.initialized RJ3, Cond.code yJ3_checkIndex_8e157 cJ3_checkIndex_8e157 3 (some .int), Cond.methodLink RJx4a65c 123 yJx4a65c_elementData_915e3, Cond.instanceMethod yJx4a65c_elementData_915e3, Cond.selects RJx4a65c yJx4a65c_elementData_915e3 yJx4a65c_elementData_915e3, Cond.code yJx4a65c_elementData_915e3 cJx4a65c_elementData_915e3 2 (some (.object "java/lang/Object")), Cond.fieldLink RJx4a65c 9 "java/util/ArrayList" "elementData" "[Ljava/lang/Object;", Cond.methodLink RX6 169 yX6_truckNumbered, Cond.instanceMethod yX6_truckNumbered, Cond.selects RX6 yX6_truckNumbered yX6_truckNumbered, Cond.code yX6_truckNumbered cX6_truckNumbered 2 (some (.object "QuayMesh$Truck")), Cond.fieldLink RX6 28 "QuayMesh" "trucks" "Ljava/util/ArrayList;", Cond.classLink RX6 47 "QuayMesh$Truck"]
def wsX6_workerNumbered : List Cond := .code yX6_workerNumbered cX6_workerNumbered 2 (some (.object "QuayMesh$Worker")) :: ((wsX6_workerNumbered_r1 ++ wsX6_workerNumbered_r2) ++ wsX60 ++ wsJx4a65c0 ++ (vx_atS RX6 131 "java/lang/IndexOutOfBoundsException" ["java/lang/RuntimeException", "java/lang/Exception"]).filter goodWord)
def wsX6_leastBusyFor_r1 : List Cond := [Cond.fieldLink RX6 242 "QuayMesh$Worker" "isSilent" "Z", Cond.fieldLink RX6 146 "QuayMesh$Worker" "waiting" "Ljava/util/ArrayList;", Cond.methodLink RX6 136 yX6_workerNumbered, Cond.instanceMethod yX6_workerNumbered, Cond.selects RX6 yX6_workerNumbered yX6_workerNumbered, Cond.initialized RX6, Cond.code yX6_workerNumbered cX6_workerNumbered 2 (some (.object "QuayMesh$Worker")), Cond.methodLink RX6 221 yX6_craneNumbered, Cond.instanceMethod yX6_craneNumbered, Cond.selects RX6 yX6_craneNumbered yX6_craneNumbered, Cond.code yX6_craneNumbered cX6_craneNumbered 2 (some (.object "QuayMesh$Crane")), Cond.fieldLink RX6 25 "QuayMesh" "cranes" "Ljava/util/ArrayList;", Cond.classLink RX6 38 "QuayMesh$Crane", Cond.methodLink RX6 62 yJx4a65c_size_8abf5, Cond.instanceMethod yJx4a65c_size_8abf5, Cond.selects RJx4a65c yJx4a65c_size_8abf5 yJx4a65c_size_8abf5, Cond.initialized RJx4a65c, Cond.code yJx4a65c_size_8abf5 cJx4a65c_size_8abf5 1 (some .int), Cond.fieldLink RJx4a65c 48 "java/util/ArrayList" "size" "I", Cond.methodLink RX6 52 yX6_requireOneOf, Cond.static yX6_requireOneOf, Cond.code yX6_requireOneOf cX6_requireOneOf 2 none, Cond.classLink RX6 127 "java/lang/IndexOutOfBoundsException", Cond.initialized "java/lang/IndexOutOfBoundsException"]
def wsX6_leastBusyFor_r2 : List Cond := [Cond.methodLink RX6 97 yJx4a65c_get_915e3, Cond.instanceMethod yJx4a65c_get_915e3, Cond.selects RJx4a65c yJx4a65c_get_915e3 yJx4a65c_get_915e3, Cond.code yJx4a65c_get_915e3 cJx4a65c_get_915e3 2 (some (.object "java/lang/Object")), Cond.methodLink RJx4a65c 118 yJ15_checkIndex_7cf53, Cond.static yJ15_checkIndex_7cf53, Cond.initialized RJ15, Cond.code yJ15_checkIndex_7cf53 cJ15_checkIndex_7cf53 2 (some .int), Cond.methodLink RJ15 105 yJ3_checkIndex_8e157, Cond.static yJ3_checkIndex_8e157, Cond.initialized RJ3, Cond.code yJ3_checkIndex_8e157 cJ3_checkIndex_8e157 3 (some .int), Cond.methodLink RJx4a65c 123 yJx4a65c_elementData_915e3, Cond.instanceMethod yJx4a65c_elementData_915e3, Cond.selects RJx4a65c yJx4a65c_elementData_915e3 yJx4a65c_elementData_915e3, Cond.code yJx4a65c_elementData_915e3 cJx4a65c_elementData_915e3 2 (some (.object "java/lang/Object")), Cond.fieldLink RJx4a65c 9 "java/util/ArrayList" "elementData" "[Ljava/lang/Object;", Cond.methodLink RX6 169 yX6_truckNumbered, Cond.instanceMethod yX6_truckNumbered, Cond.selects RX6 yX6_truckNumbered yX6_truckNumbered, Cond.code yX6_truckNumbered cX6_truckNumbered 2 (some (.object "QuayMesh$Truck")), Cond.fieldLink RX6 28 "QuayMesh" "trucks" "Ljava/util/ArrayList;", Cond.classLink RX6 47 "QuayMesh$Truck", Cond.methodLink RX6 124 yX6_isFor]
def wsX6_leastBusyFor_r3 : List Cond := [Cond.static yX6_isFor, Cond.code yX6_isFor cX6_isFor 2 (some .boolean)]
def wsX6_leastBusyFor : List Cond := .code yX6_leastBusyFor cX6_leastBusyFor 5 (some (.object "QuayMesh$Worker")) :: ((wsX6_leastBusyFor_r1 ++ (wsX6_leastBusyFor_r2 ++ wsX6_leastBusyFor_r3)) ++ wsX10 ++ wsX40 ++ wsX60 ++ wsJx4a65c0 ++ (vx_atS RX6 131 "java/lang/IndexOutOfBoundsException" ["java/lang/RuntimeException", "java/lang/Exception"]).filter goodWord)
def wsX6_send_r1 : List Cond := [Cond.classLink RX6 55 "java/lang/IllegalArgumentException", Cond.initialized "java/lang/IllegalArgumentException", Cond.classLink RX6 127 "java/lang/IndexOutOfBoundsException", Cond.initialized "java/lang/IndexOutOfBoundsException", Cond.classLink RX6 70 "java/lang/IllegalStateException", Cond.initialized "java/lang/IllegalStateException", Cond.fieldLink RX6 19 "QuayMesh" "allMessages" "Ljava/util/ArrayList;", Cond.classLink RX6 141 RX2, Cond.instantiable RX2 7, Cond.initialized RX2, Cond.fieldLink RX6 146 "QuayMesh$Worker" "waiting" "Ljava/util/ArrayList;", Cond.fieldLink RX6 151 "QuayMesh$Message" "number" "I", Cond.methodLink RX6 116 yX6_boxNumbered, Cond.instanceMethod yX6_boxNumbered, Cond.selects RX6 yX6_boxNumbered yX6_boxNumbered, Cond.initialized RX6, Cond.code yX6_boxNumbered cX6_boxNumbered 2 (some (.object "QuayMesh$Box")), Cond.fieldLink RX6 16 "QuayMesh" "allBoxes" "Ljava/util/ArrayList;", Cond.classLink RX6 92 "QuayMesh$Box", Cond.methodLink RX6 62 yJx4a65c_size_8abf5, Cond.instanceMethod yJx4a65c_size_8abf5, Cond.selects RJx4a65c yJx4a65c_size_8abf5 yJx4a65c_size_8abf5, Cond.initialized RJx4a65c, Cond.code yJx4a65c_size_8abf5 cJx4a65c_size_8abf5 1 (some .int)]
def wsX6_send_r2 : List Cond := [Cond.fieldLink RJx4a65c 48 "java/util/ArrayList" "size" "I", Cond.methodLink RX6 52 yX6_requireOneOf, Cond.static yX6_requireOneOf, Cond.code yX6_requireOneOf cX6_requireOneOf 2 none, Cond.methodLink RX6 97 yJx4a65c_get_915e3, Cond.instanceMethod yJx4a65c_get_915e3, Cond.selects RJx4a65c yJx4a65c_get_915e3 yJx4a65c_get_915e3, Cond.code yJx4a65c_get_915e3 cJx4a65c_get_915e3 2 (some (.object "java/lang/Object")), Cond.methodLink RJx4a65c 118 yJ15_checkIndex_7cf53, Cond.static yJ15_checkIndex_7cf53, Cond.initialized RJ15, Cond.code yJ15_checkIndex_7cf53 cJ15_checkIndex_7cf53 2 (some .int), Cond.methodLink RJ15 105 yJ3_checkIndex_8e157, Cond.static yJ3_checkIndex_8e157, Cond.initialized RJ3, Cond.code yJ3_checkIndex_8e157 cJ3_checkIndex_8e157 3 (some .int), Cond.methodLink RJx4a65c 123 yJx4a65c_elementData_915e3, Cond.instanceMethod yJx4a65c_elementData_915e3, Cond.selects RJx4a65c yJx4a65c_elementData_915e3 yJx4a65c_elementData_915e3, Cond.code yJx4a65c_elementData_915e3 cJx4a65c_elementData_915e3 2 (some (.object "java/lang/Object")), Cond.fieldLink RJx4a65c 9 "java/util/ArrayList" "elementData" "[Ljava/lang/Object;", Cond.methodLink RX6 120 yX6_targetsOf, Cond.static yX6_targetsOf, Cond.code yX6_targetsOf cX6_targetsOf 1 (some .int)]
def wsX6_send_r3 : List Cond := [Cond.methodLink RX6 124 yX6_isFor, Cond.static yX6_isFor, Cond.code yX6_isFor cX6_isFor 2 (some .boolean), Cond.methodLink RX6 132 yX6_leastBusyFor, Cond.instanceMethod yX6_leastBusyFor, Cond.selects RX6 yX6_leastBusyFor yX6_leastBusyFor, Cond.code yX6_leastBusyFor cX6_leastBusyFor 5 (some (.object "QuayMesh$Worker")), Cond.fieldLink RX6 242 "QuayMesh$Worker" "isSilent" "Z", Cond.methodLink RX6 136 yX6_workerNumbered, Cond.instanceMethod yX6_workerNumbered, Cond.selects RX6 yX6_workerNumbered yX6_workerNumbered, Cond.code yX6_workerNumbered cX6_workerNumbered 2 (some (.object "QuayMesh$Worker")), Cond.methodLink RX6 221 yX6_craneNumbered, Cond.instanceMethod yX6_craneNumbered, Cond.selects RX6 yX6_craneNumbered yX6_craneNumbered, Cond.code yX6_craneNumbered cX6_craneNumbered 2 (some (.object "QuayMesh$Crane")), Cond.fieldLink RX6 25 "QuayMesh" "cranes" "Ljava/util/ArrayList;", Cond.classLink RX6 38 "QuayMesh$Crane", Cond.methodLink RX6 169 yX6_truckNumbered, Cond.instanceMethod yX6_truckNumbered, Cond.selects RX6 yX6_truckNumbered yX6_truckNumbered, Cond.code yX6_truckNumbered cX6_truckNumbered 2 (some (.object "QuayMesh$Truck")), Cond.fieldLink RX6 28 "QuayMesh" "trucks" "Ljava/util/ArrayList;", Cond.classLink RX6 47 "QuayMesh$Truck"]
def wsX6_send_r4 : List Cond := [Cond.methodLink RX6 143 yX2_init, Cond.instanceMethod yX2_init, Cond.code yX2_init cX2_init 5 none, Cond.methodLink RX2 3 objectInit, Cond.instanceMethod objectInit, Cond.code objectInit ⟨#[0xb1]⟩ 1 none, Cond.fieldLink RX2 9 "QuayMesh$Message" "timesHanded" "I", Cond.fieldLink RX2 15 "QuayMesh$Message" "orderMade" "I", Cond.fieldLink RX2 18 "QuayMesh$Message" "isLogged" "Z", Cond.fieldLink RX2 22 "QuayMesh$Message" "number" "I", Cond.fieldLink RX2 25 "QuayMesh$Message" "kind" "I", Cond.fieldLink RX2 28 "QuayMesh$Message" "box" "LQuayMesh$Box;", Cond.fieldLink RX2 32 "QuayMesh$Message" "target" "I", Cond.methodLink RX6 43 yJx4a65c_add_9ea2d, Cond.instanceMethod yJx4a65c_add_9ea2d, Cond.selects RJx4a65c yJx4a65c_add_9ea2d yJx4a65c_add_9ea2d, Cond.code yJx4a65c_add_9ea2d cJx4a65c_add_9ea2d 2 (some .boolean), Cond.fieldLink RJx4a65c 63 "java/util/ArrayList" "modCount" "I", Cond.sameField "java/util/ArrayList" "java/util/AbstractList" "modCount" "I", Cond.methodLink RJx4a65c 131 yJx4a65c_add_72be8, Cond.instanceMethod yJx4a65c_add_72be8, Cond.selects RJx4a65c yJx4a65c_add_72be8 yJx4a65c_add_72be8, Cond.code yJx4a65c_add_72be8 cJx4a65c_add_72be8 4 none, Cond.methodLink RJx4a65c 129 yJx4a65c_grow_d5877]
def wsX6_send_r5 : List Cond := [Cond.instanceMethod yJx4a65c_grow_d5877, Cond.selects RJx4a65c yJx4a65c_grow_d5877 yJx4a65c_grow_d5877, Cond.code yJx4a65c_grow_d5877 cJx4a65c_grow_d5877 1 (some (.array (.object "java/lang/Object"))), Cond.methodLink RJx4a65c 69 yJx4a65c_grow_92f84, Cond.instanceMethod yJx4a65c_grow_92f84, Cond.selects RJx4a65c yJx4a65c_grow_92f84 yJx4a65c_grow_92f84, Cond.code yJx4a65c_grow_92f84 cJx4a65c_grow_92f84 4 (some (.array (.object "java/lang/Object"))), Cond.fieldLink RJx4a65c 39 "java/util/ArrayList" "DEFAULTCAPACITY_EMPTY_ELEMENTDATA" "[Ljava/lang/Object;", Cond.methodLink RJx4a65c 79 Lib.Math.max.name, Cond.static Lib.Math.max.name, Cond.initialized "java/lang/Math", Cond.code Lib.Math.max.name Lib.Math.max.code 2 (some .int), Cond.classLink RJx4a65c 7 "java/lang/Object", Cond.methodLink RJx4a65c 73 yJ8_newLength_cabcc, Cond.static yJ8_newLength_cabcc, Cond.initialized RJ8, Cond.code yJ8_newLength_cabcc cJ8_newLength_cabcc 4 (some .int), Cond.methodLink RJ8 194 Lib.Math.max.name, Cond.constant RJ8 200 (2147483639), Cond.methodLink RJ8 201 yJ8_hugeLength_7cf53, Cond.static yJ8_hugeLength_7cf53, Cond.code yJ8_hugeLength_7cf53 cJ8_hugeLength_7cf53 3 (some .int), Cond.methodLink RJx4a65c 66 yJ7_copyOf_1904c, Cond.static yJ7_copyOf_1904c]
def wsX6_send_r6 : List Cond := [Cond.initialized RJ7, Cond.code yJ7_copyOf_1904c cJ7_copyOf_1904c 2 (some (.array (.object "java/lang/Object"))), Cond.methodLink RJ7 86 ⟨"java/lang/Object", "getClass", "()Ljava/lang/Class;"⟩, Cond.selects "[Ljava/lang/Object;" ⟨"java/lang/Object", "getClass", "()Ljava/lang/Class;"⟩ ⟨"java/lang/Object", "getClass", "()Ljava/lang/Class;"⟩, Cond.instanceMethod ⟨"java/lang/Object", "getClass", "()Ljava/lang/Class;"⟩, Cond.native ⟨"java/lang/Object", "getClass", "()Ljava/lang/Class;"⟩, Cond.methodLink RJ7 300 yJ7_copyOf_6403c, Cond.static yJ7_copyOf_6403c, Cond.code yJ7_copyOf_6403c cJ7_copyOf_6403c 4 (some (.array (.object "java/lang/Object"))), Cond.classLink RJ7 110 "[Ljava/lang/Object;", Cond.classLink RJ7 2 "java/lang/Object", Cond.methodLink RJ7 304 Lib.Math.min.name, Cond.static Lib.Math.min.name, Cond.code Lib.Math.min.name Lib.Math.min.code 2 (some .int), Cond.methodLink RJ7 150 arraycopyName, Cond.native arraycopyName, Cond.static arraycopyName, Cond.initialized "java/lang/System"]
def wsX6_send : List Cond := .code yX6_send cX6_send 8 (some .int) :: ((wsX6_send_r1 ++ (wsX6_send_r2 ++ (wsX6_send_r3 ++ (wsX6_send_r4 ++ (wsX6_send_r5 ++ wsX6_send_r6))))) ++ wsX60 ++ wsX20 ++ wsX10 ++ wsX40 ++ wsJx4a65c0 ++ (vx_atS RX6 59 "java/lang/IllegalArgumentException" ["java/lang/RuntimeException", "java/lang/Exception"]).filter goodWord ++ (vx_atS RX6 131 "java/lang/IndexOutOfBoundsException" ["java/lang/RuntimeException", "java/lang/Exception"]).filter goodWord ++ (vx_atS RX6 74 "java/lang/IllegalStateException" ["java/lang/RuntimeException", "java/lang/Exception"]).filter goodWord)
def wsJx4a65c_isEmpty_aae02 : List Cond := .code yJx4a65c_isEmpty_aae02 cJx4a65c_isEmpty_aae02 1 (some .boolean) :: ([.fieldLink RJx4a65c 48 "java/util/ArrayList" "size" "I"] ++ wsJx4a65c0)
def wsX6_acknowledge_r1 : List Cond := [Cond.fieldLink RX6 207 "QuayMesh$Worker" "lossesOfAcks" "I", Cond.fieldLink RX6 213 "QuayMesh$Worker" "lastAcknowledged" "LQuayMesh$Message;", Cond.fieldLink RX6 303 "QuayMesh$Message" "isLogged" "Z", Cond.fieldLink RX6 22 "QuayMesh" "log" "Ljava/util/ArrayList;", Cond.methodLink RX6 297 ⟨"QuayMesh$Worker", "takeOut", "(LQuayMesh$Message;)V"⟩, Cond.sameMethod "QuayMesh$Worker" "QuayMesh$Worker" "takeOut" "(LQuayMesh$Message;)V", Cond.selects RX1 ⟨"QuayMesh$Worker", "takeOut", "(LQuayMesh$Message;)V"⟩ yX5_takeOut, Cond.instanceMethod yX5_takeOut, Cond.initialized RX5, Cond.code yX5_takeOut cX5_takeOut 3 none, Cond.fieldLink RX5 12 "QuayMesh$Worker" "waiting" "Ljava/util/ArrayList;", Cond.static yX6_indexOf, Cond.initialized RX6, Cond.code yX6_indexOf cX6_indexOf 3 (some .int), Cond.methodLink RX6 62 yJx4a65c_size_8abf5, Cond.instanceMethod yJx4a65c_size_8abf5, Cond.selects RJx4a65c yJx4a65c_size_8abf5 yJx4a65c_size_8abf5, Cond.initialized RJx4a65c, Cond.code yJx4a65c_size_8abf5 cJx4a65c_size_8abf5 1 (some .int), Cond.fieldLink RJx4a65c 48 "java/util/ArrayList" "size" "I", Cond.methodLink RX6 97 yJx4a65c_get_915e3, Cond.instanceMethod yJx4a65c_get_915e3, Cond.selects RJx4a65c yJx4a65c_get_915e3 yJx4a65c_get_915e3, Cond.code yJx4a65c_get_915e3 cJx4a65c_get_915e3 2 (some (.object "java/lang/Object"))]
def wsX6_acknowledge_r2 : List Cond := [Cond.methodLink RJx4a65c 118 yJ15_checkIndex_7cf53, Cond.static yJ15_checkIndex_7cf53, Cond.initialized RJ15, Cond.code yJ15_checkIndex_7cf53 cJ15_checkIndex_7cf53 2 (some .int), Cond.methodLink RJ15 105 yJ3_checkIndex_8e157, Cond.static yJ3_checkIndex_8e157, Cond.initialized RJ3, Cond.code yJ3_checkIndex_8e157 cJ3_checkIndex_8e157 3 (some .int), Cond.methodLink RJx4a65c 123 yJx4a65c_elementData_915e3, Cond.instanceMethod yJx4a65c_elementData_915e3, Cond.selects RJx4a65c yJx4a65c_elementData_915e3 yJx4a65c_elementData_915e3, Cond.code yJx4a65c_elementData_915e3 cJx4a65c_elementData_915e3 2 (some (.object "java/lang/Object")), Cond.fieldLink RJx4a65c 9 "java/util/ArrayList" "elementData" "[Ljava/lang/Object;", Cond.methodLink RX5 43 yJx4a65c_remove_915e3, Cond.instanceMethod yJx4a65c_remove_915e3, Cond.selects RJx4a65c yJx4a65c_remove_915e3 yJx4a65c_remove_915e3, Cond.code yJx4a65c_remove_915e3 cJx4a65c_remove_915e3 4 (some (.object "java/lang/Object")), Cond.methodLink RJx4a65c 144 yJx4a65c_fastRemove_b59b0, Cond.instanceMethod yJx4a65c_fastRemove_b59b0, Cond.selects RJx4a65c yJx4a65c_fastRemove_b59b0 yJx4a65c_fastRemove_b59b0, Cond.code yJx4a65c_fastRemove_b59b0 cJx4a65c_fastRemove_b59b0 4 none, Cond.fieldLink RJx4a65c 63 "java/util/ArrayList" "modCount" "I", Cond.sameField "java/util/ArrayList" "java/util/AbstractList" "modCount" "I", Cond.methodLink RJx4a65c 112 arraycopyName]
def wsX6_acknowledge_r3 : List Cond := [Cond.native arraycopyName, Cond.static arraycopyName, Cond.initialized "java/lang/System", Cond.selects RX4 ⟨"QuayMesh$Worker", "takeOut", "(LQuayMesh$Message;)V"⟩ yX5_takeOut, Cond.methodLink RX6 300 yX2_isMoveMade, Cond.instanceMethod yX2_isMoveMade, Cond.selects RX2 yX2_isMoveMade yX2_isMoveMade, Cond.initialized RX2, Cond.code yX2_isMoveMade cX2_isMoveMade 1 (some .boolean), Cond.fieldLink RX2 15 "QuayMesh$Message" "orderMade" "I", Cond.methodLink RX6 43 yJx4a65c_add_9ea2d, Cond.instanceMethod yJx4a65c_add_9ea2d, Cond.selects RJx4a65c yJx4a65c_add_9ea2d yJx4a65c_add_9ea2d, Cond.code yJx4a65c_add_9ea2d cJx4a65c_add_9ea2d 2 (some .boolean), Cond.methodLink RJx4a65c 131 yJx4a65c_add_72be8, Cond.instanceMethod yJx4a65c_add_72be8, Cond.selects RJx4a65c yJx4a65c_add_72be8 yJx4a65c_add_72be8, Cond.code yJx4a65c_add_72be8 cJx4a65c_add_72be8 4 none, Cond.methodLink RJx4a65c 129 yJx4a65c_grow_d5877, Cond.instanceMethod yJx4a65c_grow_d5877, Cond.selects RJx4a65c yJx4a65c_grow_d5877 yJx4a65c_grow_d5877, Cond.code yJx4a65c_grow_d5877 cJx4a65c_grow_d5877 1 (some (.array (.object "java/lang/Object"))), Cond.methodLink RJx4a65c 69 yJx4a65c_grow_92f84, Cond.instanceMethod yJx4a65c_grow_92f84]
def wsX6_acknowledge_r4 : List Cond := [Cond.selects RJx4a65c yJx4a65c_grow_92f84 yJx4a65c_grow_92f84, Cond.code yJx4a65c_grow_92f84 cJx4a65c_grow_92f84 4 (some (.array (.object "java/lang/Object"))), Cond.fieldLink RJx4a65c 39 "java/util/ArrayList" "DEFAULTCAPACITY_EMPTY_ELEMENTDATA" "[Ljava/lang/Object;", Cond.methodLink RJx4a65c 79 Lib.Math.max.name, Cond.static Lib.Math.max.name, Cond.initialized "java/lang/Math", Cond.code Lib.Math.max.name Lib.Math.max.code 2 (some .int), Cond.classLink RJx4a65c 7 "java/lang/Object", Cond.methodLink RJx4a65c 73 yJ8_newLength_cabcc, Cond.static yJ8_newLength_cabcc, Cond.initialized RJ8, Cond.code yJ8_newLength_cabcc cJ8_newLength_cabcc 4 (some .int), Cond.methodLink RJ8 194 Lib.Math.max.name, Cond.constant RJ8 200 (2147483639), Cond.methodLink RJ8 201 yJ8_hugeLength_7cf53, Cond.static yJ8_hugeLength_7cf53, Cond.code yJ8_hugeLength_7cf53 cJ8_hugeLength_7cf53 3 (some .int), Cond.methodLink RJx4a65c 66 yJ7_copyOf_1904c, Cond.static yJ7_copyOf_1904c, Cond.initialized RJ7, Cond.code yJ7_copyOf_1904c cJ7_copyOf_1904c 2 (some (.array (.object "java/lang/Object"))), Cond.methodLink RJ7 86 ⟨"java/lang/Object", "getClass", "()Ljava/lang/Class;"⟩, Cond.selects "[Ljava/lang/Object;" ⟨"java/lang/Object", "getClass", "()Ljava/lang/Class;"⟩ ⟨"java/lang/Object", "getClass", "()Ljava/lang/Class;"⟩, Cond.instanceMethod ⟨"java/lang/Object", "getClass", "()Ljava/lang/Class;"⟩]
def wsX6_acknowledge_r5 : List Cond := [Cond.native ⟨"java/lang/Object", "getClass", "()Ljava/lang/Class;"⟩, Cond.methodLink RJ7 300 yJ7_copyOf_6403c, Cond.static yJ7_copyOf_6403c, Cond.code yJ7_copyOf_6403c cJ7_copyOf_6403c 4 (some (.array (.object "java/lang/Object"))), Cond.classLink RJ7 110 "[Ljava/lang/Object;", Cond.classLink RJ7 2 "java/lang/Object", Cond.methodLink RJ7 304 Lib.Math.min.name, Cond.static Lib.Math.min.name, Cond.code Lib.Math.min.name Lib.Math.min.code 2 (some .int), Cond.methodLink RJ7 150 arraycopyName]
def wsX6_acknowledge : List Cond := .code yX6_acknowledge cX6_acknowledge 3 (some .int) :: ((wsX6_acknowledge_r1 ++ (wsX6_acknowledge_r2 ++ (wsX6_acknowledge_r3 ++ (wsX6_acknowledge_r4 ++ wsX6_acknowledge_r5)))) ++ wsX10 ++ wsX40 ++ wsX20 ++ wsX60 ++ wsJx4a65c0)
def wsX6_canGo_r1 : List Cond := [Cond.fieldLink RX6 239 "QuayMesh$Crane" "place" "I", Cond.methodLink RX6 221 yX6_craneNumbered, Cond.instanceMethod yX6_craneNumbered, Cond.selects RX6 yX6_craneNumbered yX6_craneNumbered, Cond.initialized RX6, Cond.code yX6_craneNumbered cX6_craneNumbered 2 (some (.object "QuayMesh$Crane")), Cond.fieldLink RX6 25 "QuayMesh" "cranes" "Ljava/util/ArrayList;", Cond.classLink RX6 38 "QuayMesh$Crane", Cond.methodLink RX6 62 yJx4a65c_size_8abf5, Cond.instanceMethod yJx4a65c_size_8abf5, Cond.selects RJx4a65c yJx4a65c_size_8abf5 yJx4a65c_size_8abf5, Cond.initialized RJx4a65c, Cond.code yJx4a65c_size_8abf5 cJx4a65c_size_8abf5 1 (some .int), Cond.fieldLink RJx4a65c 48 "java/util/ArrayList" "size" "I", Cond.methodLink RX6 52 yX6_requireOneOf, Cond.static yX6_requireOneOf, Cond.code yX6_requireOneOf cX6_requireOneOf 2 none, Cond.classLink RX6 127 "java/lang/IndexOutOfBoundsException", Cond.initialized "java/lang/IndexOutOfBoundsException", Cond.methodLink RX6 97 yJx4a65c_get_915e3, Cond.instanceMethod yJx4a65c_get_915e3, Cond.selects RJx4a65c yJx4a65c_get_915e3 yJx4a65c_get_915e3, Cond.code yJx4a65c_get_915e3 cJx4a65c_get_915e3 2 (some (.object "java/lang/Object")), Cond.methodLink RJx4a65c 118 yJ15_checkIndex_7cf53]
def wsX6_canGo_r2 : List Cond := [Cond.static yJ15_checkIndex_7cf53, Cond.initialized RJ15, Cond.code yJ15_checkIndex_7cf53 cJ15_checkIndex_7cf53 2 (some .int), Cond.methodLink RJ15 105 yJ3_checkIndex_8e157, Cond.static yJ3_checkIndex_8e157, Cond.initialized RJ3, Cond.code yJ3_checkIndex_8e157 cJ3_checkIndex_8e157 3 (some .int), Cond.methodLink RJx4a65c 123 yJx4a65c_elementData_915e3, Cond.instanceMethod yJx4a65c_elementData_915e3, Cond.selects RJx4a65c yJx4a65c_elementData_915e3 yJx4a65c_elementData_915e3, Cond.code yJx4a65c_elementData_915e3 cJx4a65c_elementData_915e3 2 (some (.object "java/lang/Object")), Cond.fieldLink RJx4a65c 9 "java/util/ArrayList" "elementData" "[Ljava/lang/Object;"]
def wsX6_canGo : List Cond := .code yX6_canGo cX6_canGo 5 (some .boolean) :: ((wsX6_canGo_r1 ++ wsX6_canGo_r2) ++ wsX10 ++ wsX60 ++ wsJx4a65c0 ++ (vx_atS RX6 131 "java/lang/IndexOutOfBoundsException" ["java/lang/RuntimeException", "java/lang/Exception"]).filter goodWord)
def wsX6_countAt_r1 : List Cond := [Cond.fieldLink RX6 16 "QuayMesh" "allBoxes" "Ljava/util/ArrayList;", Cond.classLink RX6 92 "QuayMesh$Box", Cond.methodLink RX6 62 yJx4a65c_size_8abf5, Cond.instanceMethod yJx4a65c_size_8abf5, Cond.selects RJx4a65c yJx4a65c_size_8abf5 yJx4a65c_size_8abf5, Cond.initialized RJx4a65c, Cond.code yJx4a65c_size_8abf5 cJx4a65c_size_8abf5 1 (some .int), Cond.fieldLink RJx4a65c 48 "java/util/ArrayList" "size" "I", Cond.methodLink RX6 97 yJx4a65c_get_915e3, Cond.instanceMethod yJx4a65c_get_915e3, Cond.selects RJx4a65c yJx4a65c_get_915e3 yJx4a65c_get_915e3, Cond.code yJx4a65c_get_915e3 cJx4a65c_get_915e3 2 (some (.object "java/lang/Object")), Cond.methodLink RJx4a65c 118 yJ15_checkIndex_7cf53, Cond.static yJ15_checkIndex_7cf53, Cond.initialized RJ15, Cond.code yJ15_checkIndex_7cf53 cJ15_checkIndex_7cf53 2 (some .int), Cond.methodLink RJ15 105 yJ3_checkIndex_8e157, Cond.static yJ3_checkIndex_8e157, Cond.initialized RJ3, Cond.code yJ3_checkIndex_8e157 cJ3_checkIndex_8e157 3 (some .int), Cond.methodLink RJx4a65c 123 yJx4a65c_elementData_915e3, Cond.instanceMethod yJx4a65c_elementData_915e3, Cond.selects RJx4a65c yJx4a65c_elementData_915e3 yJx4a65c_elementData_915e3, Cond.code yJx4a65c_elementData_915e3 cJx4a65c_elementData_915e3 2 (some (.object "java/lang/Object"))]
def wsX6_countAt_r2 : List Cond := [Cond.fieldLink RJx4a65c 9 "java/util/ArrayList" "elementData" "[Ljava/lang/Object;", Cond.methodLink RX6 189 yX0_isAt, Cond.instanceMethod yX0_isAt, Cond.selects RX0 yX0_isAt yX0_isAt, Cond.initialized RX0, Cond.code yX0_isAt cX0_isAt 3 (some .boolean), Cond.fieldLink RX0 9 "QuayMesh$Box" "where" "I", Cond.fieldLink RX0 34 "QuayMesh$Box" "spot" "I"]
def wsX6_countAt : List Cond := .code yX6_countAt cX6_countAt 5 (some .int) :: ((wsX6_countAt_r1 ++ wsX6_countAt_r2) ++ wsX60 ++ wsJx4a65c0 ++ wsX00)
def wsX6_noteMove : List Cond := .code yX6_noteMove cX6_noteMove 2 none :: ([.fieldLink RX6 35 "QuayMesh" "movesMade" "I", .fieldLink RX6 293 "QuayMesh$Message" "orderMade" "I"] ++ wsX60 ++ wsX20)
def wsX6_lift_r1 : List Cond := [Cond.fieldLink RX6 185 "QuayMesh$Message" "box" "LQuayMesh$Box;", Cond.fieldLink RX6 105 "QuayMesh$Box" "where" "I", Cond.fieldLink RX6 258 "QuayMesh$Crane" "number" "I", Cond.sameField "QuayMesh$Crane" "QuayMesh$Worker" "number" "I", Cond.fieldLink RX6 259 "QuayMesh$Box" "place" "I", Cond.fieldLink RX6 239 "QuayMesh$Crane" "place" "I", Cond.fieldLink RX6 264 "QuayMesh$Box" "lifter" "I", Cond.fieldLink RX6 270 "QuayMesh$Crane" "remembered" "Ljava/util/ArrayList;", Cond.sameField "QuayMesh$Crane" "QuayMesh$Worker" "remembered" "Ljava/util/ArrayList;", Cond.methodLink RX6 250 yX6_acknowledge, Cond.instanceMethod yX6_acknowledge, Cond.selects RX6 yX6_acknowledge yX6_acknowledge, Cond.initialized RX6, Cond.code yX6_acknowledge cX6_acknowledge 3 (some .int), Cond.fieldLink RX6 207 "QuayMesh$Worker" "lossesOfAcks" "I", Cond.fieldLink RX6 213 "QuayMesh$Worker" "lastAcknowledged" "LQuayMesh$Message;", Cond.fieldLink RX6 303 "QuayMesh$Message" "isLogged" "Z", Cond.fieldLink RX6 22 "QuayMesh" "log" "Ljava/util/ArrayList;", Cond.methodLink RX6 297 ⟨"QuayMesh$Worker", "takeOut", "(LQuayMesh$Message;)V"⟩, Cond.sameMethod "QuayMesh$Worker" "QuayMesh$Worker" "takeOut" "(LQuayMesh$Message;)V", Cond.selects RX1 ⟨"QuayMesh$Worker", "takeOut", "(LQuayMesh$Message;)V"⟩ yX5_takeOut, Cond.instanceMethod yX5_takeOut, Cond.initialized RX5, Cond.code yX5_takeOut cX5_takeOut 3 none]
def wsX6_lift_r2 : List Cond := [Cond.fieldLink RX5 12 "QuayMesh$Worker" "waiting" "Ljava/util/ArrayList;", Cond.static yX6_indexOf, Cond.code yX6_indexOf cX6_indexOf 3 (some .int), Cond.methodLink RX6 62 yJx4a65c_size_8abf5, Cond.instanceMethod yJx4a65c_size_8abf5, Cond.selects RJx4a65c yJx4a65c_size_8abf5 yJx4a65c_size_8abf5, Cond.initialized RJx4a65c, Cond.code yJx4a65c_size_8abf5 cJx4a65c_size_8abf5 1 (some .int), Cond.fieldLink RJx4a65c 48 "java/util/ArrayList" "size" "I", Cond.methodLink RX6 97 yJx4a65c_get_915e3, Cond.instanceMethod yJx4a65c_get_915e3, Cond.selects RJx4a65c yJx4a65c_get_915e3 yJx4a65c_get_915e3, Cond.code yJx4a65c_get_915e3 cJx4a65c_get_915e3 2 (some (.object "java/lang/Object")), Cond.methodLink RJx4a65c 118 yJ15_checkIndex_7cf53, Cond.static yJ15_checkIndex_7cf53, Cond.initialized RJ15, Cond.code yJ15_checkIndex_7cf53 cJ15_checkIndex_7cf53 2 (some .int), Cond.methodLink RJ15 105 yJ3_checkIndex_8e157, Cond.static yJ3_checkIndex_8e157, Cond.initialized RJ3, Cond.code yJ3_checkIndex_8e157 cJ3_checkIndex_8e157 3 (some .int), Cond.methodLink RJx4a65c 123 yJx4a65c_elementData_915e3, Cond.instanceMethod yJx4a65c_elementData_915e3, Cond.selects RJx4a65c yJx4a65c_elementData_915e3 yJx4a65c_elementData_915e3]
def wsX6_lift_r3 : List Cond := [Cond.code yJx4a65c_elementData_915e3 cJx4a65c_elementData_915e3 2 (some (.object "java/lang/Object")), Cond.fieldLink RJx4a65c 9 "java/util/ArrayList" "elementData" "[Ljava/lang/Object;", Cond.methodLink RX5 43 yJx4a65c_remove_915e3, Cond.instanceMethod yJx4a65c_remove_915e3, Cond.selects RJx4a65c yJx4a65c_remove_915e3 yJx4a65c_remove_915e3, Cond.code yJx4a65c_remove_915e3 cJx4a65c_remove_915e3 4 (some (.object "java/lang/Object")), Cond.methodLink RJx4a65c 144 yJx4a65c_fastRemove_b59b0, Cond.instanceMethod yJx4a65c_fastRemove_b59b0, Cond.selects RJx4a65c yJx4a65c_fastRemove_b59b0 yJx4a65c_fastRemove_b59b0, Cond.code yJx4a65c_fastRemove_b59b0 cJx4a65c_fastRemove_b59b0 4 none, Cond.fieldLink RJx4a65c 63 "java/util/ArrayList" "modCount" "I", Cond.sameField "java/util/ArrayList" "java/util/AbstractList" "modCount" "I", Cond.methodLink RJx4a65c 112 arraycopyName, Cond.native arraycopyName, Cond.static arraycopyName, Cond.initialized "java/lang/System", Cond.selects RX4 ⟨"QuayMesh$Worker", "takeOut", "(LQuayMesh$Message;)V"⟩ yX5_takeOut, Cond.methodLink RX6 300 yX2_isMoveMade, Cond.instanceMethod yX2_isMoveMade, Cond.selects RX2 yX2_isMoveMade yX2_isMoveMade, Cond.initialized RX2, Cond.code yX2_isMoveMade cX2_isMoveMade 1 (some .boolean), Cond.fieldLink RX2 15 "QuayMesh$Message" "orderMade" "I", Cond.methodLink RX6 43 yJx4a65c_add_9ea2d]
def wsX6_lift_r4 : List Cond := [Cond.instanceMethod yJx4a65c_add_9ea2d, Cond.selects RJx4a65c yJx4a65c_add_9ea2d yJx4a65c_add_9ea2d, Cond.code yJx4a65c_add_9ea2d cJx4a65c_add_9ea2d 2 (some .boolean), Cond.methodLink RJx4a65c 131 yJx4a65c_add_72be8, Cond.instanceMethod yJx4a65c_add_72be8, Cond.selects RJx4a65c yJx4a65c_add_72be8 yJx4a65c_add_72be8, Cond.code yJx4a65c_add_72be8 cJx4a65c_add_72be8 4 none, Cond.methodLink RJx4a65c 129 yJx4a65c_grow_d5877, Cond.instanceMethod yJx4a65c_grow_d5877, Cond.selects RJx4a65c yJx4a65c_grow_d5877 yJx4a65c_grow_d5877, Cond.code yJx4a65c_grow_d5877 cJx4a65c_grow_d5877 1 (some (.array (.object "java/lang/Object"))), Cond.methodLink RJx4a65c 69 yJx4a65c_grow_92f84, Cond.instanceMethod yJx4a65c_grow_92f84, Cond.selects RJx4a65c yJx4a65c_grow_92f84 yJx4a65c_grow_92f84, Cond.code yJx4a65c_grow_92f84 cJx4a65c_grow_92f84 4 (some (.array (.object "java/lang/Object"))), Cond.fieldLink RJx4a65c 39 "java/util/ArrayList" "DEFAULTCAPACITY_EMPTY_ELEMENTDATA" "[Ljava/lang/Object;", Cond.methodLink RJx4a65c 79 Lib.Math.max.name, Cond.static Lib.Math.max.name, Cond.initialized "java/lang/Math", Cond.code Lib.Math.max.name Lib.Math.max.code 2 (some .int), Cond.classLink RJx4a65c 7 "java/lang/Object", Cond.methodLink RJx4a65c 73 yJ8_newLength_cabcc, Cond.static yJ8_newLength_cabcc, Cond.initialized RJ8]
def wsX6_lift_r5 : List Cond := [Cond.code yJ8_newLength_cabcc cJ8_newLength_cabcc 4 (some .int), Cond.methodLink RJ8 194 Lib.Math.max.name, Cond.constant RJ8 200 (2147483639), Cond.methodLink RJ8 201 yJ8_hugeLength_7cf53, Cond.static yJ8_hugeLength_7cf53, Cond.code yJ8_hugeLength_7cf53 cJ8_hugeLength_7cf53 3 (some .int), Cond.methodLink RJx4a65c 66 yJ7_copyOf_1904c, Cond.static yJ7_copyOf_1904c, Cond.initialized RJ7, Cond.code yJ7_copyOf_1904c cJ7_copyOf_1904c 2 (some (.array (.object "java/lang/Object"))), Cond.methodLink RJ7 86 ⟨"java/lang/Object", "getClass", "()Ljava/lang/Class;"⟩, Cond.selects "[Ljava/lang/Object;" ⟨"java/lang/Object", "getClass", "()Ljava/lang/Class;"⟩ ⟨"java/lang/Object", "getClass", "()Ljava/lang/Class;"⟩, Cond.instanceMethod ⟨"java/lang/Object", "getClass", "()Ljava/lang/Class;"⟩, Cond.native ⟨"java/lang/Object", "getClass", "()Ljava/lang/Class;"⟩, Cond.methodLink RJ7 300 yJ7_copyOf_6403c, Cond.static yJ7_copyOf_6403c, Cond.code yJ7_copyOf_6403c cJ7_copyOf_6403c 4 (some (.array (.object "java/lang/Object"))), Cond.classLink RJ7 110 "[Ljava/lang/Object;", Cond.classLink RJ7 2 "java/lang/Object", Cond.methodLink RJ7 304 Lib.Math.min.name, Cond.static Lib.Math.min.name, Cond.code Lib.Math.min.name Lib.Math.min.code 2 (some .int), Cond.methodLink RJ7 150 arraycopyName, Cond.methodLink RX6 234 yX6_canGo]
def wsX6_lift_r6 : List Cond := [Cond.instanceMethod yX6_canGo, Cond.selects RX6 yX6_canGo yX6_canGo, Cond.code yX6_canGo cX6_canGo 5 (some .boolean), Cond.methodLink RX6 221 yX6_craneNumbered, Cond.instanceMethod yX6_craneNumbered, Cond.selects RX6 yX6_craneNumbered yX6_craneNumbered, Cond.code yX6_craneNumbered cX6_craneNumbered 2 (some (.object "QuayMesh$Crane")), Cond.fieldLink RX6 25 "QuayMesh" "cranes" "Ljava/util/ArrayList;", Cond.classLink RX6 38 "QuayMesh$Crane", Cond.methodLink RX6 52 yX6_requireOneOf, Cond.static yX6_requireOneOf, Cond.code yX6_requireOneOf cX6_requireOneOf 2 none, Cond.classLink RX6 127 "java/lang/IndexOutOfBoundsException", Cond.initialized "java/lang/IndexOutOfBoundsException", Cond.methodLink RX6 260 yX6_countAt, Cond.instanceMethod yX6_countAt, Cond.selects RX6 yX6_countAt yX6_countAt, Cond.code yX6_countAt cX6_countAt 5 (some .int), Cond.fieldLink RX6 16 "QuayMesh" "allBoxes" "Ljava/util/ArrayList;", Cond.classLink RX6 92 "QuayMesh$Box", Cond.methodLink RX6 189 yX0_isAt, Cond.instanceMethod yX0_isAt, Cond.selects RX0 yX0_isAt yX0_isAt, Cond.initialized RX0]
def wsX6_lift_r7 : List Cond := [Cond.code yX0_isAt cX0_isAt 3 (some .boolean), Cond.fieldLink RX0 9 "QuayMesh$Box" "where" "I", Cond.fieldLink RX0 34 "QuayMesh$Box" "spot" "I", Cond.methodLink RX6 202 yX0_bring, Cond.instanceMethod yX0_bring, Cond.selects RX0 yX0_bring yX0_bring, Cond.code yX0_bring cX0_bring 3 none, Cond.methodLink RX6 267 yX6_noteMove, Cond.instanceMethod yX6_noteMove, Cond.selects RX6 yX6_noteMove yX6_noteMove, Cond.code yX6_noteMove cX6_noteMove 2 none, Cond.fieldLink RX6 35 "QuayMesh" "movesMade" "I", Cond.fieldLink RX6 293 "QuayMesh$Message" "orderMade" "I"]
def wsX6_lift : List Cond := .code yX6_lift cX6_lift 4 (some .int) :: ((wsX6_lift_r1 ++ (wsX6_lift_r2 ++ (wsX6_lift_r3 ++ (wsX6_lift_r4 ++ (wsX6_lift_r5 ++ (wsX6_lift_r6 ++ wsX6_lift_r7)))))) ++ wsX20 ++ wsX00 ++ wsX10 ++ wsX40 ++ wsX60 ++ wsJx4a65c0 ++ (vx_atS RX6 131 "java/lang/IndexOutOfBoundsException" ["java/lang/RuntimeException", "java/lang/Exception"]).filter goodWord)
def wsX6_handOver_r1 : List Cond := [Cond.fieldLink RX6 210 "QuayMesh$Worker" "lossesOfMessages" "I", Cond.fieldLink RX6 242 "QuayMesh$Worker" "isSilent" "Z", Cond.fieldLink RX6 247 "QuayMesh$Worker" "remembered" "Ljava/util/ArrayList;", Cond.fieldLink RX6 253 "QuayMesh$Worker" "number" "I", Cond.fieldLink RX6 173 "QuayMesh$Truck" "lastSeen" "LQuayMesh$Message;", Cond.methodLink RX6 243 yX6_indexOf, Cond.static yX6_indexOf, Cond.initialized RX6, Cond.code yX6_indexOf cX6_indexOf 3 (some .int), Cond.methodLink RX6 62 yJx4a65c_size_8abf5, Cond.instanceMethod yJx4a65c_size_8abf5, Cond.selects RJx4a65c yJx4a65c_size_8abf5 yJx4a65c_size_8abf5, Cond.initialized RJx4a65c, Cond.code yJx4a65c_size_8abf5 cJx4a65c_size_8abf5 1 (some .int), Cond.fieldLink RJx4a65c 48 "java/util/ArrayList" "size" "I", Cond.methodLink RX6 97 yJx4a65c_get_915e3, Cond.instanceMethod yJx4a65c_get_915e3, Cond.selects RJx4a65c yJx4a65c_get_915e3 yJx4a65c_get_915e3, Cond.code yJx4a65c_get_915e3 cJx4a65c_get_915e3 2 (some (.object "java/lang/Object")), Cond.methodLink RJx4a65c 118 yJ15_checkIndex_7cf53, Cond.static yJ15_checkIndex_7cf53, Cond.initialized RJ15, Cond.code yJ15_checkIndex_7cf53 cJ15_checkIndex_7cf53 2 (some .int), Cond.methodLink RJ15 105 yJ3_checkIndex_8e157]
def wsX6_handOver_r2 : List Cond := [Cond.static yJ3_checkIndex_8e157, Cond.initialized RJ3, Cond.code yJ3_checkIndex_8e157 cJ3_checkIndex_8e157 3 (some .int), Cond.methodLink RJx4a65c 123 yJx4a65c_elementData_915e3, Cond.instanceMethod yJx4a65c_elementData_915e3, Cond.selects RJx4a65c yJx4a65c_elementData_915e3 yJx4a65c_elementData_915e3, Cond.code yJx4a65c_elementData_915e3 cJx4a65c_elementData_915e3 2 (some (.object "java/lang/Object")), Cond.fieldLink RJx4a65c 9 "java/util/ArrayList" "elementData" "[Ljava/lang/Object;", Cond.methodLink RX6 250 yX6_acknowledge, Cond.instanceMethod yX6_acknowledge, Cond.selects RX6 yX6_acknowledge yX6_acknowledge, Cond.code yX6_acknowledge cX6_acknowledge 3 (some .int), Cond.fieldLink RX6 207 "QuayMesh$Worker" "lossesOfAcks" "I", Cond.fieldLink RX6 213 "QuayMesh$Worker" "lastAcknowledged" "LQuayMesh$Message;", Cond.fieldLink RX6 303 "QuayMesh$Message" "isLogged" "Z", Cond.fieldLink RX6 22 "QuayMesh" "log" "Ljava/util/ArrayList;", Cond.methodLink RX6 297 ⟨"QuayMesh$Worker", "takeOut", "(LQuayMesh$Message;)V"⟩, Cond.sameMethod "QuayMesh$Worker" "QuayMesh$Worker" "takeOut" "(LQuayMesh$Message;)V", Cond.selects RX1 ⟨"QuayMesh$Worker", "takeOut", "(LQuayMesh$Message;)V"⟩ yX5_takeOut, Cond.instanceMethod yX5_takeOut, Cond.initialized RX5, Cond.code yX5_takeOut cX5_takeOut 3 none, Cond.fieldLink RX5 12 "QuayMesh$Worker" "waiting" "Ljava/util/ArrayList;", Cond.methodLink RX5 43 yJx4a65c_remove_915e3]
def wsX6_handOver_r3 : List Cond := [Cond.instanceMethod yJx4a65c_remove_915e3, Cond.selects RJx4a65c yJx4a65c_remove_915e3 yJx4a65c_remove_915e3, Cond.code yJx4a65c_remove_915e3 cJx4a65c_remove_915e3 4 (some (.object "java/lang/Object")), Cond.methodLink RJx4a65c 144 yJx4a65c_fastRemove_b59b0, Cond.instanceMethod yJx4a65c_fastRemove_b59b0, Cond.selects RJx4a65c yJx4a65c_fastRemove_b59b0 yJx4a65c_fastRemove_b59b0, Cond.code yJx4a65c_fastRemove_b59b0 cJx4a65c_fastRemove_b59b0 4 none, Cond.fieldLink RJx4a65c 63 "java/util/ArrayList" "modCount" "I", Cond.sameField "java/util/ArrayList" "java/util/AbstractList" "modCount" "I", Cond.methodLink RJx4a65c 112 arraycopyName, Cond.native arraycopyName, Cond.static arraycopyName, Cond.initialized "java/lang/System", Cond.selects RX4 ⟨"QuayMesh$Worker", "takeOut", "(LQuayMesh$Message;)V"⟩ yX5_takeOut, Cond.methodLink RX6 300 yX2_isMoveMade, Cond.instanceMethod yX2_isMoveMade, Cond.selects RX2 yX2_isMoveMade yX2_isMoveMade, Cond.initialized RX2, Cond.code yX2_isMoveMade cX2_isMoveMade 1 (some .boolean), Cond.fieldLink RX2 15 "QuayMesh$Message" "orderMade" "I", Cond.methodLink RX6 43 yJx4a65c_add_9ea2d, Cond.instanceMethod yJx4a65c_add_9ea2d, Cond.selects RJx4a65c yJx4a65c_add_9ea2d yJx4a65c_add_9ea2d, Cond.code yJx4a65c_add_9ea2d cJx4a65c_add_9ea2d 2 (some .boolean)]
def wsX6_handOver_r4 : List Cond := [Cond.methodLink RJx4a65c 131 yJx4a65c_add_72be8, Cond.instanceMethod yJx4a65c_add_72be8, Cond.selects RJx4a65c yJx4a65c_add_72be8 yJx4a65c_add_72be8, Cond.code yJx4a65c_add_72be8 cJx4a65c_add_72be8 4 none, Cond.methodLink RJx4a65c 129 yJx4a65c_grow_d5877, Cond.instanceMethod yJx4a65c_grow_d5877, Cond.selects RJx4a65c yJx4a65c_grow_d5877 yJx4a65c_grow_d5877, Cond.code yJx4a65c_grow_d5877 cJx4a65c_grow_d5877 1 (some (.array (.object "java/lang/Object"))), Cond.methodLink RJx4a65c 69 yJx4a65c_grow_92f84, Cond.instanceMethod yJx4a65c_grow_92f84, Cond.selects RJx4a65c yJx4a65c_grow_92f84 yJx4a65c_grow_92f84, Cond.code yJx4a65c_grow_92f84 cJx4a65c_grow_92f84 4 (some (.array (.object "java/lang/Object"))), Cond.fieldLink RJx4a65c 39 "java/util/ArrayList" "DEFAULTCAPACITY_EMPTY_ELEMENTDATA" "[Ljava/lang/Object;", Cond.methodLink RJx4a65c 79 Lib.Math.max.name, Cond.static Lib.Math.max.name, Cond.initialized "java/lang/Math", Cond.code Lib.Math.max.name Lib.Math.max.code 2 (some .int), Cond.classLink RJx4a65c 7 "java/lang/Object", Cond.methodLink RJx4a65c 73 yJ8_newLength_cabcc, Cond.static yJ8_newLength_cabcc, Cond.initialized RJ8, Cond.code yJ8_newLength_cabcc cJ8_newLength_cabcc 4 (some .int), Cond.methodLink RJ8 194 Lib.Math.max.name, Cond.constant RJ8 200 (2147483639)]
def wsX6_handOver_r5 : List Cond := [Cond.methodLink RJ8 201 yJ8_hugeLength_7cf53, Cond.static yJ8_hugeLength_7cf53, Cond.code yJ8_hugeLength_7cf53 cJ8_hugeLength_7cf53 3 (some .int), Cond.methodLink RJx4a65c 66 yJ7_copyOf_1904c, Cond.static yJ7_copyOf_1904c, Cond.initialized RJ7, Cond.code yJ7_copyOf_1904c cJ7_copyOf_1904c 2 (some (.array (.object "java/lang/Object"))), Cond.methodLink RJ7 86 ⟨"java/lang/Object", "getClass", "()Ljava/lang/Class;"⟩, Cond.selects "[Ljava/lang/Object;" ⟨"java/lang/Object", "getClass", "()Ljava/lang/Class;"⟩ ⟨"java/lang/Object", "getClass", "()Ljava/lang/Class;"⟩, Cond.instanceMethod ⟨"java/lang/Object", "getClass", "()Ljava/lang/Class;"⟩, Cond.native ⟨"java/lang/Object", "getClass", "()Ljava/lang/Class;"⟩, Cond.methodLink RJ7 300 yJ7_copyOf_6403c, Cond.static yJ7_copyOf_6403c, Cond.code yJ7_copyOf_6403c cJ7_copyOf_6403c 4 (some (.array (.object "java/lang/Object"))), Cond.classLink RJ7 110 "[Ljava/lang/Object;", Cond.classLink RJ7 2 "java/lang/Object", Cond.methodLink RJ7 304 Lib.Math.min.name, Cond.static Lib.Math.min.name, Cond.code Lib.Math.min.name Lib.Math.min.code 2 (some .int), Cond.methodLink RJ7 150 arraycopyName, Cond.methodLink RX6 221 yX6_craneNumbered, Cond.instanceMethod yX6_craneNumbered, Cond.selects RX6 yX6_craneNumbered yX6_craneNumbered, Cond.code yX6_craneNumbered cX6_craneNumbered 2 (some (.object "QuayMesh$Crane"))]
def wsX6_handOver_r6 : List Cond := [Cond.fieldLink RX6 25 "QuayMesh" "cranes" "Ljava/util/ArrayList;", Cond.classLink RX6 38 "QuayMesh$Crane", Cond.methodLink RX6 52 yX6_requireOneOf, Cond.static yX6_requireOneOf, Cond.code yX6_requireOneOf cX6_requireOneOf 2 none, Cond.classLink RX6 127 "java/lang/IndexOutOfBoundsException", Cond.initialized "java/lang/IndexOutOfBoundsException", Cond.methodLink RX6 254 yX6_lift, Cond.instanceMethod yX6_lift, Cond.selects RX6 yX6_lift yX6_lift, Cond.code yX6_lift cX6_lift 4 (some .int), Cond.fieldLink RX6 185 "QuayMesh$Message" "box" "LQuayMesh$Box;", Cond.fieldLink RX6 105 "QuayMesh$Box" "where" "I", Cond.fieldLink RX6 258 "QuayMesh$Crane" "number" "I", Cond.sameField "QuayMesh$Crane" "QuayMesh$Worker" "number" "I", Cond.fieldLink RX6 259 "QuayMesh$Box" "place" "I", Cond.fieldLink RX6 239 "QuayMesh$Crane" "place" "I", Cond.fieldLink RX6 264 "QuayMesh$Box" "lifter" "I", Cond.fieldLink RX6 270 "QuayMesh$Crane" "remembered" "Ljava/util/ArrayList;", Cond.sameField "QuayMesh$Crane" "QuayMesh$Worker" "remembered" "Ljava/util/ArrayList;", Cond.methodLink RX6 234 yX6_canGo, Cond.instanceMethod yX6_canGo, Cond.selects RX6 yX6_canGo yX6_canGo, Cond.code yX6_canGo cX6_canGo 5 (some .boolean)]
def wsX6_handOver_r7 : List Cond := [Cond.methodLink RX6 260 yX6_countAt, Cond.instanceMethod yX6_countAt, Cond.selects RX6 yX6_countAt yX6_countAt, Cond.code yX6_countAt cX6_countAt 5 (some .int), Cond.fieldLink RX6 16 "QuayMesh" "allBoxes" "Ljava/util/ArrayList;", Cond.classLink RX6 92 "QuayMesh$Box", Cond.methodLink RX6 189 yX0_isAt, Cond.instanceMethod yX0_isAt, Cond.selects RX0 yX0_isAt yX0_isAt, Cond.initialized RX0, Cond.code yX0_isAt cX0_isAt 3 (some .boolean), Cond.fieldLink RX0 9 "QuayMesh$Box" "where" "I", Cond.fieldLink RX0 34 "QuayMesh$Box" "spot" "I", Cond.methodLink RX6 202 yX0_bring, Cond.instanceMethod yX0_bring, Cond.selects RX0 yX0_bring yX0_bring, Cond.code yX0_bring cX0_bring 3 none, Cond.methodLink RX6 267 yX6_noteMove, Cond.instanceMethod yX6_noteMove, Cond.selects RX6 yX6_noteMove yX6_noteMove, Cond.code yX6_noteMove cX6_noteMove 2 none, Cond.fieldLink RX6 35 "QuayMesh" "movesMade" "I", Cond.fieldLink RX6 293 "QuayMesh$Message" "orderMade" "I", Cond.methodLink RX6 169 yX6_truckNumbered]
def wsX6_handOver_r8 : List Cond := [Cond.instanceMethod yX6_truckNumbered, Cond.selects RX6 yX6_truckNumbered yX6_truckNumbered, Cond.code yX6_truckNumbered cX6_truckNumbered 2 (some (.object "QuayMesh$Truck")), Cond.fieldLink RX6 28 "QuayMesh" "trucks" "Ljava/util/ArrayList;", Cond.classLink RX6 47 "QuayMesh$Truck"]
def wsX6_handOver : List Cond := .code yX6_handOver cX6_handOver 3 (some .int) :: ((wsX6_handOver_r1 ++ (wsX6_handOver_r2 ++ (wsX6_handOver_r3 ++ (wsX6_handOver_r4 ++ (wsX6_handOver_r5 ++ (wsX6_handOver_r6 ++ (wsX6_handOver_r7 ++ wsX6_handOver_r8))))))) ++ wsX10 ++ wsX40 ++ wsJx4a65c0 ++ wsX20 ++ wsX60 ++ wsX00 ++ (vx_atS RX6 131 "java/lang/IndexOutOfBoundsException" ["java/lang/RuntimeException", "java/lang/Exception"]).filter goodWord)
def wsX6_deliver_r1 : List Cond := [Cond.fieldLink RX6 146 "QuayMesh$Worker" "waiting" "Ljava/util/ArrayList;", Cond.classLink RX6 141 "QuayMesh$Message", Cond.fieldLink RX6 158 "QuayMesh$Message" "timesHanded" "I", Cond.methodLink RX6 136 yX6_workerNumbered, Cond.instanceMethod yX6_workerNumbered, Cond.selects RX6 yX6_workerNumbered yX6_workerNumbered, Cond.initialized RX6, Cond.code yX6_workerNumbered cX6_workerNumbered 2 (some (.object "QuayMesh$Worker")), Cond.methodLink RX6 221 yX6_craneNumbered, Cond.instanceMethod yX6_craneNumbered, Cond.selects RX6 yX6_craneNumbered yX6_craneNumbered, Cond.code yX6_craneNumbered cX6_craneNumbered 2 (some (.object "QuayMesh$Crane")), Cond.fieldLink RX6 25 "QuayMesh" "cranes" "Ljava/util/ArrayList;", Cond.classLink RX6 38 "QuayMesh$Crane", Cond.methodLink RX6 62 yJx4a65c_size_8abf5, Cond.instanceMethod yJx4a65c_size_8abf5, Cond.selects RJx4a65c yJx4a65c_size_8abf5 yJx4a65c_size_8abf5, Cond.initialized RJx4a65c, Cond.code yJx4a65c_size_8abf5 cJx4a65c_size_8abf5 1 (some .int), Cond.fieldLink RJx4a65c 48 "java/util/ArrayList" "size" "I", Cond.methodLink RX6 52 yX6_requireOneOf, Cond.static yX6_requireOneOf, Cond.code yX6_requireOneOf cX6_requireOneOf 2 none, Cond.classLink RX6 127 "java/lang/IndexOutOfBoundsException"]
def wsX6_deliver_r2 : List Cond := [Cond.initialized "java/lang/IndexOutOfBoundsException", Cond.methodLink RX6 97 yJx4a65c_get_915e3, Cond.instanceMethod yJx4a65c_get_915e3, Cond.selects RJx4a65c yJx4a65c_get_915e3 yJx4a65c_get_915e3, Cond.code yJx4a65c_get_915e3 cJx4a65c_get_915e3 2 (some (.object "java/lang/Object")), Cond.methodLink RJx4a65c 118 yJ15_checkIndex_7cf53, Cond.static yJ15_checkIndex_7cf53, Cond.initialized RJ15, Cond.code yJ15_checkIndex_7cf53 cJ15_checkIndex_7cf53 2 (some .int), Cond.methodLink RJ15 105 yJ3_checkIndex_8e157, Cond.static yJ3_checkIndex_8e157, Cond.initialized RJ3, Cond.code yJ3_checkIndex_8e157 cJ3_checkIndex_8e157 3 (some .int), Cond.methodLink RJx4a65c 123 yJx4a65c_elementData_915e3, Cond.instanceMethod yJx4a65c_elementData_915e3, Cond.selects RJx4a65c yJx4a65c_elementData_915e3 yJx4a65c_elementData_915e3, Cond.code yJx4a65c_elementData_915e3 cJx4a65c_elementData_915e3 2 (some (.object "java/lang/Object")), Cond.fieldLink RJx4a65c 9 "java/util/ArrayList" "elementData" "[Ljava/lang/Object;", Cond.methodLink RX6 169 yX6_truckNumbered, Cond.instanceMethod yX6_truckNumbered, Cond.selects RX6 yX6_truckNumbered yX6_truckNumbered, Cond.code yX6_truckNumbered cX6_truckNumbered 2 (some (.object "QuayMesh$Truck")), Cond.fieldLink RX6 28 "QuayMesh" "trucks" "Ljava/util/ArrayList;", Cond.classLink RX6 47 "QuayMesh$Truck"]
def wsX6_deliver_r3 : List Cond := [Cond.methodLink RX6 154 yJx4a65c_isEmpty_aae02, Cond.instanceMethod yJx4a65c_isEmpty_aae02, Cond.selects RJx4a65c yJx4a65c_isEmpty_aae02 yJx4a65c_isEmpty_aae02, Cond.code yJx4a65c_isEmpty_aae02 cJx4a65c_isEmpty_aae02 1 (some .boolean), Cond.methodLink RX6 161 yX6_handOver, Cond.instanceMethod yX6_handOver, Cond.selects RX6 yX6_handOver yX6_handOver, Cond.code yX6_handOver cX6_handOver 3 (some .int), Cond.fieldLink RX6 210 "QuayMesh$Worker" "lossesOfMessages" "I", Cond.fieldLink RX6 242 "QuayMesh$Worker" "isSilent" "Z", Cond.fieldLink RX6 247 "QuayMesh$Worker" "remembered" "Ljava/util/ArrayList;", Cond.fieldLink RX6 253 "QuayMesh$Worker" "number" "I", Cond.fieldLink RX6 173 "QuayMesh$Truck" "lastSeen" "LQuayMesh$Message;", Cond.methodLink RX6 243 yX6_indexOf, Cond.static yX6_indexOf, Cond.code yX6_indexOf cX6_indexOf 3 (some .int), Cond.methodLink RX6 250 yX6_acknowledge, Cond.instanceMethod yX6_acknowledge, Cond.selects RX6 yX6_acknowledge yX6_acknowledge, Cond.code yX6_acknowledge cX6_acknowledge 3 (some .int), Cond.fieldLink RX6 207 "QuayMesh$Worker" "lossesOfAcks" "I", Cond.fieldLink RX6 213 "QuayMesh$Worker" "lastAcknowledged" "LQuayMesh$Message;", Cond.fieldLink RX6 303 "QuayMesh$Message" "isLogged" "Z", Cond.fieldLink RX6 22 "QuayMesh" "log" "Ljava/util/ArrayList;"]
def wsX6_deliver_r4 : List Cond := [Cond.methodLink RX6 297 ⟨"QuayMesh$Worker", "takeOut", "(LQuayMesh$Message;)V"⟩, Cond.sameMethod "QuayMesh$Worker" "QuayMesh$Worker" "takeOut" "(LQuayMesh$Message;)V", Cond.selects RX1 ⟨"QuayMesh$Worker", "takeOut", "(LQuayMesh$Message;)V"⟩ yX5_takeOut, Cond.instanceMethod yX5_takeOut, Cond.initialized RX5, Cond.code yX5_takeOut cX5_takeOut 3 none, Cond.fieldLink RX5 12 "QuayMesh$Worker" "waiting" "Ljava/util/ArrayList;", Cond.methodLink RX5 43 yJx4a65c_remove_915e3, Cond.instanceMethod yJx4a65c_remove_915e3, Cond.selects RJx4a65c yJx4a65c_remove_915e3 yJx4a65c_remove_915e3, Cond.code yJx4a65c_remove_915e3 cJx4a65c_remove_915e3 4 (some (.object "java/lang/Object")), Cond.methodLink RJx4a65c 144 yJx4a65c_fastRemove_b59b0, Cond.instanceMethod yJx4a65c_fastRemove_b59b0, Cond.selects RJx4a65c yJx4a65c_fastRemove_b59b0 yJx4a65c_fastRemove_b59b0, Cond.code yJx4a65c_fastRemove_b59b0 cJx4a65c_fastRemove_b59b0 4 none, Cond.fieldLink RJx4a65c 63 "java/util/ArrayList" "modCount" "I", Cond.sameField "java/util/ArrayList" "java/util/AbstractList" "modCount" "I", Cond.methodLink RJx4a65c 112 arraycopyName, Cond.native arraycopyName, Cond.static arraycopyName, Cond.initialized "java/lang/System", Cond.selects RX4 ⟨"QuayMesh$Worker", "takeOut", "(LQuayMesh$Message;)V"⟩ yX5_takeOut, Cond.methodLink RX6 300 yX2_isMoveMade, Cond.instanceMethod yX2_isMoveMade]
def wsX6_deliver_r5 : List Cond := [Cond.selects RX2 yX2_isMoveMade yX2_isMoveMade, Cond.initialized RX2, Cond.code yX2_isMoveMade cX2_isMoveMade 1 (some .boolean), Cond.fieldLink RX2 15 "QuayMesh$Message" "orderMade" "I", Cond.methodLink RX6 43 yJx4a65c_add_9ea2d, Cond.instanceMethod yJx4a65c_add_9ea2d, Cond.selects RJx4a65c yJx4a65c_add_9ea2d yJx4a65c_add_9ea2d, Cond.code yJx4a65c_add_9ea2d cJx4a65c_add_9ea2d 2 (some .boolean), Cond.methodLink RJx4a65c 131 yJx4a65c_add_72be8, Cond.instanceMethod yJx4a65c_add_72be8, Cond.selects RJx4a65c yJx4a65c_add_72be8 yJx4a65c_add_72be8, Cond.code yJx4a65c_add_72be8 cJx4a65c_add_72be8 4 none, Cond.methodLink RJx4a65c 129 yJx4a65c_grow_d5877, Cond.instanceMethod yJx4a65c_grow_d5877, Cond.selects RJx4a65c yJx4a65c_grow_d5877 yJx4a65c_grow_d5877, Cond.code yJx4a65c_grow_d5877 cJx4a65c_grow_d5877 1 (some (.array (.object "java/lang/Object"))), Cond.methodLink RJx4a65c 69 yJx4a65c_grow_92f84, Cond.instanceMethod yJx4a65c_grow_92f84, Cond.selects RJx4a65c yJx4a65c_grow_92f84 yJx4a65c_grow_92f84, Cond.code yJx4a65c_grow_92f84 cJx4a65c_grow_92f84 4 (some (.array (.object "java/lang/Object"))), Cond.fieldLink RJx4a65c 39 "java/util/ArrayList" "DEFAULTCAPACITY_EMPTY_ELEMENTDATA" "[Ljava/lang/Object;", Cond.methodLink RJx4a65c 79 Lib.Math.max.name, Cond.static Lib.Math.max.name, Cond.initialized "java/lang/Math"]
def wsX6_deliver_r6 : List Cond := [Cond.code Lib.Math.max.name Lib.Math.max.code 2 (some .int), Cond.classLink RJx4a65c 7 "java/lang/Object", Cond.methodLink RJx4a65c 73 yJ8_newLength_cabcc, Cond.static yJ8_newLength_cabcc, Cond.initialized RJ8, Cond.code yJ8_newLength_cabcc cJ8_newLength_cabcc 4 (some .int), Cond.methodLink RJ8 194 Lib.Math.max.name, Cond.constant RJ8 200 (2147483639), Cond.methodLink RJ8 201 yJ8_hugeLength_7cf53, Cond.static yJ8_hugeLength_7cf53, Cond.code yJ8_hugeLength_7cf53 cJ8_hugeLength_7cf53 3 (some .int), Cond.methodLink RJx4a65c 66 yJ7_copyOf_1904c, Cond.static yJ7_copyOf_1904c, Cond.initialized RJ7, Cond.code yJ7_copyOf_1904c cJ7_copyOf_1904c 2 (some (.array (.object "java/lang/Object"))), Cond.methodLink RJ7 86 ⟨"java/lang/Object", "getClass", "()Ljava/lang/Class;"⟩, Cond.selects "[Ljava/lang/Object;" ⟨"java/lang/Object", "getClass", "()Ljava/lang/Class;"⟩ ⟨"java/lang/Object", "getClass", "()Ljava/lang/Class;"⟩, Cond.instanceMethod ⟨"java/lang/Object", "getClass", "()Ljava/lang/Class;"⟩, Cond.native ⟨"java/lang/Object", "getClass", "()Ljava/lang/Class;"⟩, Cond.methodLink RJ7 300 yJ7_copyOf_6403c, Cond.static yJ7_copyOf_6403c, Cond.code yJ7_copyOf_6403c cJ7_copyOf_6403c 4 (some (.array (.object "java/lang/Object"))), Cond.classLink RJ7 110 "[Ljava/lang/Object;", Cond.classLink RJ7 2 "java/lang/Object"]
def wsX6_deliver_r7 : List Cond := [Cond.methodLink RJ7 304 Lib.Math.min.name, Cond.static Lib.Math.min.name, Cond.code Lib.Math.min.name Lib.Math.min.code 2 (some .int), Cond.methodLink RJ7 150 arraycopyName, Cond.methodLink RX6 254 yX6_lift, Cond.instanceMethod yX6_lift, Cond.selects RX6 yX6_lift yX6_lift, Cond.code yX6_lift cX6_lift 4 (some .int), Cond.fieldLink RX6 185 "QuayMesh$Message" "box" "LQuayMesh$Box;", Cond.fieldLink RX6 105 "QuayMesh$Box" "where" "I", Cond.fieldLink RX6 258 "QuayMesh$Crane" "number" "I", Cond.sameField "QuayMesh$Crane" "QuayMesh$Worker" "number" "I", Cond.fieldLink RX6 259 "QuayMesh$Box" "place" "I", Cond.fieldLink RX6 239 "QuayMesh$Crane" "place" "I", Cond.fieldLink RX6 264 "QuayMesh$Box" "lifter" "I", Cond.fieldLink RX6 270 "QuayMesh$Crane" "remembered" "Ljava/util/ArrayList;", Cond.sameField "QuayMesh$Crane" "QuayMesh$Worker" "remembered" "Ljava/util/ArrayList;", Cond.methodLink RX6 234 yX6_canGo, Cond.instanceMethod yX6_canGo, Cond.selects RX6 yX6_canGo yX6_canGo, Cond.code yX6_canGo cX6_canGo 5 (some .boolean), Cond.methodLink RX6 260 yX6_countAt, Cond.instanceMethod yX6_countAt, Cond.selects RX6 yX6_countAt yX6_countAt]
def wsX6_deliver_r8 : List Cond := [Cond.code yX6_countAt cX6_countAt 5 (some .int), Cond.fieldLink RX6 16 "QuayMesh" "allBoxes" "Ljava/util/ArrayList;", Cond.classLink RX6 92 "QuayMesh$Box", Cond.methodLink RX6 189 yX0_isAt, Cond.instanceMethod yX0_isAt, Cond.selects RX0 yX0_isAt yX0_isAt, Cond.initialized RX0, Cond.code yX0_isAt cX0_isAt 3 (some .boolean), Cond.fieldLink RX0 9 "QuayMesh$Box" "where" "I", Cond.fieldLink RX0 34 "QuayMesh$Box" "spot" "I", Cond.methodLink RX6 202 yX0_bring, Cond.instanceMethod yX0_bring, Cond.selects RX0 yX0_bring yX0_bring, Cond.code yX0_bring cX0_bring 3 none, Cond.methodLink RX6 267 yX6_noteMove, Cond.instanceMethod yX6_noteMove, Cond.selects RX6 yX6_noteMove yX6_noteMove, Cond.code yX6_noteMove cX6_noteMove 2 none, Cond.fieldLink RX6 35 "QuayMesh" "movesMade" "I", Cond.fieldLink RX6 293 "QuayMesh$Message" "orderMade" "I", Cond.methodLink RX6 165 ⟨"QuayMesh$Worker", "putLast", "(LQuayMesh$Message;)V"⟩, Cond.sameMethod "QuayMesh$Worker" "QuayMesh$Worker" "putLast" "(LQuayMesh$Message;)V", Cond.selects RX1 ⟨"QuayMesh$Worker", "putLast", "(LQuayMesh$Message;)V"⟩ yX5_putLast, Cond.instanceMethod yX5_putLast]
def wsX6_deliver_r9 : List Cond := [Cond.code yX5_putLast cX5_putLast 2 none, Cond.methodLink RX5 47 ⟨"QuayMesh$Worker", "takeOut", "(LQuayMesh$Message;)V"⟩, Cond.methodLink RX5 51 yJx4a65c_add_9ea2d, Cond.selects RX4 ⟨"QuayMesh$Worker", "putLast", "(LQuayMesh$Message;)V"⟩ yX5_putLast]
def wsX6_deliver : List Cond := .code yX6_deliver cX6_deliver 5 (some .int) :: ((wsX6_deliver_r1 ++ (wsX6_deliver_r2 ++ (wsX6_deliver_r3 ++ (wsX6_deliver_r4 ++ (wsX6_deliver_r5 ++ (wsX6_deliver_r6 ++ (wsX6_deliver_r7 ++ (wsX6_deliver_r8 ++ wsX6_deliver_r9)))))))) ++ wsX10 ++ wsX40 ++ wsX20 ++ wsX60 ++ wsJx4a65c0 ++ wsX00 ++ (vx_atS RX6 131 "java/lang/IndexOutOfBoundsException" ["java/lang/RuntimeException", "java/lang/Exception"]).filter goodWord)
def wsX6_isNothingToDo : List Cond := .code yX6_isNothingToDo cX6_isNothingToDo 2 (some .boolean) :: ([.fieldLink RX6 185 "QuayMesh$Message" "box" "LQuayMesh$Box;", .fieldLink RX6 105 "QuayMesh$Box" "where" "I", .fieldLink RX6 271 "QuayMesh$Message" "kind" "I", .fieldLink RX6 274 "QuayMesh$Message" "target" "I", .methodLink RX6 189 yX0_isAt, .instanceMethod yX0_isAt, .selects RX0 yX0_isAt yX0_isAt, .initialized RX0, .code yX0_isAt cX0_isAt 3 (some .boolean), .fieldLink RX0 9 "QuayMesh$Box" "where" "I", .fieldLink RX0 34 "QuayMesh$Box" "spot" "I"] ++ wsX20 ++ wsX00)
def wsX6_finish_r1 : List Cond := [Cond.fieldLink RX6 296 "QuayMesh$Truck" "remembered" "Ljava/util/ArrayList;", Cond.sameField "QuayMesh$Truck" "QuayMesh$Worker" "remembered" "Ljava/util/ArrayList;", Cond.fieldLink RX6 173 "QuayMesh$Truck" "lastSeen" "LQuayMesh$Message;", Cond.methodLink RX6 43 yJx4a65c_add_9ea2d, Cond.instanceMethod yJx4a65c_add_9ea2d, Cond.selects RJx4a65c yJx4a65c_add_9ea2d yJx4a65c_add_9ea2d, Cond.initialized RJx4a65c, Cond.code yJx4a65c_add_9ea2d cJx4a65c_add_9ea2d 2 (some .boolean), Cond.fieldLink RJx4a65c 63 "java/util/ArrayList" "modCount" "I", Cond.sameField "java/util/ArrayList" "java/util/AbstractList" "modCount" "I", Cond.fieldLink RJx4a65c 9 "java/util/ArrayList" "elementData" "[Ljava/lang/Object;", Cond.fieldLink RJx4a65c 48 "java/util/ArrayList" "size" "I", Cond.methodLink RJx4a65c 131 yJx4a65c_add_72be8, Cond.instanceMethod yJx4a65c_add_72be8, Cond.selects RJx4a65c yJx4a65c_add_72be8 yJx4a65c_add_72be8, Cond.code yJx4a65c_add_72be8 cJx4a65c_add_72be8 4 none, Cond.methodLink RJx4a65c 129 yJx4a65c_grow_d5877, Cond.instanceMethod yJx4a65c_grow_d5877, Cond.selects RJx4a65c yJx4a65c_grow_d5877 yJx4a65c_grow_d5877, Cond.code yJx4a65c_grow_d5877 cJx4a65c_grow_d5877 1 (some (.array (.object "java/lang/Object"))), Cond.methodLink RJx4a65c 69 yJx4a65c_grow_92f84, Cond.instanceMethod yJx4a65c_grow_92f84, Cond.selects RJx4a65c yJx4a65c_grow_92f84 yJx4a65c_grow_92f84, Cond.code yJx4a65c_grow_92f84 cJx4a65c_grow_92f84 4 (some (.array (.object "java/lang/Object")))]
def wsX6_finish_r2 : List Cond := [Cond.fieldLink RJx4a65c 39 "java/util/ArrayList" "DEFAULTCAPACITY_EMPTY_ELEMENTDATA" "[Ljava/lang/Object;", Cond.methodLink RJx4a65c 79 Lib.Math.max.name, Cond.static Lib.Math.max.name, Cond.initialized "java/lang/Math", Cond.code Lib.Math.max.name Lib.Math.max.code 2 (some .int), Cond.classLink RJx4a65c 7 "java/lang/Object", Cond.methodLink RJx4a65c 73 yJ8_newLength_cabcc, Cond.static yJ8_newLength_cabcc, Cond.initialized RJ8, Cond.code yJ8_newLength_cabcc cJ8_newLength_cabcc 4 (some .int), Cond.methodLink RJ8 194 Lib.Math.max.name, Cond.constant RJ8 200 (2147483639), Cond.methodLink RJ8 201 yJ8_hugeLength_7cf53, Cond.static yJ8_hugeLength_7cf53, Cond.code yJ8_hugeLength_7cf53 cJ8_hugeLength_7cf53 3 (some .int), Cond.methodLink RJx4a65c 66 yJ7_copyOf_1904c, Cond.static yJ7_copyOf_1904c, Cond.initialized RJ7, Cond.code yJ7_copyOf_1904c cJ7_copyOf_1904c 2 (some (.array (.object "java/lang/Object"))), Cond.methodLink RJ7 86 ⟨"java/lang/Object", "getClass", "()Ljava/lang/Class;"⟩, Cond.selects "[Ljava/lang/Object;" ⟨"java/lang/Object", "getClass", "()Ljava/lang/Class;"⟩ ⟨"java/lang/Object", "getClass", "()Ljava/lang/Class;"⟩, Cond.instanceMethod ⟨"java/lang/Object", "getClass", "()Ljava/lang/Class;"⟩, Cond.native ⟨"java/lang/Object", "getClass", "()Ljava/lang/Class;"⟩, Cond.methodLink RJ7 300 yJ7_copyOf_6403c]
def wsX6_finish_r3 : List Cond := [Cond.static yJ7_copyOf_6403c, Cond.code yJ7_copyOf_6403c cJ7_copyOf_6403c 4 (some (.array (.object "java/lang/Object"))), Cond.classLink RJ7 110 "[Ljava/lang/Object;", Cond.classLink RJ7 2 "java/lang/Object", Cond.methodLink RJ7 304 Lib.Math.min.name, Cond.static Lib.Math.min.name, Cond.code Lib.Math.min.name Lib.Math.min.code 2 (some .int), Cond.methodLink RJ7 150 arraycopyName, Cond.native arraycopyName, Cond.static arraycopyName, Cond.initialized "java/lang/System", Cond.methodLink RX6 250 yX6_acknowledge, Cond.instanceMethod yX6_acknowledge, Cond.selects RX6 yX6_acknowledge yX6_acknowledge, Cond.initialized RX6, Cond.code yX6_acknowledge cX6_acknowledge 3 (some .int), Cond.fieldLink RX6 207 "QuayMesh$Worker" "lossesOfAcks" "I", Cond.fieldLink RX6 213 "QuayMesh$Worker" "lastAcknowledged" "LQuayMesh$Message;", Cond.fieldLink RX6 303 "QuayMesh$Message" "isLogged" "Z", Cond.fieldLink RX6 22 "QuayMesh" "log" "Ljava/util/ArrayList;", Cond.methodLink RX6 297 ⟨"QuayMesh$Worker", "takeOut", "(LQuayMesh$Message;)V"⟩, Cond.sameMethod "QuayMesh$Worker" "QuayMesh$Worker" "takeOut" "(LQuayMesh$Message;)V", Cond.selects RX1 ⟨"QuayMesh$Worker", "takeOut", "(LQuayMesh$Message;)V"⟩ yX5_takeOut, Cond.instanceMethod yX5_takeOut]
def wsX6_finish_r4 : List Cond := [Cond.initialized RX5, Cond.code yX5_takeOut cX5_takeOut 3 none, Cond.fieldLink RX5 12 "QuayMesh$Worker" "waiting" "Ljava/util/ArrayList;", Cond.static yX6_indexOf, Cond.code yX6_indexOf cX6_indexOf 3 (some .int), Cond.methodLink RX6 62 yJx4a65c_size_8abf5, Cond.instanceMethod yJx4a65c_size_8abf5, Cond.selects RJx4a65c yJx4a65c_size_8abf5 yJx4a65c_size_8abf5, Cond.code yJx4a65c_size_8abf5 cJx4a65c_size_8abf5 1 (some .int), Cond.methodLink RX6 97 yJx4a65c_get_915e3, Cond.instanceMethod yJx4a65c_get_915e3, Cond.selects RJx4a65c yJx4a65c_get_915e3 yJx4a65c_get_915e3, Cond.code yJx4a65c_get_915e3 cJx4a65c_get_915e3 2 (some (.object "java/lang/Object")), Cond.methodLink RJx4a65c 118 yJ15_checkIndex_7cf53, Cond.static yJ15_checkIndex_7cf53, Cond.initialized RJ15, Cond.code yJ15_checkIndex_7cf53 cJ15_checkIndex_7cf53 2 (some .int), Cond.methodLink RJ15 105 yJ3_checkIndex_8e157, Cond.static yJ3_checkIndex_8e157, Cond.initialized RJ3, Cond.code yJ3_checkIndex_8e157 cJ3_checkIndex_8e157 3 (some .int), Cond.methodLink RJx4a65c 123 yJx4a65c_elementData_915e3, Cond.instanceMethod yJx4a65c_elementData_915e3, Cond.selects RJx4a65c yJx4a65c_elementData_915e3 yJx4a65c_elementData_915e3]
def wsX6_finish_r5 : List Cond := [Cond.code yJx4a65c_elementData_915e3 cJx4a65c_elementData_915e3 2 (some (.object "java/lang/Object")), Cond.methodLink RX5 43 yJx4a65c_remove_915e3, Cond.instanceMethod yJx4a65c_remove_915e3, Cond.selects RJx4a65c yJx4a65c_remove_915e3 yJx4a65c_remove_915e3, Cond.code yJx4a65c_remove_915e3 cJx4a65c_remove_915e3 4 (some (.object "java/lang/Object")), Cond.methodLink RJx4a65c 144 yJx4a65c_fastRemove_b59b0, Cond.instanceMethod yJx4a65c_fastRemove_b59b0, Cond.selects RJx4a65c yJx4a65c_fastRemove_b59b0 yJx4a65c_fastRemove_b59b0, Cond.code yJx4a65c_fastRemove_b59b0 cJx4a65c_fastRemove_b59b0 4 none, Cond.methodLink RJx4a65c 112 arraycopyName, Cond.selects RX4 ⟨"QuayMesh$Worker", "takeOut", "(LQuayMesh$Message;)V"⟩ yX5_takeOut, Cond.methodLink RX6 300 yX2_isMoveMade, Cond.instanceMethod yX2_isMoveMade, Cond.selects RX2 yX2_isMoveMade yX2_isMoveMade, Cond.initialized RX2, Cond.code yX2_isMoveMade cX2_isMoveMade 1 (some .boolean), Cond.fieldLink RX2 15 "QuayMesh$Message" "orderMade" "I"]
def wsX6_finish : List Cond := .code yX6_finish cX6_finish 3 (some .int) :: ((wsX6_finish_r1 ++ (wsX6_finish_r2 ++ (wsX6_finish_r3 ++ (wsX6_finish_r4 ++ wsX6_finish_r5)))) ++ wsX10 ++ wsX40 ++ wsJx4a65c0 ++ wsX20 ++ wsX60)
def wsX6_canPutDown_r1 : List Cond := [Cond.fieldLink RX6 271 "QuayMesh$Message" "kind" "I", Cond.fieldLink RX6 274 "QuayMesh$Message" "target" "I", Cond.fieldLink RX6 185 "QuayMesh$Message" "box" "LQuayMesh$Box;", Cond.fieldLink RX6 31 "QuayMesh" "now" "I", Cond.methodLink RX6 260 yX6_countAt, Cond.instanceMethod yX6_countAt, Cond.selects RX6 yX6_countAt yX6_countAt, Cond.initialized RX6, Cond.code yX6_countAt cX6_countAt 5 (some .int), Cond.fieldLink RX6 16 "QuayMesh" "allBoxes" "Ljava/util/ArrayList;", Cond.classLink RX6 92 "QuayMesh$Box", Cond.methodLink RX6 62 yJx4a65c_size_8abf5, Cond.instanceMethod yJx4a65c_size_8abf5, Cond.selects RJx4a65c yJx4a65c_size_8abf5 yJx4a65c_size_8abf5, Cond.initialized RJx4a65c, Cond.code yJx4a65c_size_8abf5 cJx4a65c_size_8abf5 1 (some .int), Cond.fieldLink RJx4a65c 48 "java/util/ArrayList" "size" "I", Cond.methodLink RX6 97 yJx4a65c_get_915e3, Cond.instanceMethod yJx4a65c_get_915e3, Cond.selects RJx4a65c yJx4a65c_get_915e3 yJx4a65c_get_915e3, Cond.code yJx4a65c_get_915e3 cJx4a65c_get_915e3 2 (some (.object "java/lang/Object")), Cond.methodLink RJx4a65c 118 yJ15_checkIndex_7cf53, Cond.static yJ15_checkIndex_7cf53, Cond.initialized RJ15]
def wsX6_canPutDown_r2 : List Cond := [Cond.code yJ15_checkIndex_7cf53 cJ15_checkIndex_7cf53 2 (some .int), Cond.methodLink RJ15 105 yJ3_checkIndex_8e157, Cond.static yJ3_checkIndex_8e157, Cond.initialized RJ3, Cond.code yJ3_checkIndex_8e157 cJ3_checkIndex_8e157 3 (some .int), Cond.methodLink RJx4a65c 123 yJx4a65c_elementData_915e3, Cond.instanceMethod yJx4a65c_elementData_915e3, Cond.selects RJx4a65c yJx4a65c_elementData_915e3 yJx4a65c_elementData_915e3, Cond.code yJx4a65c_elementData_915e3 cJx4a65c_elementData_915e3 2 (some (.object "java/lang/Object")), Cond.fieldLink RJx4a65c 9 "java/util/ArrayList" "elementData" "[Ljava/lang/Object;", Cond.methodLink RX6 189 yX0_isAt, Cond.instanceMethod yX0_isAt, Cond.selects RX0 yX0_isAt yX0_isAt, Cond.initialized RX0, Cond.code yX0_isAt cX0_isAt 3 (some .boolean), Cond.fieldLink RX0 9 "QuayMesh$Box" "where" "I", Cond.fieldLink RX0 34 "QuayMesh$Box" "spot" "I", Cond.methodLink RX6 287 yX0_isBookedAt, Cond.instanceMethod yX0_isBookedAt, Cond.selects RX0 yX0_isBookedAt yX0_isBookedAt, Cond.code yX0_isBookedAt cX0_isBookedAt 3 (some .boolean), Cond.fieldLink RX0 21 "QuayMesh$Box" "bookedGate" "I", Cond.fieldLink RX0 24 "QuayMesh$Box" "bookedHour" "I"]
def wsX6_canPutDown : List Cond := .code yX6_canPutDown cX6_canPutDown 2 (some .boolean) :: ((wsX6_canPutDown_r1 ++ wsX6_canPutDown_r2) ++ wsX20 ++ wsX60 ++ wsJx4a65c0 ++ wsX00)
def wsX6_putDown_r1 : List Cond := [Cond.fieldLink RX6 185 "QuayMesh$Message" "box" "LQuayMesh$Box;", Cond.fieldLink RX6 271 "QuayMesh$Message" "kind" "I", Cond.fieldLink RX6 274 "QuayMesh$Message" "target" "I", Cond.fieldLink RX6 281 "QuayMesh$Box" "level" "I", Cond.methodLink RX6 260 yX6_countAt, Cond.instanceMethod yX6_countAt, Cond.selects RX6 yX6_countAt yX6_countAt, Cond.initialized RX6, Cond.code yX6_countAt cX6_countAt 5 (some .int), Cond.fieldLink RX6 16 "QuayMesh" "allBoxes" "Ljava/util/ArrayList;", Cond.classLink RX6 92 "QuayMesh$Box", Cond.methodLink RX6 62 yJx4a65c_size_8abf5, Cond.instanceMethod yJx4a65c_size_8abf5, Cond.selects RJx4a65c yJx4a65c_size_8abf5 yJx4a65c_size_8abf5, Cond.initialized RJx4a65c, Cond.code yJx4a65c_size_8abf5 cJx4a65c_size_8abf5 1 (some .int), Cond.fieldLink RJx4a65c 48 "java/util/ArrayList" "size" "I", Cond.methodLink RX6 97 yJx4a65c_get_915e3, Cond.instanceMethod yJx4a65c_get_915e3, Cond.selects RJx4a65c yJx4a65c_get_915e3 yJx4a65c_get_915e3, Cond.code yJx4a65c_get_915e3 cJx4a65c_get_915e3 2 (some (.object "java/lang/Object")), Cond.methodLink RJx4a65c 118 yJ15_checkIndex_7cf53, Cond.static yJ15_checkIndex_7cf53, Cond.initialized RJ15]
def wsX6_putDown_r2 : List Cond := [Cond.code yJ15_checkIndex_7cf53 cJ15_checkIndex_7cf53 2 (some .int), Cond.methodLink RJ15 105 yJ3_checkIndex_8e157, Cond.static yJ3_checkIndex_8e157, Cond.initialized RJ3, Cond.code yJ3_checkIndex_8e157 cJ3_checkIndex_8e157 3 (some .int), Cond.methodLink RJx4a65c 123 yJx4a65c_elementData_915e3, Cond.instanceMethod yJx4a65c_elementData_915e3, Cond.selects RJx4a65c yJx4a65c_elementData_915e3 yJx4a65c_elementData_915e3, Cond.code yJx4a65c_elementData_915e3 cJx4a65c_elementData_915e3 2 (some (.object "java/lang/Object")), Cond.fieldLink RJx4a65c 9 "java/util/ArrayList" "elementData" "[Ljava/lang/Object;", Cond.methodLink RX6 189 yX0_isAt, Cond.instanceMethod yX0_isAt, Cond.selects RX0 yX0_isAt yX0_isAt, Cond.initialized RX0, Cond.code yX0_isAt cX0_isAt 3 (some .boolean), Cond.fieldLink RX0 9 "QuayMesh$Box" "where" "I", Cond.fieldLink RX0 34 "QuayMesh$Box" "spot" "I", Cond.methodLink RX6 202 yX0_bring, Cond.instanceMethod yX0_bring, Cond.selects RX0 yX0_bring yX0_bring, Cond.code yX0_bring cX0_bring 3 none, Cond.methodLink RX6 290 yX0_dropBooking, Cond.instanceMethod yX0_dropBooking, Cond.selects RX0 yX0_dropBooking yX0_dropBooking]
def wsX6_putDown_r3 : List Cond := [Cond.code yX0_dropBooking cX0_dropBooking 1 none, Cond.fieldLink RX0 21 "QuayMesh$Box" "bookedGate" "I", Cond.fieldLink RX0 24 "QuayMesh$Box" "bookedHour" "I", Cond.methodLink RX6 267 yX6_noteMove, Cond.instanceMethod yX6_noteMove, Cond.selects RX6 yX6_noteMove yX6_noteMove, Cond.code yX6_noteMove cX6_noteMove 2 none, Cond.fieldLink RX6 35 "QuayMesh" "movesMade" "I", Cond.fieldLink RX6 293 "QuayMesh$Message" "orderMade" "I"]
def wsX6_putDown : List Cond := .code yX6_putDown cX6_putDown 3 none :: ((wsX6_putDown_r1 ++ (wsX6_putDown_r2 ++ wsX6_putDown_r3)) ++ wsX20 ++ wsX00 ++ wsX60 ++ wsJx4a65c0)
def wsX6_isUppermost_r1 : List Cond := [Cond.fieldLink RX6 281 "QuayMesh$Box" "level" "I", Cond.fieldLink RX6 284 "QuayMesh$Box" "spot" "I", Cond.methodLink RX6 260 yX6_countAt, Cond.instanceMethod yX6_countAt, Cond.selects RX6 yX6_countAt yX6_countAt, Cond.initialized RX6, Cond.code yX6_countAt cX6_countAt 5 (some .int), Cond.fieldLink RX6 16 "QuayMesh" "allBoxes" "Ljava/util/ArrayList;", Cond.classLink RX6 92 "QuayMesh$Box", Cond.methodLink RX6 62 yJx4a65c_size_8abf5, Cond.instanceMethod yJx4a65c_size_8abf5, Cond.selects RJx4a65c yJx4a65c_size_8abf5 yJx4a65c_size_8abf5, Cond.initialized RJx4a65c, Cond.code yJx4a65c_size_8abf5 cJx4a65c_size_8abf5 1 (some .int), Cond.fieldLink RJx4a65c 48 "java/util/ArrayList" "size" "I", Cond.methodLink RX6 97 yJx4a65c_get_915e3, Cond.instanceMethod yJx4a65c_get_915e3, Cond.selects RJx4a65c yJx4a65c_get_915e3 yJx4a65c_get_915e3, Cond.code yJx4a65c_get_915e3 cJx4a65c_get_915e3 2 (some (.object "java/lang/Object")), Cond.methodLink RJx4a65c 118 yJ15_checkIndex_7cf53, Cond.static yJ15_checkIndex_7cf53, Cond.initialized RJ15, Cond.code yJ15_checkIndex_7cf53 cJ15_checkIndex_7cf53 2 (some .int), Cond.methodLink RJ15 105 yJ3_checkIndex_8e157]
def wsX6_isUppermost_r2 : List Cond := [Cond.static yJ3_checkIndex_8e157, Cond.initialized RJ3, Cond.code yJ3_checkIndex_8e157 cJ3_checkIndex_8e157 3 (some .int), Cond.methodLink RJx4a65c 123 yJx4a65c_elementData_915e3, Cond.instanceMethod yJx4a65c_elementData_915e3, Cond.selects RJx4a65c yJx4a65c_elementData_915e3 yJx4a65c_elementData_915e3, Cond.code yJx4a65c_elementData_915e3 cJx4a65c_elementData_915e3 2 (some (.object "java/lang/Object")), Cond.fieldLink RJx4a65c 9 "java/util/ArrayList" "elementData" "[Ljava/lang/Object;", Cond.methodLink RX6 189 yX0_isAt, Cond.instanceMethod yX0_isAt, Cond.selects RX0 yX0_isAt yX0_isAt, Cond.initialized RX0, Cond.code yX0_isAt cX0_isAt 3 (some .boolean), Cond.fieldLink RX0 9 "QuayMesh$Box" "where" "I", Cond.fieldLink RX0 34 "QuayMesh$Box" "spot" "I"]
def wsX6_isUppermost : List Cond := .code yX6_isUppermost cX6_isUppermost 2 (some .boolean) :: ((wsX6_isUppermost_r1 ++ wsX6_isUppermost_r2) ++ wsX00 ++ wsX60 ++ wsJx4a65c0)
def wsX6_canTake_r1 : List Cond := [Cond.fieldLink RX6 105 "QuayMesh$Box" "where" "I", Cond.methodLink RX6 277 yX6_isUppermost, Cond.instanceMethod yX6_isUppermost, Cond.selects RX6 yX6_isUppermost yX6_isUppermost, Cond.initialized RX6, Cond.code yX6_isUppermost cX6_isUppermost 2 (some .boolean), Cond.fieldLink RX6 281 "QuayMesh$Box" "level" "I", Cond.fieldLink RX6 284 "QuayMesh$Box" "spot" "I", Cond.methodLink RX6 260 yX6_countAt, Cond.instanceMethod yX6_countAt, Cond.selects RX6 yX6_countAt yX6_countAt, Cond.code yX6_countAt cX6_countAt 5 (some .int), Cond.fieldLink RX6 16 "QuayMesh" "allBoxes" "Ljava/util/ArrayList;", Cond.classLink RX6 92 "QuayMesh$Box", Cond.methodLink RX6 62 yJx4a65c_size_8abf5, Cond.instanceMethod yJx4a65c_size_8abf5, Cond.selects RJx4a65c yJx4a65c_size_8abf5 yJx4a65c_size_8abf5, Cond.initialized RJx4a65c, Cond.code yJx4a65c_size_8abf5 cJx4a65c_size_8abf5 1 (some .int), Cond.fieldLink RJx4a65c 48 "java/util/ArrayList" "size" "I", Cond.methodLink RX6 97 yJx4a65c_get_915e3, Cond.instanceMethod yJx4a65c_get_915e3, Cond.selects RJx4a65c yJx4a65c_get_915e3 yJx4a65c_get_915e3, Cond.code yJx4a65c_get_915e3 cJx4a65c_get_915e3 2 (some (.object "java/lang/Object"))]
def wsX6_canTake_r2 : List Cond := [Cond.methodLink RJx4a65c 118 yJ15_checkIndex_7cf53, Cond.static yJ15_checkIndex_7cf53, Cond.initialized RJ15, Cond.code yJ15_checkIndex_7cf53 cJ15_checkIndex_7cf53 2 (some .int), Cond.methodLink RJ15 105 yJ3_checkIndex_8e157, Cond.static yJ3_checkIndex_8e157, Cond.initialized RJ3, Cond.code yJ3_checkIndex_8e157 cJ3_checkIndex_8e157 3 (some .int), Cond.methodLink RJx4a65c 123 yJx4a65c_elementData_915e3, Cond.instanceMethod yJx4a65c_elementData_915e3, Cond.selects RJx4a65c yJx4a65c_elementData_915e3 yJx4a65c_elementData_915e3, Cond.code yJx4a65c_elementData_915e3 cJx4a65c_elementData_915e3 2 (some (.object "java/lang/Object")), Cond.fieldLink RJx4a65c 9 "java/util/ArrayList" "elementData" "[Ljava/lang/Object;", Cond.methodLink RX6 189 yX0_isAt, Cond.instanceMethod yX0_isAt, Cond.selects RX0 yX0_isAt yX0_isAt, Cond.initialized RX0, Cond.code yX0_isAt cX0_isAt 3 (some .boolean), Cond.fieldLink RX0 9 "QuayMesh$Box" "where" "I", Cond.fieldLink RX0 34 "QuayMesh$Box" "spot" "I"]
def wsX6_canTake : List Cond := .code yX6_canTake cX6_canTake 4 (some .boolean) :: ((wsX6_canTake_r1 ++ wsX6_canTake_r2) ++ wsX00 ++ wsX60 ++ wsJx4a65c0)
def wsX6_act_r1 : List Cond := [Cond.fieldLink RX6 173 "QuayMesh$Truck" "lastSeen" "LQuayMesh$Message;", Cond.fieldLink RX6 185 "QuayMesh$Message" "box" "LQuayMesh$Box;", Cond.methodLink RX6 169 yX6_truckNumbered, Cond.instanceMethod yX6_truckNumbered, Cond.selects RX6 yX6_truckNumbered yX6_truckNumbered, Cond.initialized RX6, Cond.code yX6_truckNumbered cX6_truckNumbered 2 (some (.object "QuayMesh$Truck")), Cond.classLink RX6 127 "java/lang/IndexOutOfBoundsException", Cond.initialized "java/lang/IndexOutOfBoundsException", Cond.fieldLink RX6 28 "QuayMesh" "trucks" "Ljava/util/ArrayList;", Cond.classLink RX6 47 "QuayMesh$Truck", Cond.methodLink RX6 62 yJx4a65c_size_8abf5, Cond.instanceMethod yJx4a65c_size_8abf5, Cond.selects RJx4a65c yJx4a65c_size_8abf5 yJx4a65c_size_8abf5, Cond.initialized RJx4a65c, Cond.code yJx4a65c_size_8abf5 cJx4a65c_size_8abf5 1 (some .int), Cond.fieldLink RJx4a65c 48 "java/util/ArrayList" "size" "I", Cond.methodLink RX6 97 yJx4a65c_get_915e3, Cond.instanceMethod yJx4a65c_get_915e3, Cond.selects RJx4a65c yJx4a65c_get_915e3 yJx4a65c_get_915e3, Cond.code yJx4a65c_get_915e3 cJx4a65c_get_915e3 2 (some (.object "java/lang/Object")), Cond.methodLink RJx4a65c 118 yJ15_checkIndex_7cf53, Cond.static yJ15_checkIndex_7cf53, Cond.initialized RJ15]
def wsX6_act_r2 : List Cond := [Cond.code yJ15_checkIndex_7cf53 cJ15_checkIndex_7cf53 2 (some .int), Cond.methodLink RJ15 105 yJ3_checkIndex_8e157, Cond.static yJ3_checkIndex_8e157, Cond.initialized RJ3, Cond.code yJ3_checkIndex_8e157 cJ3_checkIndex_8e157 3 (some .int), Cond.methodLink RJx4a65c 123 yJx4a65c_elementData_915e3, Cond.instanceMethod yJx4a65c_elementData_915e3, Cond.selects RJx4a65c yJx4a65c_elementData_915e3 yJx4a65c_elementData_915e3, Cond.code yJx4a65c_elementData_915e3 cJx4a65c_elementData_915e3 2 (some (.object "java/lang/Object")), Cond.fieldLink RJx4a65c 9 "java/util/ArrayList" "elementData" "[Ljava/lang/Object;", Cond.methodLink RX6 177 yX6_isNothingToDo, Cond.static yX6_isNothingToDo, Cond.code yX6_isNothingToDo cX6_isNothingToDo 2 (some .boolean), Cond.fieldLink RX6 105 "QuayMesh$Box" "where" "I", Cond.fieldLink RX6 271 "QuayMesh$Message" "kind" "I", Cond.fieldLink RX6 274 "QuayMesh$Message" "target" "I", Cond.methodLink RX6 189 yX0_isAt, Cond.instanceMethod yX0_isAt, Cond.selects RX0 yX0_isAt yX0_isAt, Cond.initialized RX0, Cond.code yX0_isAt cX0_isAt 3 (some .boolean), Cond.fieldLink RX0 9 "QuayMesh$Box" "where" "I", Cond.fieldLink RX0 34 "QuayMesh$Box" "spot" "I", Cond.methodLink RX6 181 yX6_finish]
def wsX6_act_r3 : List Cond := [Cond.instanceMethod yX6_finish, Cond.selects RX6 yX6_finish yX6_finish, Cond.code yX6_finish cX6_finish 3 (some .int), Cond.fieldLink RX6 296 "QuayMesh$Truck" "remembered" "Ljava/util/ArrayList;", Cond.sameField "QuayMesh$Truck" "QuayMesh$Worker" "remembered" "Ljava/util/ArrayList;", Cond.methodLink RX6 43 yJx4a65c_add_9ea2d, Cond.instanceMethod yJx4a65c_add_9ea2d, Cond.selects RJx4a65c yJx4a65c_add_9ea2d yJx4a65c_add_9ea2d, Cond.code yJx4a65c_add_9ea2d cJx4a65c_add_9ea2d 2 (some .boolean), Cond.fieldLink RJx4a65c 63 "java/util/ArrayList" "modCount" "I", Cond.sameField "java/util/ArrayList" "java/util/AbstractList" "modCount" "I", Cond.methodLink RJx4a65c 131 yJx4a65c_add_72be8, Cond.instanceMethod yJx4a65c_add_72be8, Cond.selects RJx4a65c yJx4a65c_add_72be8 yJx4a65c_add_72be8, Cond.code yJx4a65c_add_72be8 cJx4a65c_add_72be8 4 none, Cond.methodLink RJx4a65c 129 yJx4a65c_grow_d5877, Cond.instanceMethod yJx4a65c_grow_d5877, Cond.selects RJx4a65c yJx4a65c_grow_d5877 yJx4a65c_grow_d5877, Cond.code yJx4a65c_grow_d5877 cJx4a65c_grow_d5877 1 (some (.array (.object "java/lang/Object"))), Cond.methodLink RJx4a65c 69 yJx4a65c_grow_92f84, Cond.instanceMethod yJx4a65c_grow_92f84, Cond.selects RJx4a65c yJx4a65c_grow_92f84 yJx4a65c_grow_92f84, Cond.code yJx4a65c_grow_92f84 cJx4a65c_grow_92f84 4 (some (.array (.object "java/lang/Object"))), Cond.fieldLink RJx4a65c 39 "java/util/ArrayList" "DEFAULTCAPACITY_EMPTY_ELEMENTDATA" "[Ljava/lang/Object;"]
def wsX6_act_r4 : List Cond := [Cond.methodLink RJx4a65c 79 Lib.Math.max.name, Cond.static Lib.Math.max.name, Cond.initialized "java/lang/Math", Cond.code Lib.Math.max.name Lib.Math.max.code 2 (some .int), Cond.classLink RJx4a65c 7 "java/lang/Object", Cond.methodLink RJx4a65c 73 yJ8_newLength_cabcc, Cond.static yJ8_newLength_cabcc, Cond.initialized RJ8, Cond.code yJ8_newLength_cabcc cJ8_newLength_cabcc 4 (some .int), Cond.methodLink RJ8 194 Lib.Math.max.name, Cond.constant RJ8 200 (2147483639), Cond.methodLink RJ8 201 yJ8_hugeLength_7cf53, Cond.static yJ8_hugeLength_7cf53, Cond.code yJ8_hugeLength_7cf53 cJ8_hugeLength_7cf53 3 (some .int), Cond.methodLink RJx4a65c 66 yJ7_copyOf_1904c, Cond.static yJ7_copyOf_1904c, Cond.initialized RJ7, Cond.code yJ7_copyOf_1904c cJ7_copyOf_1904c 2 (some (.array (.object "java/lang/Object"))), Cond.methodLink RJ7 86 ⟨"java/lang/Object", "getClass", "()Ljava/lang/Class;"⟩, Cond.selects "[Ljava/lang/Object;" ⟨"java/lang/Object", "getClass", "()Ljava/lang/Class;"⟩ ⟨"java/lang/Object", "getClass", "()Ljava/lang/Class;"⟩, Cond.instanceMethod ⟨"java/lang/Object", "getClass", "()Ljava/lang/Class;"⟩, Cond.native ⟨"java/lang/Object", "getClass", "()Ljava/lang/Class;"⟩, Cond.methodLink RJ7 300 yJ7_copyOf_6403c, Cond.static yJ7_copyOf_6403c]
def wsX6_act_r5 : List Cond := [Cond.code yJ7_copyOf_6403c cJ7_copyOf_6403c 4 (some (.array (.object "java/lang/Object"))), Cond.classLink RJ7 110 "[Ljava/lang/Object;", Cond.classLink RJ7 2 "java/lang/Object", Cond.methodLink RJ7 304 Lib.Math.min.name, Cond.static Lib.Math.min.name, Cond.code Lib.Math.min.name Lib.Math.min.code 2 (some .int), Cond.methodLink RJ7 150 arraycopyName, Cond.native arraycopyName, Cond.static arraycopyName, Cond.initialized "java/lang/System", Cond.methodLink RX6 250 yX6_acknowledge, Cond.instanceMethod yX6_acknowledge, Cond.selects RX6 yX6_acknowledge yX6_acknowledge, Cond.code yX6_acknowledge cX6_acknowledge 3 (some .int), Cond.fieldLink RX6 207 "QuayMesh$Worker" "lossesOfAcks" "I", Cond.fieldLink RX6 213 "QuayMesh$Worker" "lastAcknowledged" "LQuayMesh$Message;", Cond.fieldLink RX6 303 "QuayMesh$Message" "isLogged" "Z", Cond.fieldLink RX6 22 "QuayMesh" "log" "Ljava/util/ArrayList;", Cond.methodLink RX6 297 ⟨"QuayMesh$Worker", "takeOut", "(LQuayMesh$Message;)V"⟩, Cond.sameMethod "QuayMesh$Worker" "QuayMesh$Worker" "takeOut" "(LQuayMesh$Message;)V", Cond.selects RX1 ⟨"QuayMesh$Worker", "takeOut", "(LQuayMesh$Message;)V"⟩ yX5_takeOut, Cond.instanceMethod yX5_takeOut, Cond.initialized RX5, Cond.code yX5_takeOut cX5_takeOut 3 none]
def wsX6_act_r6 : List Cond := [Cond.fieldLink RX5 12 "QuayMesh$Worker" "waiting" "Ljava/util/ArrayList;", Cond.static yX6_indexOf, Cond.code yX6_indexOf cX6_indexOf 3 (some .int), Cond.methodLink RX5 43 yJx4a65c_remove_915e3, Cond.instanceMethod yJx4a65c_remove_915e3, Cond.selects RJx4a65c yJx4a65c_remove_915e3 yJx4a65c_remove_915e3, Cond.code yJx4a65c_remove_915e3 cJx4a65c_remove_915e3 4 (some (.object "java/lang/Object")), Cond.methodLink RJx4a65c 144 yJx4a65c_fastRemove_b59b0, Cond.instanceMethod yJx4a65c_fastRemove_b59b0, Cond.selects RJx4a65c yJx4a65c_fastRemove_b59b0 yJx4a65c_fastRemove_b59b0, Cond.code yJx4a65c_fastRemove_b59b0 cJx4a65c_fastRemove_b59b0 4 none, Cond.methodLink RJx4a65c 112 arraycopyName, Cond.selects RX4 ⟨"QuayMesh$Worker", "takeOut", "(LQuayMesh$Message;)V"⟩ yX5_takeOut, Cond.methodLink RX6 300 yX2_isMoveMade, Cond.instanceMethod yX2_isMoveMade, Cond.selects RX2 yX2_isMoveMade yX2_isMoveMade, Cond.initialized RX2, Cond.code yX2_isMoveMade cX2_isMoveMade 1 (some .boolean), Cond.fieldLink RX2 15 "QuayMesh$Message" "orderMade" "I", Cond.methodLink RX6 192 yX6_canPutDown, Cond.instanceMethod yX6_canPutDown, Cond.selects RX6 yX6_canPutDown yX6_canPutDown, Cond.code yX6_canPutDown cX6_canPutDown 2 (some .boolean), Cond.fieldLink RX6 31 "QuayMesh" "now" "I"]
def wsX6_act_r7 : List Cond := [Cond.methodLink RX6 260 yX6_countAt, Cond.instanceMethod yX6_countAt, Cond.selects RX6 yX6_countAt yX6_countAt, Cond.code yX6_countAt cX6_countAt 5 (some .int), Cond.fieldLink RX6 16 "QuayMesh" "allBoxes" "Ljava/util/ArrayList;", Cond.classLink RX6 92 "QuayMesh$Box", Cond.methodLink RX6 287 yX0_isBookedAt, Cond.instanceMethod yX0_isBookedAt, Cond.selects RX0 yX0_isBookedAt yX0_isBookedAt, Cond.code yX0_isBookedAt cX0_isBookedAt 3 (some .boolean), Cond.fieldLink RX0 21 "QuayMesh$Box" "bookedGate" "I", Cond.fieldLink RX0 24 "QuayMesh$Box" "bookedHour" "I", Cond.methodLink RX6 195 yX6_putDown, Cond.instanceMethod yX6_putDown, Cond.selects RX6 yX6_putDown yX6_putDown, Cond.code yX6_putDown cX6_putDown 3 none, Cond.fieldLink RX6 281 "QuayMesh$Box" "level" "I", Cond.methodLink RX6 202 yX0_bring, Cond.instanceMethod yX0_bring, Cond.selects RX0 yX0_bring yX0_bring, Cond.code yX0_bring cX0_bring 3 none, Cond.methodLink RX6 290 yX0_dropBooking, Cond.instanceMethod yX0_dropBooking, Cond.selects RX0 yX0_dropBooking yX0_dropBooking]
def wsX6_act_r8 : List Cond := [Cond.code yX0_dropBooking cX0_dropBooking 1 none, Cond.methodLink RX6 267 yX6_noteMove, Cond.instanceMethod yX6_noteMove, Cond.selects RX6 yX6_noteMove yX6_noteMove, Cond.code yX6_noteMove cX6_noteMove 2 none, Cond.fieldLink RX6 35 "QuayMesh" "movesMade" "I", Cond.fieldLink RX6 293 "QuayMesh$Message" "orderMade" "I", Cond.methodLink RX6 198 yX6_canTake, Cond.instanceMethod yX6_canTake, Cond.selects RX6 yX6_canTake yX6_canTake, Cond.code yX6_canTake cX6_canTake 4 (some .boolean), Cond.methodLink RX6 277 yX6_isUppermost, Cond.instanceMethod yX6_isUppermost, Cond.selects RX6 yX6_isUppermost yX6_isUppermost, Cond.code yX6_isUppermost cX6_isUppermost 2 (some .boolean), Cond.fieldLink RX6 284 "QuayMesh$Box" "spot" "I"]
def wsX6_act : List Cond := .code yX6_act cX6_act 4 (some .int) :: ((wsX6_act_r1 ++ (wsX6_act_r2 ++ (wsX6_act_r3 ++ (wsX6_act_r4 ++ (wsX6_act_r5 ++ (wsX6_act_r6 ++ (wsX6_act_r7 ++ wsX6_act_r8))))))) ++ wsX40 ++ wsX20 ++ wsX60 ++ wsJx4a65c0 ++ wsX00 ++ wsX10 ++ (vx_atS RX6 131 "java/lang/IndexOutOfBoundsException" ["java/lang/RuntimeException", "java/lang/Exception"]).filter goodWord)
def wsX6_lose_r1 : List Cond := [Cond.classLink RX6 55 "java/lang/IllegalArgumentException", Cond.initialized "java/lang/IllegalArgumentException", Cond.fieldLink RX6 207 "QuayMesh$Worker" "lossesOfAcks" "I", Cond.fieldLink RX6 210 "QuayMesh$Worker" "lossesOfMessages" "I", Cond.methodLink RX6 136 yX6_workerNumbered, Cond.instanceMethod yX6_workerNumbered, Cond.selects RX6 yX6_workerNumbered yX6_workerNumbered, Cond.initialized RX6, Cond.code yX6_workerNumbered cX6_workerNumbered 2 (some (.object "QuayMesh$Worker")), Cond.methodLink RX6 221 yX6_craneNumbered, Cond.instanceMethod yX6_craneNumbered, Cond.selects RX6 yX6_craneNumbered yX6_craneNumbered, Cond.code yX6_craneNumbered cX6_craneNumbered 2 (some (.object "QuayMesh$Crane")), Cond.fieldLink RX6 25 "QuayMesh" "cranes" "Ljava/util/ArrayList;", Cond.classLink RX6 38 "QuayMesh$Crane", Cond.methodLink RX6 62 yJx4a65c_size_8abf5, Cond.instanceMethod yJx4a65c_size_8abf5, Cond.selects RJx4a65c yJx4a65c_size_8abf5 yJx4a65c_size_8abf5, Cond.initialized RJx4a65c, Cond.code yJx4a65c_size_8abf5 cJx4a65c_size_8abf5 1 (some .int), Cond.fieldLink RJx4a65c 48 "java/util/ArrayList" "size" "I", Cond.methodLink RX6 52 yX6_requireOneOf, Cond.static yX6_requireOneOf, Cond.code yX6_requireOneOf cX6_requireOneOf 2 none]
def wsX6_lose_r2 : List Cond := [Cond.classLink RX6 127 "java/lang/IndexOutOfBoundsException", Cond.initialized "java/lang/IndexOutOfBoundsException", Cond.methodLink RX6 97 yJx4a65c_get_915e3, Cond.instanceMethod yJx4a65c_get_915e3, Cond.selects RJx4a65c yJx4a65c_get_915e3 yJx4a65c_get_915e3, Cond.code yJx4a65c_get_915e3 cJx4a65c_get_915e3 2 (some (.object "java/lang/Object")), Cond.methodLink RJx4a65c 118 yJ15_checkIndex_7cf53, Cond.static yJ15_checkIndex_7cf53, Cond.initialized RJ15, Cond.code yJ15_checkIndex_7cf53 cJ15_checkIndex_7cf53 2 (some .int), Cond.methodLink RJ15 105 yJ3_checkIndex_8e157, Cond.static yJ3_checkIndex_8e157, Cond.initialized RJ3, Cond.code yJ3_checkIndex_8e157 cJ3_checkIndex_8e157 3 (some .int), Cond.methodLink RJx4a65c 123 yJx4a65c_elementData_915e3, Cond.instanceMethod yJx4a65c_elementData_915e3, Cond.selects RJx4a65c yJx4a65c_elementData_915e3 yJx4a65c_elementData_915e3, Cond.code yJx4a65c_elementData_915e3 cJx4a65c_elementData_915e3 2 (some (.object "java/lang/Object")), Cond.fieldLink RJx4a65c 9 "java/util/ArrayList" "elementData" "[Ljava/lang/Object;", Cond.methodLink RX6 169 yX6_truckNumbered, Cond.instanceMethod yX6_truckNumbered, Cond.selects RX6 yX6_truckNumbered yX6_truckNumbered, Cond.code yX6_truckNumbered cX6_truckNumbered 2 (some (.object "QuayMesh$Truck")), Cond.fieldLink RX6 28 "QuayMesh" "trucks" "Ljava/util/ArrayList;"]
def wsX6_lose_r3 : List Cond := [Cond.classLink RX6 47 "QuayMesh$Truck"]
def wsX6_lose : List Cond := .code yX6_lose cX6_lose 5 (some .int) :: ((wsX6_lose_r1 ++ (wsX6_lose_r2 ++ wsX6_lose_r3)) ++ wsX10 ++ wsX40 ++ wsX60 ++ wsJx4a65c0 ++ (vx_atS RX6 59 "java/lang/IllegalArgumentException" ["java/lang/RuntimeException", "java/lang/Exception"]).filter goodWord ++ (vx_atS RX6 131 "java/lang/IndexOutOfBoundsException" ["java/lang/RuntimeException", "java/lang/Exception"]).filter goodWord)
def wsX6_isInAQueue_r1 : List Cond := [Cond.fieldLink RX6 146 "QuayMesh$Worker" "waiting" "Ljava/util/ArrayList;", Cond.methodLink RX6 136 yX6_workerNumbered, Cond.instanceMethod yX6_workerNumbered, Cond.selects RX6 yX6_workerNumbered yX6_workerNumbered, Cond.initialized RX6, Cond.code yX6_workerNumbered cX6_workerNumbered 2 (some (.object "QuayMesh$Worker")), Cond.methodLink RX6 221 yX6_craneNumbered, Cond.instanceMethod yX6_craneNumbered, Cond.selects RX6 yX6_craneNumbered yX6_craneNumbered, Cond.code yX6_craneNumbered cX6_craneNumbered 2 (some (.object "QuayMesh$Crane")), Cond.fieldLink RX6 25 "QuayMesh" "cranes" "Ljava/util/ArrayList;", Cond.classLink RX6 38 "QuayMesh$Crane", Cond.methodLink RX6 62 yJx4a65c_size_8abf5, Cond.instanceMethod yJx4a65c_size_8abf5, Cond.selects RJx4a65c yJx4a65c_size_8abf5 yJx4a65c_size_8abf5, Cond.initialized RJx4a65c, Cond.code yJx4a65c_size_8abf5 cJx4a65c_size_8abf5 1 (some .int), Cond.fieldLink RJx4a65c 48 "java/util/ArrayList" "size" "I", Cond.methodLink RX6 52 yX6_requireOneOf, Cond.static yX6_requireOneOf, Cond.code yX6_requireOneOf cX6_requireOneOf 2 none, Cond.classLink RX6 127 "java/lang/IndexOutOfBoundsException", Cond.initialized "java/lang/IndexOutOfBoundsException", Cond.methodLink RX6 97 yJx4a65c_get_915e3]
def wsX6_isInAQueue_r2 : List Cond := [Cond.instanceMethod yJx4a65c_get_915e3, Cond.selects RJx4a65c yJx4a65c_get_915e3 yJx4a65c_get_915e3, Cond.code yJx4a65c_get_915e3 cJx4a65c_get_915e3 2 (some (.object "java/lang/Object")), Cond.methodLink RJx4a65c 118 yJ15_checkIndex_7cf53, Cond.static yJ15_checkIndex_7cf53, Cond.initialized RJ15, Cond.code yJ15_checkIndex_7cf53 cJ15_checkIndex_7cf53 2 (some .int), Cond.methodLink RJ15 105 yJ3_checkIndex_8e157, Cond.static yJ3_checkIndex_8e157, Cond.initialized RJ3, Cond.code yJ3_checkIndex_8e157 cJ3_checkIndex_8e157 3 (some .int), Cond.methodLink RJx4a65c 123 yJx4a65c_elementData_915e3, Cond.instanceMethod yJx4a65c_elementData_915e3, Cond.selects RJx4a65c yJx4a65c_elementData_915e3 yJx4a65c_elementData_915e3, Cond.code yJx4a65c_elementData_915e3 cJx4a65c_elementData_915e3 2 (some (.object "java/lang/Object")), Cond.fieldLink RJx4a65c 9 "java/util/ArrayList" "elementData" "[Ljava/lang/Object;", Cond.methodLink RX6 169 yX6_truckNumbered, Cond.instanceMethod yX6_truckNumbered, Cond.selects RX6 yX6_truckNumbered yX6_truckNumbered, Cond.code yX6_truckNumbered cX6_truckNumbered 2 (some (.object "QuayMesh$Truck")), Cond.fieldLink RX6 28 "QuayMesh" "trucks" "Ljava/util/ArrayList;", Cond.classLink RX6 47 "QuayMesh$Truck", Cond.methodLink RX6 243 yX6_indexOf, Cond.static yX6_indexOf]
def wsX6_isInAQueue_r3 : List Cond := [Cond.code yX6_indexOf cX6_indexOf 3 (some .int)]
def wsX6_isInAQueue : List Cond := .code yX6_isInAQueue cX6_isInAQueue 3 (some .boolean) :: ((wsX6_isInAQueue_r1 ++ (wsX6_isInAQueue_r2 ++ wsX6_isInAQueue_r3)) ++ wsX10 ++ wsX40 ++ wsX60 ++ wsJx4a65c0 ++ (vx_atS RX6 131 "java/lang/IndexOutOfBoundsException" ["java/lang/RuntimeException", "java/lang/Exception"]).filter goodWord)
def wsX6_repeat_r1 : List Cond := [Cond.classLink RX6 70 "java/lang/IllegalStateException", Cond.initialized "java/lang/IllegalStateException", Cond.fieldLink RX6 213 "QuayMesh$Worker" "lastAcknowledged" "LQuayMesh$Message;", Cond.fieldLink RX6 146 "QuayMesh$Worker" "waiting" "Ljava/util/ArrayList;", Cond.fieldLink RX6 151 "QuayMesh$Message" "number" "I", Cond.methodLink RX6 136 yX6_workerNumbered, Cond.instanceMethod yX6_workerNumbered, Cond.selects RX6 yX6_workerNumbered yX6_workerNumbered, Cond.initialized RX6, Cond.code yX6_workerNumbered cX6_workerNumbered 2 (some (.object "QuayMesh$Worker")), Cond.methodLink RX6 221 yX6_craneNumbered, Cond.instanceMethod yX6_craneNumbered, Cond.selects RX6 yX6_craneNumbered yX6_craneNumbered, Cond.code yX6_craneNumbered cX6_craneNumbered 2 (some (.object "QuayMesh$Crane")), Cond.fieldLink RX6 25 "QuayMesh" "cranes" "Ljava/util/ArrayList;", Cond.classLink RX6 38 "QuayMesh$Crane", Cond.methodLink RX6 62 yJx4a65c_size_8abf5, Cond.instanceMethod yJx4a65c_size_8abf5, Cond.selects RJx4a65c yJx4a65c_size_8abf5 yJx4a65c_size_8abf5, Cond.initialized RJx4a65c, Cond.code yJx4a65c_size_8abf5 cJx4a65c_size_8abf5 1 (some .int), Cond.fieldLink RJx4a65c 48 "java/util/ArrayList" "size" "I", Cond.methodLink RX6 52 yX6_requireOneOf, Cond.static yX6_requireOneOf]
def wsX6_repeat_r2 : List Cond := [Cond.code yX6_requireOneOf cX6_requireOneOf 2 none, Cond.classLink RX6 127 "java/lang/IndexOutOfBoundsException", Cond.initialized "java/lang/IndexOutOfBoundsException", Cond.methodLink RX6 97 yJx4a65c_get_915e3, Cond.instanceMethod yJx4a65c_get_915e3, Cond.selects RJx4a65c yJx4a65c_get_915e3 yJx4a65c_get_915e3, Cond.code yJx4a65c_get_915e3 cJx4a65c_get_915e3 2 (some (.object "java/lang/Object")), Cond.methodLink RJx4a65c 118 yJ15_checkIndex_7cf53, Cond.static yJ15_checkIndex_7cf53, Cond.initialized RJ15, Cond.code yJ15_checkIndex_7cf53 cJ15_checkIndex_7cf53 2 (some .int), Cond.methodLink RJ15 105 yJ3_checkIndex_8e157, Cond.static yJ3_checkIndex_8e157, Cond.initialized RJ3, Cond.code yJ3_checkIndex_8e157 cJ3_checkIndex_8e157 3 (some .int), Cond.methodLink RJx4a65c 123 yJx4a65c_elementData_915e3, Cond.instanceMethod yJx4a65c_elementData_915e3, Cond.selects RJx4a65c yJx4a65c_elementData_915e3 yJx4a65c_elementData_915e3, Cond.code yJx4a65c_elementData_915e3 cJx4a65c_elementData_915e3 2 (some (.object "java/lang/Object")), Cond.fieldLink RJx4a65c 9 "java/util/ArrayList" "elementData" "[Ljava/lang/Object;", Cond.methodLink RX6 169 yX6_truckNumbered, Cond.instanceMethod yX6_truckNumbered, Cond.selects RX6 yX6_truckNumbered yX6_truckNumbered, Cond.code yX6_truckNumbered cX6_truckNumbered 2 (some (.object "QuayMesh$Truck"))]
def wsX6_repeat_r3 : List Cond := [Cond.fieldLink RX6 28 "QuayMesh" "trucks" "Ljava/util/ArrayList;", Cond.classLink RX6 47 "QuayMesh$Truck", Cond.methodLink RX6 216 yX6_isInAQueue, Cond.instanceMethod yX6_isInAQueue, Cond.selects RX6 yX6_isInAQueue yX6_isInAQueue, Cond.code yX6_isInAQueue cX6_isInAQueue 3 (some .boolean), Cond.methodLink RX6 243 yX6_indexOf, Cond.static yX6_indexOf, Cond.code yX6_indexOf cX6_indexOf 3 (some .int), Cond.methodLink RX6 43 yJx4a65c_add_9ea2d, Cond.instanceMethod yJx4a65c_add_9ea2d, Cond.selects RJx4a65c yJx4a65c_add_9ea2d yJx4a65c_add_9ea2d, Cond.code yJx4a65c_add_9ea2d cJx4a65c_add_9ea2d 2 (some .boolean), Cond.fieldLink RJx4a65c 63 "java/util/ArrayList" "modCount" "I", Cond.sameField "java/util/ArrayList" "java/util/AbstractList" "modCount" "I", Cond.methodLink RJx4a65c 131 yJx4a65c_add_72be8, Cond.instanceMethod yJx4a65c_add_72be8, Cond.selects RJx4a65c yJx4a65c_add_72be8 yJx4a65c_add_72be8, Cond.code yJx4a65c_add_72be8 cJx4a65c_add_72be8 4 none, Cond.methodLink RJx4a65c 129 yJx4a65c_grow_d5877, Cond.instanceMethod yJx4a65c_grow_d5877, Cond.selects RJx4a65c yJx4a65c_grow_d5877 yJx4a65c_grow_d5877, Cond.code yJx4a65c_grow_d5877 cJx4a65c_grow_d5877 1 (some (.array (.object "java/lang/Object"))), Cond.methodLink RJx4a65c 69 yJx4a65c_grow_92f84]
def wsX6_repeat_r4 : List Cond := [Cond.instanceMethod yJx4a65c_grow_92f84, Cond.selects RJx4a65c yJx4a65c_grow_92f84 yJx4a65c_grow_92f84, Cond.code yJx4a65c_grow_92f84 cJx4a65c_grow_92f84 4 (some (.array (.object "java/lang/Object"))), Cond.fieldLink RJx4a65c 39 "java/util/ArrayList" "DEFAULTCAPACITY_EMPTY_ELEMENTDATA" "[Ljava/lang/Object;", Cond.methodLink RJx4a65c 79 Lib.Math.max.name, Cond.static Lib.Math.max.name, Cond.initialized "java/lang/Math", Cond.code Lib.Math.max.name Lib.Math.max.code 2 (some .int), Cond.classLink RJx4a65c 7 "java/lang/Object", Cond.methodLink RJx4a65c 73 yJ8_newLength_cabcc, Cond.static yJ8_newLength_cabcc, Cond.initialized RJ8, Cond.code yJ8_newLength_cabcc cJ8_newLength_cabcc 4 (some .int), Cond.methodLink RJ8 194 Lib.Math.max.name, Cond.constant RJ8 200 (2147483639), Cond.methodLink RJ8 201 yJ8_hugeLength_7cf53, Cond.static yJ8_hugeLength_7cf53, Cond.code yJ8_hugeLength_7cf53 cJ8_hugeLength_7cf53 3 (some .int), Cond.methodLink RJx4a65c 66 yJ7_copyOf_1904c, Cond.static yJ7_copyOf_1904c, Cond.initialized RJ7, Cond.code yJ7_copyOf_1904c cJ7_copyOf_1904c 2 (some (.array (.object "java/lang/Object"))), Cond.methodLink RJ7 86 ⟨"java/lang/Object", "getClass", "()Ljava/lang/Class;"⟩, Cond.selects "[Ljava/lang/Object;" ⟨"java/lang/Object", "getClass", "()Ljava/lang/Class;"⟩ ⟨"java/lang/Object", "getClass", "()Ljava/lang/Class;"⟩]
def wsX6_repeat_r5 : List Cond := [Cond.instanceMethod ⟨"java/lang/Object", "getClass", "()Ljava/lang/Class;"⟩, Cond.native ⟨"java/lang/Object", "getClass", "()Ljava/lang/Class;"⟩, Cond.methodLink RJ7 300 yJ7_copyOf_6403c, Cond.static yJ7_copyOf_6403c, Cond.code yJ7_copyOf_6403c cJ7_copyOf_6403c 4 (some (.array (.object "java/lang/Object"))), Cond.classLink RJ7 110 "[Ljava/lang/Object;", Cond.classLink RJ7 2 "java/lang/Object", Cond.methodLink RJ7 304 Lib.Math.min.name, Cond.static Lib.Math.min.name, Cond.code Lib.Math.min.name Lib.Math.min.code 2 (some .int), Cond.methodLink RJ7 150 arraycopyName, Cond.native arraycopyName, Cond.static arraycopyName, Cond.initialized "java/lang/System"]
def wsX6_repeat : List Cond := .code yX6_repeat cX6_repeat 4 (some .int) :: ((wsX6_repeat_r1 ++ (wsX6_repeat_r2 ++ (wsX6_repeat_r3 ++ (wsX6_repeat_r4 ++ wsX6_repeat_r5)))) ++ wsX10 ++ wsX40 ++ wsX20 ++ wsX60 ++ wsJx4a65c0 ++ (vx_atS RX6 74 "java/lang/IllegalStateException" ["java/lang/RuntimeException", "java/lang/Exception"]).filter goodWord ++ (vx_atS RX6 131 "java/lang/IndexOutOfBoundsException" ["java/lang/RuntimeException", "java/lang/Exception"]).filter goodWord)
def wsX6_silence_r1 : List Cond := [Cond.fieldLink RX6 225 "QuayMesh$Crane" "isSilent" "Z", Cond.sameField "QuayMesh$Crane" "QuayMesh$Worker" "isSilent" "Z", Cond.methodLink RX6 221 yX6_craneNumbered, Cond.instanceMethod yX6_craneNumbered, Cond.selects RX6 yX6_craneNumbered yX6_craneNumbered, Cond.initialized RX6, Cond.code yX6_craneNumbered cX6_craneNumbered 2 (some (.object "QuayMesh$Crane")), Cond.fieldLink RX6 25 "QuayMesh" "cranes" "Ljava/util/ArrayList;", Cond.classLink RX6 38 "QuayMesh$Crane", Cond.methodLink RX6 62 yJx4a65c_size_8abf5, Cond.instanceMethod yJx4a65c_size_8abf5, Cond.selects RJx4a65c yJx4a65c_size_8abf5 yJx4a65c_size_8abf5, Cond.initialized RJx4a65c, Cond.code yJx4a65c_size_8abf5 cJx4a65c_size_8abf5 1 (some .int), Cond.fieldLink RJx4a65c 48 "java/util/ArrayList" "size" "I", Cond.methodLink RX6 52 yX6_requireOneOf, Cond.static yX6_requireOneOf, Cond.code yX6_requireOneOf cX6_requireOneOf 2 none, Cond.classLink RX6 127 "java/lang/IndexOutOfBoundsException", Cond.initialized "java/lang/IndexOutOfBoundsException", Cond.methodLink RX6 97 yJx4a65c_get_915e3, Cond.instanceMethod yJx4a65c_get_915e3, Cond.selects RJx4a65c yJx4a65c_get_915e3 yJx4a65c_get_915e3, Cond.code yJx4a65c_get_915e3 cJx4a65c_get_915e3 2 (some (.object "java/lang/Object"))]
def wsX6_silence_r2 : List Cond := [Cond.methodLink RJx4a65c 118 yJ15_checkIndex_7cf53, Cond.static yJ15_checkIndex_7cf53, Cond.initialized RJ15, Cond.code yJ15_checkIndex_7cf53 cJ15_checkIndex_7cf53 2 (some .int), Cond.methodLink RJ15 105 yJ3_checkIndex_8e157, Cond.static yJ3_checkIndex_8e157, Cond.initialized RJ3, Cond.code yJ3_checkIndex_8e157 cJ3_checkIndex_8e157 3 (some .int), Cond.methodLink RJx4a65c 123 yJx4a65c_elementData_915e3, Cond.instanceMethod yJx4a65c_elementData_915e3, Cond.selects RJx4a65c yJx4a65c_elementData_915e3 yJx4a65c_elementData_915e3, Cond.code yJx4a65c_elementData_915e3 cJx4a65c_elementData_915e3 2 (some (.object "java/lang/Object")), Cond.fieldLink RJx4a65c 9 "java/util/ArrayList" "elementData" "[Ljava/lang/Object;"]
def wsX6_silence : List Cond := .code yX6_silence cX6_silence 5 (some .boolean) :: ((wsX6_silence_r1 ++ wsX6_silence_r2) ++ wsX10 ++ wsX40 ++ wsX60 ++ wsJx4a65c0 ++ (vx_atS RX6 131 "java/lang/IndexOutOfBoundsException" ["java/lang/RuntimeException", "java/lang/Exception"]).filter goodWord)
def wsJx4a65c_clear_da8c8 : List Cond := .code yJx4a65c_clear_da8c8 cJx4a65c_clear_da8c8 4 none :: ([.fieldLink RJx4a65c 63 "java/util/ArrayList" "modCount" "I", .sameField "java/util/ArrayList" "java/util/AbstractList" "modCount" "I", .fieldLink RJx4a65c 9 "java/util/ArrayList" "elementData" "[Ljava/lang/Object;", .fieldLink RJx4a65c 48 "java/util/ArrayList" "size" "I"] ++ wsJx4a65c0)
def wsX6_giveAway_r1 : List Cond := [Cond.classLink RX6 70 "java/lang/IllegalStateException", Cond.initialized "java/lang/IllegalStateException", Cond.fieldLink RX6 225 "QuayMesh$Crane" "isSilent" "Z", Cond.sameField "QuayMesh$Crane" "QuayMesh$Worker" "isSilent" "Z", Cond.fieldLink RX6 230 "QuayMesh$Crane" "waiting" "Ljava/util/ArrayList;", Cond.sameField "QuayMesh$Crane" "QuayMesh$Worker" "waiting" "Ljava/util/ArrayList;", Cond.classLink RX6 141 "QuayMesh$Message", Cond.methodLink RX6 221 yX6_craneNumbered, Cond.instanceMethod yX6_craneNumbered, Cond.selects RX6 yX6_craneNumbered yX6_craneNumbered, Cond.initialized RX6, Cond.code yX6_craneNumbered cX6_craneNumbered 2 (some (.object "QuayMesh$Crane")), Cond.fieldLink RX6 25 "QuayMesh" "cranes" "Ljava/util/ArrayList;", Cond.classLink RX6 38 "QuayMesh$Crane", Cond.methodLink RX6 62 yJx4a65c_size_8abf5, Cond.instanceMethod yJx4a65c_size_8abf5, Cond.selects RJx4a65c yJx4a65c_size_8abf5 yJx4a65c_size_8abf5, Cond.initialized RJx4a65c, Cond.code yJx4a65c_size_8abf5 cJx4a65c_size_8abf5 1 (some .int), Cond.fieldLink RJx4a65c 48 "java/util/ArrayList" "size" "I", Cond.methodLink RX6 52 yX6_requireOneOf, Cond.static yX6_requireOneOf, Cond.code yX6_requireOneOf cX6_requireOneOf 2 none, Cond.classLink RX6 127 "java/lang/IndexOutOfBoundsException"]
def wsX6_giveAway_r2 : List Cond := [Cond.initialized "java/lang/IndexOutOfBoundsException", Cond.methodLink RX6 97 yJx4a65c_get_915e3, Cond.instanceMethod yJx4a65c_get_915e3, Cond.selects RJx4a65c yJx4a65c_get_915e3 yJx4a65c_get_915e3, Cond.code yJx4a65c_get_915e3 cJx4a65c_get_915e3 2 (some (.object "java/lang/Object")), Cond.methodLink RJx4a65c 118 yJ15_checkIndex_7cf53, Cond.static yJ15_checkIndex_7cf53, Cond.initialized RJ15, Cond.code yJ15_checkIndex_7cf53 cJ15_checkIndex_7cf53 2 (some .int), Cond.methodLink RJ15 105 yJ3_checkIndex_8e157, Cond.static yJ3_checkIndex_8e157, Cond.initialized RJ3, Cond.code yJ3_checkIndex_8e157 cJ3_checkIndex_8e157 3 (some .int), Cond.methodLink RJx4a65c 123 yJx4a65c_elementData_915e3, Cond.instanceMethod yJx4a65c_elementData_915e3, Cond.selects RJx4a65c yJx4a65c_elementData_915e3 yJx4a65c_elementData_915e3, Cond.code yJx4a65c_elementData_915e3 cJx4a65c_elementData_915e3 2 (some (.object "java/lang/Object")), Cond.fieldLink RJx4a65c 9 "java/util/ArrayList" "elementData" "[Ljava/lang/Object;", Cond.methodLink RX6 43 yJx4a65c_add_9ea2d, Cond.instanceMethod yJx4a65c_add_9ea2d, Cond.selects RJx4a65c yJx4a65c_add_9ea2d yJx4a65c_add_9ea2d, Cond.code yJx4a65c_add_9ea2d cJx4a65c_add_9ea2d 2 (some .boolean), Cond.fieldLink RJx4a65c 63 "java/util/ArrayList" "modCount" "I", Cond.sameField "java/util/ArrayList" "java/util/AbstractList" "modCount" "I"]
def wsX6_giveAway_r3 : List Cond := [Cond.methodLink RJx4a65c 131 yJx4a65c_add_72be8, Cond.instanceMethod yJx4a65c_add_72be8, Cond.selects RJx4a65c yJx4a65c_add_72be8 yJx4a65c_add_72be8, Cond.code yJx4a65c_add_72be8 cJx4a65c_add_72be8 4 none, Cond.methodLink RJx4a65c 129 yJx4a65c_grow_d5877, Cond.instanceMethod yJx4a65c_grow_d5877, Cond.selects RJx4a65c yJx4a65c_grow_d5877 yJx4a65c_grow_d5877, Cond.code yJx4a65c_grow_d5877 cJx4a65c_grow_d5877 1 (some (.array (.object "java/lang/Object"))), Cond.methodLink RJx4a65c 69 yJx4a65c_grow_92f84, Cond.instanceMethod yJx4a65c_grow_92f84, Cond.selects RJx4a65c yJx4a65c_grow_92f84 yJx4a65c_grow_92f84, Cond.code yJx4a65c_grow_92f84 cJx4a65c_grow_92f84 4 (some (.array (.object "java/lang/Object"))), Cond.fieldLink RJx4a65c 39 "java/util/ArrayList" "DEFAULTCAPACITY_EMPTY_ELEMENTDATA" "[Ljava/lang/Object;", Cond.methodLink RJx4a65c 79 Lib.Math.max.name, Cond.static Lib.Math.max.name, Cond.initialized "java/lang/Math", Cond.code Lib.Math.max.name Lib.Math.max.code 2 (some .int), Cond.classLink RJx4a65c 7 "java/lang/Object", Cond.methodLink RJx4a65c 73 yJ8_newLength_cabcc, Cond.static yJ8_newLength_cabcc, Cond.initialized RJ8, Cond.code yJ8_newLength_cabcc cJ8_newLength_cabcc 4 (some .int), Cond.methodLink RJ8 194 Lib.Math.max.name, Cond.constant RJ8 200 (2147483639)]
def wsX6_giveAway_r4 : List Cond := [Cond.methodLink RJ8 201 yJ8_hugeLength_7cf53, Cond.static yJ8_hugeLength_7cf53, Cond.code yJ8_hugeLength_7cf53 cJ8_hugeLength_7cf53 3 (some .int), Cond.methodLink RJx4a65c 66 yJ7_copyOf_1904c, Cond.static yJ7_copyOf_1904c, Cond.initialized RJ7, Cond.code yJ7_copyOf_1904c cJ7_copyOf_1904c 2 (some (.array (.object "java/lang/Object"))), Cond.methodLink RJ7 86 ⟨"java/lang/Object", "getClass", "()Ljava/lang/Class;"⟩, Cond.selects "[Ljava/lang/Object;" ⟨"java/lang/Object", "getClass", "()Ljava/lang/Class;"⟩ ⟨"java/lang/Object", "getClass", "()Ljava/lang/Class;"⟩, Cond.instanceMethod ⟨"java/lang/Object", "getClass", "()Ljava/lang/Class;"⟩, Cond.native ⟨"java/lang/Object", "getClass", "()Ljava/lang/Class;"⟩, Cond.methodLink RJ7 300 yJ7_copyOf_6403c, Cond.static yJ7_copyOf_6403c, Cond.code yJ7_copyOf_6403c cJ7_copyOf_6403c 4 (some (.array (.object "java/lang/Object"))), Cond.classLink RJ7 110 "[Ljava/lang/Object;", Cond.classLink RJ7 2 "java/lang/Object", Cond.methodLink RJ7 304 Lib.Math.min.name, Cond.static Lib.Math.min.name, Cond.code Lib.Math.min.name Lib.Math.min.code 2 (some .int), Cond.methodLink RJ7 150 arraycopyName, Cond.native arraycopyName, Cond.static arraycopyName, Cond.initialized "java/lang/System", Cond.methodLink RX6 231 yJx4a65c_clear_da8c8]
def wsX6_giveAway_r5 : List Cond := [Cond.instanceMethod yJx4a65c_clear_da8c8, Cond.selects RJx4a65c yJx4a65c_clear_da8c8 yJx4a65c_clear_da8c8, Cond.code yJx4a65c_clear_da8c8 cJx4a65c_clear_da8c8 4 none]
def wsX6_giveAway : List Cond := .code yX6_giveAway cX6_giveAway 7 (some .int) :: ((wsX6_giveAway_r1 ++ (wsX6_giveAway_r2 ++ (wsX6_giveAway_r3 ++ (wsX6_giveAway_r4 ++ wsX6_giveAway_r5)))) ++ wsX10 ++ wsX40 ++ wsX60 ++ wsJx4a65c0 ++ (vx_atS RX6 74 "java/lang/IllegalStateException" ["java/lang/RuntimeException", "java/lang/Exception"]).filter goodWord ++ (vx_atS RX6 131 "java/lang/IndexOutOfBoundsException" ["java/lang/RuntimeException", "java/lang/Exception"]).filter goodWord)
def wsX6_park_r1 : List Cond := [Cond.classLink RX6 70 "java/lang/IllegalStateException", Cond.initialized "java/lang/IllegalStateException", Cond.fieldLink RX6 225 "QuayMesh$Crane" "isSilent" "Z", Cond.sameField "QuayMesh$Crane" "QuayMesh$Worker" "isSilent" "Z", Cond.fieldLink RX6 239 "QuayMesh$Crane" "place" "I", Cond.methodLink RX6 221 yX6_craneNumbered, Cond.instanceMethod yX6_craneNumbered, Cond.selects RX6 yX6_craneNumbered yX6_craneNumbered, Cond.initialized RX6, Cond.code yX6_craneNumbered cX6_craneNumbered 2 (some (.object "QuayMesh$Crane")), Cond.fieldLink RX6 25 "QuayMesh" "cranes" "Ljava/util/ArrayList;", Cond.classLink RX6 38 "QuayMesh$Crane", Cond.methodLink RX6 62 yJx4a65c_size_8abf5, Cond.instanceMethod yJx4a65c_size_8abf5, Cond.selects RJx4a65c yJx4a65c_size_8abf5 yJx4a65c_size_8abf5, Cond.initialized RJx4a65c, Cond.code yJx4a65c_size_8abf5 cJx4a65c_size_8abf5 1 (some .int), Cond.fieldLink RJx4a65c 48 "java/util/ArrayList" "size" "I", Cond.methodLink RX6 52 yX6_requireOneOf, Cond.static yX6_requireOneOf, Cond.code yX6_requireOneOf cX6_requireOneOf 2 none, Cond.classLink RX6 127 "java/lang/IndexOutOfBoundsException", Cond.initialized "java/lang/IndexOutOfBoundsException", Cond.methodLink RX6 97 yJx4a65c_get_915e3]
def wsX6_park_r2 : List Cond := [Cond.instanceMethod yJx4a65c_get_915e3, Cond.selects RJx4a65c yJx4a65c_get_915e3 yJx4a65c_get_915e3, Cond.code yJx4a65c_get_915e3 cJx4a65c_get_915e3 2 (some (.object "java/lang/Object")), Cond.methodLink RJx4a65c 118 yJ15_checkIndex_7cf53, Cond.static yJ15_checkIndex_7cf53, Cond.initialized RJ15, Cond.code yJ15_checkIndex_7cf53 cJ15_checkIndex_7cf53 2 (some .int), Cond.methodLink RJ15 105 yJ3_checkIndex_8e157, Cond.static yJ3_checkIndex_8e157, Cond.initialized RJ3, Cond.code yJ3_checkIndex_8e157 cJ3_checkIndex_8e157 3 (some .int), Cond.methodLink RJx4a65c 123 yJx4a65c_elementData_915e3, Cond.instanceMethod yJx4a65c_elementData_915e3, Cond.selects RJx4a65c yJx4a65c_elementData_915e3 yJx4a65c_elementData_915e3, Cond.code yJx4a65c_elementData_915e3 cJx4a65c_elementData_915e3 2 (some (.object "java/lang/Object")), Cond.fieldLink RJx4a65c 9 "java/util/ArrayList" "elementData" "[Ljava/lang/Object;", Cond.methodLink RX6 234 yX6_canGo, Cond.instanceMethod yX6_canGo, Cond.selects RX6 yX6_canGo yX6_canGo, Cond.code yX6_canGo cX6_canGo 5 (some .boolean)]
def wsX6_park : List Cond := .code yX6_park cX6_park 5 (some .int) :: ((wsX6_park_r1 ++ wsX6_park_r2) ++ wsX10 ++ wsX40 ++ wsX60 ++ wsJx4a65c0 ++ (vx_atS RX6 74 "java/lang/IllegalStateException" ["java/lang/RuntimeException", "java/lang/Exception"]).filter goodWord ++ (vx_atS RX6 131 "java/lang/IndexOutOfBoundsException" ["java/lang/RuntimeException", "java/lang/Exception"]).filter goodWord)
def wsX6_slotsLeft_r1 : List Cond := [Cond.fieldLink RX6 16 "QuayMesh" "allBoxes" "Ljava/util/ArrayList;", Cond.classLink RX6 92 "QuayMesh$Box", Cond.methodLink RX6 62 yJx4a65c_size_8abf5, Cond.instanceMethod yJx4a65c_size_8abf5, Cond.selects RJx4a65c yJx4a65c_size_8abf5 yJx4a65c_size_8abf5, Cond.initialized RJx4a65c, Cond.code yJx4a65c_size_8abf5 cJx4a65c_size_8abf5 1 (some .int), Cond.fieldLink RJx4a65c 48 "java/util/ArrayList" "size" "I", Cond.methodLink RX6 97 yJx4a65c_get_915e3, Cond.instanceMethod yJx4a65c_get_915e3, Cond.selects RJx4a65c yJx4a65c_get_915e3 yJx4a65c_get_915e3, Cond.code yJx4a65c_get_915e3 cJx4a65c_get_915e3 2 (some (.object "java/lang/Object")), Cond.methodLink RJx4a65c 118 yJ15_checkIndex_7cf53, Cond.static yJ15_checkIndex_7cf53, Cond.initialized RJ15, Cond.code yJ15_checkIndex_7cf53 cJ15_checkIndex_7cf53 2 (some .int), Cond.methodLink RJ15 105 yJ3_checkIndex_8e157, Cond.static yJ3_checkIndex_8e157, Cond.initialized RJ3, Cond.code yJ3_checkIndex_8e157 cJ3_checkIndex_8e157 3 (some .int), Cond.methodLink RJx4a65c 123 yJx4a65c_elementData_915e3, Cond.instanceMethod yJx4a65c_elementData_915e3, Cond.selects RJx4a65c yJx4a65c_elementData_915e3 yJx4a65c_elementData_915e3, Cond.code yJx4a65c_elementData_915e3 cJx4a65c_elementData_915e3 2 (some (.object "java/lang/Object"))]
def wsX6_slotsLeft_r2 : List Cond := [Cond.fieldLink RJx4a65c 9 "java/util/ArrayList" "elementData" "[Ljava/lang/Object;", Cond.methodLink RX6 287 yX0_isBookedAt, Cond.instanceMethod yX0_isBookedAt, Cond.selects RX0 yX0_isBookedAt yX0_isBookedAt, Cond.initialized RX0, Cond.code yX0_isBookedAt cX0_isBookedAt 3 (some .boolean), Cond.fieldLink RX0 21 "QuayMesh$Box" "bookedGate" "I", Cond.fieldLink RX0 24 "QuayMesh$Box" "bookedHour" "I"]
def wsX6_slotsLeft : List Cond := .code yX6_slotsLeft cX6_slotsLeft 5 (some .int) :: ((wsX6_slotsLeft_r1 ++ wsX6_slotsLeft_r2) ++ wsX60 ++ wsJx4a65c0 ++ wsX00)
def wsX6_canComeOut_r1 : List Cond := [Cond.fieldLink RX6 16 "QuayMesh" "allBoxes" "Ljava/util/ArrayList;", Cond.classLink RX6 92 "QuayMesh$Box", Cond.fieldLink RX6 284 "QuayMesh$Box" "spot" "I", Cond.fieldLink RX6 281 "QuayMesh$Box" "level" "I", Cond.fieldLink RX6 323 "QuayMesh$Box" "bookedHour" "I", Cond.methodLink RX6 62 yJx4a65c_size_8abf5, Cond.instanceMethod yJx4a65c_size_8abf5, Cond.selects RJx4a65c yJx4a65c_size_8abf5 yJx4a65c_size_8abf5, Cond.initialized RJx4a65c, Cond.code yJx4a65c_size_8abf5 cJx4a65c_size_8abf5 1 (some .int), Cond.fieldLink RJx4a65c 48 "java/util/ArrayList" "size" "I", Cond.methodLink RX6 97 yJx4a65c_get_915e3, Cond.instanceMethod yJx4a65c_get_915e3, Cond.selects RJx4a65c yJx4a65c_get_915e3 yJx4a65c_get_915e3, Cond.code yJx4a65c_get_915e3 cJx4a65c_get_915e3 2 (some (.object "java/lang/Object")), Cond.methodLink RJx4a65c 118 yJ15_checkIndex_7cf53, Cond.static yJ15_checkIndex_7cf53, Cond.initialized RJ15, Cond.code yJ15_checkIndex_7cf53 cJ15_checkIndex_7cf53 2 (some .int), Cond.methodLink RJ15 105 yJ3_checkIndex_8e157, Cond.static yJ3_checkIndex_8e157, Cond.initialized RJ3, Cond.code yJ3_checkIndex_8e157 cJ3_checkIndex_8e157 3 (some .int), Cond.methodLink RJx4a65c 123 yJx4a65c_elementData_915e3]
def wsX6_canComeOut_r2 : List Cond := [Cond.instanceMethod yJx4a65c_elementData_915e3, Cond.selects RJx4a65c yJx4a65c_elementData_915e3 yJx4a65c_elementData_915e3, Cond.code yJx4a65c_elementData_915e3 cJx4a65c_elementData_915e3 2 (some (.object "java/lang/Object")), Cond.fieldLink RJx4a65c 9 "java/util/ArrayList" "elementData" "[Ljava/lang/Object;", Cond.methodLink RX6 189 yX0_isAt, Cond.instanceMethod yX0_isAt, Cond.selects RX0 yX0_isAt yX0_isAt, Cond.initialized RX0, Cond.code yX0_isAt cX0_isAt 3 (some .boolean), Cond.fieldLink RX0 9 "QuayMesh$Box" "where" "I", Cond.fieldLink RX0 34 "QuayMesh$Box" "spot" "I", Cond.methodLink RX6 311 yX0_isBooked, Cond.instanceMethod yX0_isBooked, Cond.selects RX0 yX0_isBooked yX0_isBooked, Cond.code yX0_isBooked cX0_isBooked 1 (some .boolean), Cond.fieldLink RX0 24 "QuayMesh$Box" "bookedHour" "I"]
def wsX6_canComeOut : List Cond := .code yX6_canComeOut cX6_canComeOut 5 (some .boolean) :: ((wsX6_canComeOut_r1 ++ wsX6_canComeOut_r2) ++ wsX60 ++ wsX00 ++ wsJx4a65c0)
def wsX6_book_r1 : List Cond := [Cond.classLink RX6 55 "java/lang/IllegalArgumentException", Cond.initialized "java/lang/IllegalArgumentException", Cond.classLink RX6 70 "java/lang/IllegalStateException", Cond.initialized "java/lang/IllegalStateException", Cond.fieldLink RX6 31 "QuayMesh" "now" "I", Cond.fieldLink RX6 105 "QuayMesh$Box" "where" "I", Cond.fieldLink RX6 320 "QuayMesh$Box" "bookedGate" "I", Cond.fieldLink RX6 323 "QuayMesh$Box" "bookedHour" "I", Cond.methodLink RX6 52 yX6_requireOneOf, Cond.static yX6_requireOneOf, Cond.initialized RX6, Cond.code yX6_requireOneOf cX6_requireOneOf 2 none, Cond.classLink RX6 127 "java/lang/IndexOutOfBoundsException", Cond.initialized "java/lang/IndexOutOfBoundsException", Cond.methodLink RX6 116 yX6_boxNumbered, Cond.instanceMethod yX6_boxNumbered, Cond.selects RX6 yX6_boxNumbered yX6_boxNumbered, Cond.code yX6_boxNumbered cX6_boxNumbered 2 (some (.object "QuayMesh$Box")), Cond.fieldLink RX6 16 "QuayMesh" "allBoxes" "Ljava/util/ArrayList;", Cond.classLink RX6 92 "QuayMesh$Box", Cond.methodLink RX6 62 yJx4a65c_size_8abf5, Cond.instanceMethod yJx4a65c_size_8abf5, Cond.selects RJx4a65c yJx4a65c_size_8abf5 yJx4a65c_size_8abf5, Cond.initialized RJx4a65c]
def wsX6_book_r2 : List Cond := [Cond.code yJx4a65c_size_8abf5 cJx4a65c_size_8abf5 1 (some .int), Cond.fieldLink RJx4a65c 48 "java/util/ArrayList" "size" "I", Cond.methodLink RX6 97 yJx4a65c_get_915e3, Cond.instanceMethod yJx4a65c_get_915e3, Cond.selects RJx4a65c yJx4a65c_get_915e3 yJx4a65c_get_915e3, Cond.code yJx4a65c_get_915e3 cJx4a65c_get_915e3 2 (some (.object "java/lang/Object")), Cond.methodLink RJx4a65c 118 yJ15_checkIndex_7cf53, Cond.static yJ15_checkIndex_7cf53, Cond.initialized RJ15, Cond.code yJ15_checkIndex_7cf53 cJ15_checkIndex_7cf53 2 (some .int), Cond.methodLink RJ15 105 yJ3_checkIndex_8e157, Cond.static yJ3_checkIndex_8e157, Cond.initialized RJ3, Cond.code yJ3_checkIndex_8e157 cJ3_checkIndex_8e157 3 (some .int), Cond.methodLink RJx4a65c 123 yJx4a65c_elementData_915e3, Cond.instanceMethod yJx4a65c_elementData_915e3, Cond.selects RJx4a65c yJx4a65c_elementData_915e3 yJx4a65c_elementData_915e3, Cond.code yJx4a65c_elementData_915e3 cJx4a65c_elementData_915e3 2 (some (.object "java/lang/Object")), Cond.fieldLink RJx4a65c 9 "java/util/ArrayList" "elementData" "[Ljava/lang/Object;", Cond.methodLink RX6 308 yX6_slotsLeft, Cond.instanceMethod yX6_slotsLeft, Cond.selects RX6 yX6_slotsLeft yX6_slotsLeft, Cond.code yX6_slotsLeft cX6_slotsLeft 5 (some .int), Cond.methodLink RX6 287 yX0_isBookedAt]
def wsX6_book_r3 : List Cond := [Cond.instanceMethod yX0_isBookedAt, Cond.selects RX0 yX0_isBookedAt yX0_isBookedAt, Cond.initialized RX0, Cond.code yX0_isBookedAt cX0_isBookedAt 3 (some .boolean), Cond.fieldLink RX0 21 "QuayMesh$Box" "bookedGate" "I", Cond.fieldLink RX0 24 "QuayMesh$Box" "bookedHour" "I", Cond.methodLink RX6 311 yX0_isBooked, Cond.instanceMethod yX0_isBooked, Cond.selects RX0 yX0_isBooked yX0_isBooked, Cond.code yX0_isBooked cX0_isBooked 1 (some .boolean), Cond.methodLink RX6 314 yX6_canComeOut, Cond.instanceMethod yX6_canComeOut, Cond.selects RX6 yX6_canComeOut yX6_canComeOut, Cond.code yX6_canComeOut cX6_canComeOut 5 (some .boolean), Cond.fieldLink RX6 284 "QuayMesh$Box" "spot" "I", Cond.fieldLink RX6 281 "QuayMesh$Box" "level" "I", Cond.methodLink RX6 189 yX0_isAt, Cond.instanceMethod yX0_isAt, Cond.selects RX0 yX0_isAt yX0_isAt, Cond.code yX0_isAt cX0_isAt 3 (some .boolean), Cond.fieldLink RX0 9 "QuayMesh$Box" "where" "I", Cond.fieldLink RX0 34 "QuayMesh$Box" "spot" "I"]
def wsX6_book : List Cond := .code yX6_book cX6_book 6 (some .int) :: ((wsX6_book_r1 ++ (wsX6_book_r2 ++ wsX6_book_r3)) ++ wsX60 ++ wsX00 ++ wsJx4a65c0 ++ (vx_atS RX6 59 "java/lang/IllegalArgumentException" ["java/lang/RuntimeException", "java/lang/Exception"]).filter goodWord ++ (vx_atS RX6 74 "java/lang/IllegalStateException" ["java/lang/RuntimeException", "java/lang/Exception"]).filter goodWord ++ (vx_atS RX6 131 "java/lang/IndexOutOfBoundsException" ["java/lang/RuntimeException", "java/lang/Exception"]).filter goodWord)
def wsX6_unbook_r1 : List Cond := [Cond.classLink RX6 70 "java/lang/IllegalStateException", Cond.initialized "java/lang/IllegalStateException", Cond.fieldLink RX6 323 "QuayMesh$Box" "bookedHour" "I", Cond.methodLink RX6 116 yX6_boxNumbered, Cond.instanceMethod yX6_boxNumbered, Cond.selects RX6 yX6_boxNumbered yX6_boxNumbered, Cond.initialized RX6, Cond.code yX6_boxNumbered cX6_boxNumbered 2 (some (.object "QuayMesh$Box")), Cond.fieldLink RX6 16 "QuayMesh" "allBoxes" "Ljava/util/ArrayList;", Cond.classLink RX6 92 "QuayMesh$Box", Cond.methodLink RX6 62 yJx4a65c_size_8abf5, Cond.instanceMethod yJx4a65c_size_8abf5, Cond.selects RJx4a65c yJx4a65c_size_8abf5 yJx4a65c_size_8abf5, Cond.initialized RJx4a65c, Cond.code yJx4a65c_size_8abf5 cJx4a65c_size_8abf5 1 (some .int), Cond.fieldLink RJx4a65c 48 "java/util/ArrayList" "size" "I", Cond.methodLink RX6 52 yX6_requireOneOf, Cond.static yX6_requireOneOf, Cond.code yX6_requireOneOf cX6_requireOneOf 2 none, Cond.classLink RX6 127 "java/lang/IndexOutOfBoundsException", Cond.initialized "java/lang/IndexOutOfBoundsException", Cond.methodLink RX6 97 yJx4a65c_get_915e3, Cond.instanceMethod yJx4a65c_get_915e3, Cond.selects RJx4a65c yJx4a65c_get_915e3 yJx4a65c_get_915e3]
def wsX6_unbook_r2 : List Cond := [Cond.code yJx4a65c_get_915e3 cJx4a65c_get_915e3 2 (some (.object "java/lang/Object")), Cond.methodLink RJx4a65c 118 yJ15_checkIndex_7cf53, Cond.static yJ15_checkIndex_7cf53, Cond.initialized RJ15, Cond.code yJ15_checkIndex_7cf53 cJ15_checkIndex_7cf53 2 (some .int), Cond.methodLink RJ15 105 yJ3_checkIndex_8e157, Cond.static yJ3_checkIndex_8e157, Cond.initialized RJ3, Cond.code yJ3_checkIndex_8e157 cJ3_checkIndex_8e157 3 (some .int), Cond.methodLink RJx4a65c 123 yJx4a65c_elementData_915e3, Cond.instanceMethod yJx4a65c_elementData_915e3, Cond.selects RJx4a65c yJx4a65c_elementData_915e3 yJx4a65c_elementData_915e3, Cond.code yJx4a65c_elementData_915e3 cJx4a65c_elementData_915e3 2 (some (.object "java/lang/Object")), Cond.fieldLink RJx4a65c 9 "java/util/ArrayList" "elementData" "[Ljava/lang/Object;", Cond.methodLink RX6 311 yX0_isBooked, Cond.instanceMethod yX0_isBooked, Cond.selects RX0 yX0_isBooked yX0_isBooked, Cond.initialized RX0, Cond.code yX0_isBooked cX0_isBooked 1 (some .boolean), Cond.fieldLink RX0 24 "QuayMesh$Box" "bookedHour" "I", Cond.methodLink RX6 290 yX0_dropBooking, Cond.instanceMethod yX0_dropBooking, Cond.selects RX0 yX0_dropBooking yX0_dropBooking, Cond.code yX0_dropBooking cX0_dropBooking 1 none]
def wsX6_unbook_r3 : List Cond := [Cond.fieldLink RX0 21 "QuayMesh$Box" "bookedGate" "I"]
def wsX6_unbook : List Cond := .code yX6_unbook cX6_unbook 4 (some .int) :: ((wsX6_unbook_r1 ++ (wsX6_unbook_r2 ++ wsX6_unbook_r3)) ++ wsX00 ++ wsX60 ++ wsJx4a65c0 ++ (vx_atS RX6 74 "java/lang/IllegalStateException" ["java/lang/RuntimeException", "java/lang/Exception"]).filter goodWord ++ (vx_atS RX6 131 "java/lang/IndexOutOfBoundsException" ["java/lang/RuntimeException", "java/lang/Exception"]).filter goodWord)
def wsX6_advance_r1 : List Cond := [Cond.classLink RX6 55 "java/lang/IllegalArgumentException", Cond.initialized "java/lang/IllegalArgumentException", Cond.classLink RX6 70 "java/lang/IllegalStateException", Cond.initialized "java/lang/IllegalStateException", Cond.fieldLink RX6 31 "QuayMesh" "now" "I", Cond.fieldLink RX6 16 "QuayMesh" "allBoxes" "Ljava/util/ArrayList;", Cond.classLink RX6 92 "QuayMesh$Box", Cond.fieldLink RX6 323 "QuayMesh$Box" "bookedHour" "I", Cond.methodLink RX6 62 yJx4a65c_size_8abf5, Cond.instanceMethod yJx4a65c_size_8abf5, Cond.selects RJx4a65c yJx4a65c_size_8abf5 yJx4a65c_size_8abf5, Cond.initialized RJx4a65c, Cond.code yJx4a65c_size_8abf5 cJx4a65c_size_8abf5 1 (some .int), Cond.fieldLink RJx4a65c 48 "java/util/ArrayList" "size" "I", Cond.methodLink RX6 97 yJx4a65c_get_915e3, Cond.instanceMethod yJx4a65c_get_915e3, Cond.selects RJx4a65c yJx4a65c_get_915e3 yJx4a65c_get_915e3, Cond.code yJx4a65c_get_915e3 cJx4a65c_get_915e3 2 (some (.object "java/lang/Object")), Cond.methodLink RJx4a65c 118 yJ15_checkIndex_7cf53, Cond.static yJ15_checkIndex_7cf53, Cond.initialized RJ15, Cond.code yJ15_checkIndex_7cf53 cJ15_checkIndex_7cf53 2 (some .int), Cond.methodLink RJ15 105 yJ3_checkIndex_8e157, Cond.static yJ3_checkIndex_8e157]
def wsX6_advance_r2 : List Cond := [Cond.initialized RJ3, Cond.code yJ3_checkIndex_8e157 cJ3_checkIndex_8e157 3 (some .int), Cond.methodLink RJx4a65c 123 yJx4a65c_elementData_915e3, Cond.instanceMethod yJx4a65c_elementData_915e3, Cond.selects RJx4a65c yJx4a65c_elementData_915e3 yJx4a65c_elementData_915e3, Cond.code yJx4a65c_elementData_915e3 cJx4a65c_elementData_915e3 2 (some (.object "java/lang/Object")), Cond.fieldLink RJx4a65c 9 "java/util/ArrayList" "elementData" "[Ljava/lang/Object;", Cond.methodLink RX6 311 yX0_isBooked, Cond.instanceMethod yX0_isBooked, Cond.selects RX0 yX0_isBooked yX0_isBooked, Cond.initialized RX0, Cond.code yX0_isBooked cX0_isBooked 1 (some .boolean), Cond.fieldLink RX0 24 "QuayMesh$Box" "bookedHour" "I", Cond.methodLink RX6 290 yX0_dropBooking, Cond.instanceMethod yX0_dropBooking, Cond.selects RX0 yX0_dropBooking yX0_dropBooking, Cond.code yX0_dropBooking cX0_dropBooking 1 none, Cond.fieldLink RX0 21 "QuayMesh$Box" "bookedGate" "I"]
def wsX6_advance : List Cond := .code yX6_advance cX6_advance 5 (some .int) :: ((wsX6_advance_r1 ++ wsX6_advance_r2) ++ wsX60 ++ wsX00 ++ wsJx4a65c0 ++ (vx_atS RX6 59 "java/lang/IllegalArgumentException" ["java/lang/RuntimeException", "java/lang/Exception"]).filter goodWord ++ (vx_atS RX6 74 "java/lang/IllegalStateException" ["java/lang/RuntimeException", "java/lang/Exception"]).filter goodWord)
def wsX6_hour : List Cond := .code yX6_hour cX6_hour 1 (some .int) :: ([.fieldLink RX6 31 "QuayMesh" "now" "I"] ++ wsX60)
def wsX6_boxes : List Cond := .code yX6_boxes cX6_boxes 1 (some .int) :: ([.fieldLink RX6 16 "QuayMesh" "allBoxes" "Ljava/util/ArrayList;", .methodLink RX6 62 yJx4a65c_size_8abf5, .instanceMethod yJx4a65c_size_8abf5, .selects RJx4a65c yJx4a65c_size_8abf5 yJx4a65c_size_8abf5, .initialized RJx4a65c, .code yJx4a65c_size_8abf5 cJx4a65c_size_8abf5 1 (some .int), .fieldLink RJx4a65c 48 "java/util/ArrayList" "size" "I"] ++ wsX60 ++ wsJx4a65c0)
def wsX6_whereIs_r1 : List Cond := [Cond.fieldLink RX6 105 "QuayMesh$Box" "where" "I", Cond.fieldLink RX6 284 "QuayMesh$Box" "spot" "I", Cond.fieldLink RX6 281 "QuayMesh$Box" "level" "I", Cond.methodLink RX6 116 yX6_boxNumbered, Cond.instanceMethod yX6_boxNumbered, Cond.selects RX6 yX6_boxNumbered yX6_boxNumbered, Cond.initialized RX6, Cond.code yX6_boxNumbered cX6_boxNumbered 2 (some (.object "QuayMesh$Box")), Cond.fieldLink RX6 16 "QuayMesh" "allBoxes" "Ljava/util/ArrayList;", Cond.classLink RX6 92 "QuayMesh$Box", Cond.methodLink RX6 62 yJx4a65c_size_8abf5, Cond.instanceMethod yJx4a65c_size_8abf5, Cond.selects RJx4a65c yJx4a65c_size_8abf5 yJx4a65c_size_8abf5, Cond.initialized RJx4a65c, Cond.code yJx4a65c_size_8abf5 cJx4a65c_size_8abf5 1 (some .int), Cond.fieldLink RJx4a65c 48 "java/util/ArrayList" "size" "I", Cond.methodLink RX6 52 yX6_requireOneOf, Cond.static yX6_requireOneOf, Cond.code yX6_requireOneOf cX6_requireOneOf 2 none, Cond.classLink RX6 127 "java/lang/IndexOutOfBoundsException", Cond.initialized "java/lang/IndexOutOfBoundsException", Cond.methodLink RX6 97 yJx4a65c_get_915e3, Cond.instanceMethod yJx4a65c_get_915e3, Cond.selects RJx4a65c yJx4a65c_get_915e3 yJx4a65c_get_915e3]
def wsX6_whereIs_r2 : List Cond := [Cond.code yJx4a65c_get_915e3 cJx4a65c_get_915e3 2 (some (.object "java/lang/Object")), Cond.methodLink RJx4a65c 118 yJ15_checkIndex_7cf53, Cond.static yJ15_checkIndex_7cf53, Cond.initialized RJ15, Cond.code yJ15_checkIndex_7cf53 cJ15_checkIndex_7cf53 2 (some .int), Cond.methodLink RJ15 105 yJ3_checkIndex_8e157, Cond.static yJ3_checkIndex_8e157, Cond.initialized RJ3, Cond.code yJ3_checkIndex_8e157 cJ3_checkIndex_8e157 3 (some .int), Cond.methodLink RJx4a65c 123 yJx4a65c_elementData_915e3, Cond.instanceMethod yJx4a65c_elementData_915e3, Cond.selects RJx4a65c yJx4a65c_elementData_915e3 yJx4a65c_elementData_915e3, Cond.code yJx4a65c_elementData_915e3 cJx4a65c_elementData_915e3 2 (some (.object "java/lang/Object")), Cond.fieldLink RJx4a65c 9 "java/util/ArrayList" "elementData" "[Ljava/lang/Object;"]
def wsX6_whereIs : List Cond := .code yX6_whereIs cX6_whereIs 3 (some .int) :: ((wsX6_whereIs_r1 ++ wsX6_whereIs_r2) ++ wsX00 ++ wsX60 ++ wsJx4a65c0 ++ (vx_atS RX6 131 "java/lang/IndexOutOfBoundsException" ["java/lang/RuntimeException", "java/lang/Exception"]).filter goodWord)
def wsX6_lastLoggedMoveOf_r1 : List Cond := [Cond.fieldLink RX6 22 "QuayMesh" "log" "Ljava/util/ArrayList;", Cond.classLink RX6 141 "QuayMesh$Message", Cond.fieldLink RX6 185 "QuayMesh$Message" "box" "LQuayMesh$Box;", Cond.fieldLink RX6 293 "QuayMesh$Message" "orderMade" "I", Cond.methodLink RX6 62 yJx4a65c_size_8abf5, Cond.instanceMethod yJx4a65c_size_8abf5, Cond.selects RJx4a65c yJx4a65c_size_8abf5 yJx4a65c_size_8abf5, Cond.initialized RJx4a65c, Cond.code yJx4a65c_size_8abf5 cJx4a65c_size_8abf5 1 (some .int), Cond.fieldLink RJx4a65c 48 "java/util/ArrayList" "size" "I", Cond.methodLink RX6 97 yJx4a65c_get_915e3, Cond.instanceMethod yJx4a65c_get_915e3, Cond.selects RJx4a65c yJx4a65c_get_915e3 yJx4a65c_get_915e3, Cond.code yJx4a65c_get_915e3 cJx4a65c_get_915e3 2 (some (.object "java/lang/Object")), Cond.methodLink RJx4a65c 118 yJ15_checkIndex_7cf53, Cond.static yJ15_checkIndex_7cf53, Cond.initialized RJ15, Cond.code yJ15_checkIndex_7cf53 cJ15_checkIndex_7cf53 2 (some .int), Cond.methodLink RJ15 105 yJ3_checkIndex_8e157, Cond.static yJ3_checkIndex_8e157, Cond.initialized RJ3, Cond.code yJ3_checkIndex_8e157 cJ3_checkIndex_8e157 3 (some .int), Cond.methodLink RJx4a65c 123 yJx4a65c_elementData_915e3, Cond.instanceMethod yJx4a65c_elementData_915e3]
def wsX6_lastLoggedMoveOf_r2 : List Cond := [Cond.selects RJx4a65c yJx4a65c_elementData_915e3 yJx4a65c_elementData_915e3, Cond.code yJx4a65c_elementData_915e3 cJx4a65c_elementData_915e3 2 (some (.object "java/lang/Object")), Cond.fieldLink RJx4a65c 9 "java/util/ArrayList" "elementData" "[Ljava/lang/Object;"]
def wsX6_lastLoggedMoveOf : List Cond := .code yX6_lastLoggedMoveOf cX6_lastLoggedMoveOf 5 (some (.object "QuayMesh$Message")) :: ((wsX6_lastLoggedMoveOf_r1 ++ wsX6_lastLoggedMoveOf_r2) ++ wsX60 ++ wsX20 ++ wsJx4a65c0)
def wsX6_whereByLog_r1 : List Cond := [Cond.fieldLink RX6 259 "QuayMesh$Box" "place" "I", Cond.fieldLink RX6 271 "QuayMesh$Message" "kind" "I", Cond.fieldLink RX6 274 "QuayMesh$Message" "target" "I", Cond.methodLink RX6 116 yX6_boxNumbered, Cond.instanceMethod yX6_boxNumbered, Cond.selects RX6 yX6_boxNumbered yX6_boxNumbered, Cond.initialized RX6, Cond.code yX6_boxNumbered cX6_boxNumbered 2 (some (.object "QuayMesh$Box")), Cond.fieldLink RX6 16 "QuayMesh" "allBoxes" "Ljava/util/ArrayList;", Cond.classLink RX6 92 "QuayMesh$Box", Cond.methodLink RX6 62 yJx4a65c_size_8abf5, Cond.instanceMethod yJx4a65c_size_8abf5, Cond.selects RJx4a65c yJx4a65c_size_8abf5 yJx4a65c_size_8abf5, Cond.initialized RJx4a65c, Cond.code yJx4a65c_size_8abf5 cJx4a65c_size_8abf5 1 (some .int), Cond.fieldLink RJx4a65c 48 "java/util/ArrayList" "size" "I", Cond.methodLink RX6 52 yX6_requireOneOf, Cond.static yX6_requireOneOf, Cond.code yX6_requireOneOf cX6_requireOneOf 2 none, Cond.classLink RX6 127 "java/lang/IndexOutOfBoundsException", Cond.initialized "java/lang/IndexOutOfBoundsException", Cond.methodLink RX6 97 yJx4a65c_get_915e3, Cond.instanceMethod yJx4a65c_get_915e3, Cond.selects RJx4a65c yJx4a65c_get_915e3 yJx4a65c_get_915e3]
def wsX6_whereByLog_r2 : List Cond := [Cond.code yJx4a65c_get_915e3 cJx4a65c_get_915e3 2 (some (.object "java/lang/Object")), Cond.methodLink RJx4a65c 118 yJ15_checkIndex_7cf53, Cond.static yJ15_checkIndex_7cf53, Cond.initialized RJ15, Cond.code yJ15_checkIndex_7cf53 cJ15_checkIndex_7cf53 2 (some .int), Cond.methodLink RJ15 105 yJ3_checkIndex_8e157, Cond.static yJ3_checkIndex_8e157, Cond.initialized RJ3, Cond.code yJ3_checkIndex_8e157 cJ3_checkIndex_8e157 3 (some .int), Cond.methodLink RJx4a65c 123 yJx4a65c_elementData_915e3, Cond.instanceMethod yJx4a65c_elementData_915e3, Cond.selects RJx4a65c yJx4a65c_elementData_915e3 yJx4a65c_elementData_915e3, Cond.code yJx4a65c_elementData_915e3 cJx4a65c_elementData_915e3 2 (some (.object "java/lang/Object")), Cond.fieldLink RJx4a65c 9 "java/util/ArrayList" "elementData" "[Ljava/lang/Object;", Cond.methodLink RX6 332 yX6_lastLoggedMoveOf, Cond.instanceMethod yX6_lastLoggedMoveOf, Cond.selects RX6 yX6_lastLoggedMoveOf yX6_lastLoggedMoveOf, Cond.code yX6_lastLoggedMoveOf cX6_lastLoggedMoveOf 5 (some (.object "QuayMesh$Message")), Cond.fieldLink RX6 22 "QuayMesh" "log" "Ljava/util/ArrayList;", Cond.classLink RX6 141 "QuayMesh$Message", Cond.fieldLink RX6 185 "QuayMesh$Message" "box" "LQuayMesh$Box;", Cond.fieldLink RX6 293 "QuayMesh$Message" "orderMade" "I"]
def wsX6_whereByLog : List Cond := .code yX6_whereByLog cX6_whereByLog 4 (some .int) :: ((wsX6_whereByLog_r1 ++ wsX6_whereByLog_r2) ++ wsX00 ++ wsX20 ++ wsX60 ++ wsJx4a65c0 ++ (vx_atS RX6 131 "java/lang/IndexOutOfBoundsException" ["java/lang/RuntimeException", "java/lang/Exception"]).filter goodWord)
def wsX6_liftedBy_r1 : List Cond := [Cond.fieldLink RX6 264 "QuayMesh$Box" "lifter" "I", Cond.methodLink RX6 116 yX6_boxNumbered, Cond.instanceMethod yX6_boxNumbered, Cond.selects RX6 yX6_boxNumbered yX6_boxNumbered, Cond.initialized RX6, Cond.code yX6_boxNumbered cX6_boxNumbered 2 (some (.object "QuayMesh$Box")), Cond.fieldLink RX6 16 "QuayMesh" "allBoxes" "Ljava/util/ArrayList;", Cond.classLink RX6 92 "QuayMesh$Box", Cond.methodLink RX6 62 yJx4a65c_size_8abf5, Cond.instanceMethod yJx4a65c_size_8abf5, Cond.selects RJx4a65c yJx4a65c_size_8abf5 yJx4a65c_size_8abf5, Cond.initialized RJx4a65c, Cond.code yJx4a65c_size_8abf5 cJx4a65c_size_8abf5 1 (some .int), Cond.fieldLink RJx4a65c 48 "java/util/ArrayList" "size" "I", Cond.methodLink RX6 52 yX6_requireOneOf, Cond.static yX6_requireOneOf, Cond.code yX6_requireOneOf cX6_requireOneOf 2 none, Cond.classLink RX6 127 "java/lang/IndexOutOfBoundsException", Cond.initialized "java/lang/IndexOutOfBoundsException", Cond.methodLink RX6 97 yJx4a65c_get_915e3, Cond.instanceMethod yJx4a65c_get_915e3, Cond.selects RJx4a65c yJx4a65c_get_915e3 yJx4a65c_get_915e3, Cond.code yJx4a65c_get_915e3 cJx4a65c_get_915e3 2 (some (.object "java/lang/Object")), Cond.methodLink RJx4a65c 118 yJ15_checkIndex_7cf53]
def wsX6_liftedBy_r2 : List Cond := [Cond.static yJ15_checkIndex_7cf53, Cond.initialized RJ15, Cond.code yJ15_checkIndex_7cf53 cJ15_checkIndex_7cf53 2 (some .int), Cond.methodLink RJ15 105 yJ3_checkIndex_8e157, Cond.static yJ3_checkIndex_8e157, Cond.initialized RJ3, Cond.code yJ3_checkIndex_8e157 cJ3_checkIndex_8e157 3 (some .int), Cond.methodLink RJx4a65c 123 yJx4a65c_elementData_915e3, Cond.instanceMethod yJx4a65c_elementData_915e3, Cond.selects RJx4a65c yJx4a65c_elementData_915e3 yJx4a65c_elementData_915e3, Cond.code yJx4a65c_elementData_915e3 cJx4a65c_elementData_915e3 2 (some (.object "java/lang/Object")), Cond.fieldLink RJx4a65c 9 "java/util/ArrayList" "elementData" "[Ljava/lang/Object;"]
def wsX6_liftedBy : List Cond := .code yX6_liftedBy cX6_liftedBy 2 (some .int) :: ((wsX6_liftedBy_r1 ++ wsX6_liftedBy_r2) ++ wsX00 ++ wsX60 ++ wsJx4a65c0 ++ (vx_atS RX6 131 "java/lang/IndexOutOfBoundsException" ["java/lang/RuntimeException", "java/lang/Exception"]).filter goodWord)
def wsX6_bookedFor_r1 : List Cond := [Cond.fieldLink RX6 323 "QuayMesh$Box" "bookedHour" "I", Cond.methodLink RX6 116 yX6_boxNumbered, Cond.instanceMethod yX6_boxNumbered, Cond.selects RX6 yX6_boxNumbered yX6_boxNumbered, Cond.initialized RX6, Cond.code yX6_boxNumbered cX6_boxNumbered 2 (some (.object "QuayMesh$Box")), Cond.fieldLink RX6 16 "QuayMesh" "allBoxes" "Ljava/util/ArrayList;", Cond.classLink RX6 92 "QuayMesh$Box", Cond.methodLink RX6 62 yJx4a65c_size_8abf5, Cond.instanceMethod yJx4a65c_size_8abf5, Cond.selects RJx4a65c yJx4a65c_size_8abf5 yJx4a65c_size_8abf5, Cond.initialized RJx4a65c, Cond.code yJx4a65c_size_8abf5 cJx4a65c_size_8abf5 1 (some .int), Cond.fieldLink RJx4a65c 48 "java/util/ArrayList" "size" "I", Cond.methodLink RX6 52 yX6_requireOneOf, Cond.static yX6_requireOneOf, Cond.code yX6_requireOneOf cX6_requireOneOf 2 none, Cond.classLink RX6 127 "java/lang/IndexOutOfBoundsException", Cond.initialized "java/lang/IndexOutOfBoundsException", Cond.methodLink RX6 97 yJx4a65c_get_915e3, Cond.instanceMethod yJx4a65c_get_915e3, Cond.selects RJx4a65c yJx4a65c_get_915e3 yJx4a65c_get_915e3, Cond.code yJx4a65c_get_915e3 cJx4a65c_get_915e3 2 (some (.object "java/lang/Object")), Cond.methodLink RJx4a65c 118 yJ15_checkIndex_7cf53]
def wsX6_bookedFor_r2 : List Cond := [Cond.static yJ15_checkIndex_7cf53, Cond.initialized RJ15, Cond.code yJ15_checkIndex_7cf53 cJ15_checkIndex_7cf53 2 (some .int), Cond.methodLink RJ15 105 yJ3_checkIndex_8e157, Cond.static yJ3_checkIndex_8e157, Cond.initialized RJ3, Cond.code yJ3_checkIndex_8e157 cJ3_checkIndex_8e157 3 (some .int), Cond.methodLink RJx4a65c 123 yJx4a65c_elementData_915e3, Cond.instanceMethod yJx4a65c_elementData_915e3, Cond.selects RJx4a65c yJx4a65c_elementData_915e3 yJx4a65c_elementData_915e3, Cond.code yJx4a65c_elementData_915e3 cJx4a65c_elementData_915e3 2 (some (.object "java/lang/Object")), Cond.fieldLink RJx4a65c 9 "java/util/ArrayList" "elementData" "[Ljava/lang/Object;"]
def wsX6_bookedFor : List Cond := .code yX6_bookedFor cX6_bookedFor 2 (some .int) :: ((wsX6_bookedFor_r1 ++ wsX6_bookedFor_r2) ++ wsX00 ++ wsX60 ++ wsJx4a65c0 ++ (vx_atS RX6 131 "java/lang/IndexOutOfBoundsException" ["java/lang/RuntimeException", "java/lang/Exception"]).filter goodWord)
def wsX6_placeOf_r1 : List Cond := [Cond.fieldLink RX6 239 "QuayMesh$Crane" "place" "I", Cond.methodLink RX6 221 yX6_craneNumbered, Cond.instanceMethod yX6_craneNumbered, Cond.selects RX6 yX6_craneNumbered yX6_craneNumbered, Cond.initialized RX6, Cond.code yX6_craneNumbered cX6_craneNumbered 2 (some (.object "QuayMesh$Crane")), Cond.fieldLink RX6 25 "QuayMesh" "cranes" "Ljava/util/ArrayList;", Cond.classLink RX6 38 "QuayMesh$Crane", Cond.methodLink RX6 62 yJx4a65c_size_8abf5, Cond.instanceMethod yJx4a65c_size_8abf5, Cond.selects RJx4a65c yJx4a65c_size_8abf5 yJx4a65c_size_8abf5, Cond.initialized RJx4a65c, Cond.code yJx4a65c_size_8abf5 cJx4a65c_size_8abf5 1 (some .int), Cond.fieldLink RJx4a65c 48 "java/util/ArrayList" "size" "I", Cond.methodLink RX6 52 yX6_requireOneOf, Cond.static yX6_requireOneOf, Cond.code yX6_requireOneOf cX6_requireOneOf 2 none, Cond.classLink RX6 127 "java/lang/IndexOutOfBoundsException", Cond.initialized "java/lang/IndexOutOfBoundsException", Cond.methodLink RX6 97 yJx4a65c_get_915e3, Cond.instanceMethod yJx4a65c_get_915e3, Cond.selects RJx4a65c yJx4a65c_get_915e3 yJx4a65c_get_915e3, Cond.code yJx4a65c_get_915e3 cJx4a65c_get_915e3 2 (some (.object "java/lang/Object")), Cond.methodLink RJx4a65c 118 yJ15_checkIndex_7cf53]
def wsX6_placeOf_r2 : List Cond := [Cond.static yJ15_checkIndex_7cf53, Cond.initialized RJ15, Cond.code yJ15_checkIndex_7cf53 cJ15_checkIndex_7cf53 2 (some .int), Cond.methodLink RJ15 105 yJ3_checkIndex_8e157, Cond.static yJ3_checkIndex_8e157, Cond.initialized RJ3, Cond.code yJ3_checkIndex_8e157 cJ3_checkIndex_8e157 3 (some .int), Cond.methodLink RJx4a65c 123 yJx4a65c_elementData_915e3, Cond.instanceMethod yJx4a65c_elementData_915e3, Cond.selects RJx4a65c yJx4a65c_elementData_915e3 yJx4a65c_elementData_915e3, Cond.code yJx4a65c_elementData_915e3 cJx4a65c_elementData_915e3 2 (some (.object "java/lang/Object")), Cond.fieldLink RJx4a65c 9 "java/util/ArrayList" "elementData" "[Ljava/lang/Object;"]
def wsX6_placeOf : List Cond := .code yX6_placeOf cX6_placeOf 2 (some .int) :: ((wsX6_placeOf_r1 ++ wsX6_placeOf_r2) ++ wsX10 ++ wsX60 ++ wsJx4a65c0 ++ (vx_atS RX6 131 "java/lang/IndexOutOfBoundsException" ["java/lang/RuntimeException", "java/lang/Exception"]).filter goodWord)
def wsX6_height_r1 : List Cond := [Cond.methodLink RX6 52 yX6_requireOneOf, Cond.static yX6_requireOneOf, Cond.initialized RX6, Cond.code yX6_requireOneOf cX6_requireOneOf 2 none, Cond.classLink RX6 127 "java/lang/IndexOutOfBoundsException", Cond.initialized "java/lang/IndexOutOfBoundsException", Cond.methodLink RX6 260 yX6_countAt, Cond.instanceMethod yX6_countAt, Cond.selects RX6 yX6_countAt yX6_countAt, Cond.code yX6_countAt cX6_countAt 5 (some .int), Cond.fieldLink RX6 16 "QuayMesh" "allBoxes" "Ljava/util/ArrayList;", Cond.classLink RX6 92 "QuayMesh$Box", Cond.methodLink RX6 62 yJx4a65c_size_8abf5, Cond.instanceMethod yJx4a65c_size_8abf5, Cond.selects RJx4a65c yJx4a65c_size_8abf5 yJx4a65c_size_8abf5, Cond.initialized RJx4a65c, Cond.code yJx4a65c_size_8abf5 cJx4a65c_size_8abf5 1 (some .int), Cond.fieldLink RJx4a65c 48 "java/util/ArrayList" "size" "I", Cond.methodLink RX6 97 yJx4a65c_get_915e3, Cond.instanceMethod yJx4a65c_get_915e3, Cond.selects RJx4a65c yJx4a65c_get_915e3 yJx4a65c_get_915e3, Cond.code yJx4a65c_get_915e3 cJx4a65c_get_915e3 2 (some (.object "java/lang/Object")), Cond.methodLink RJx4a65c 118 yJ15_checkIndex_7cf53, Cond.static yJ15_checkIndex_7cf53]
def wsX6_height_r2 : List Cond := [Cond.initialized RJ15, Cond.code yJ15_checkIndex_7cf53 cJ15_checkIndex_7cf53 2 (some .int), Cond.methodLink RJ15 105 yJ3_checkIndex_8e157, Cond.static yJ3_checkIndex_8e157, Cond.initialized RJ3, Cond.code yJ3_checkIndex_8e157 cJ3_checkIndex_8e157 3 (some .int), Cond.methodLink RJx4a65c 123 yJx4a65c_elementData_915e3, Cond.instanceMethod yJx4a65c_elementData_915e3, Cond.selects RJx4a65c yJx4a65c_elementData_915e3 yJx4a65c_elementData_915e3, Cond.code yJx4a65c_elementData_915e3 cJx4a65c_elementData_915e3 2 (some (.object "java/lang/Object")), Cond.fieldLink RJx4a65c 9 "java/util/ArrayList" "elementData" "[Ljava/lang/Object;", Cond.methodLink RX6 189 yX0_isAt, Cond.instanceMethod yX0_isAt, Cond.selects RX0 yX0_isAt yX0_isAt, Cond.initialized RX0, Cond.code yX0_isAt cX0_isAt 3 (some .boolean), Cond.fieldLink RX0 9 "QuayMesh$Box" "where" "I", Cond.fieldLink RX0 34 "QuayMesh$Box" "spot" "I"]
def wsX6_height : List Cond := .code yX6_height cX6_height 2 (some .int) :: ((wsX6_height_r1 ++ wsX6_height_r2) ++ wsX60 ++ wsJx4a65c0 ++ wsX00 ++ (vx_atS RX6 131 "java/lang/IndexOutOfBoundsException" ["java/lang/RuntimeException", "java/lang/Exception"]).filter goodWord)
def wsX6_queue_r1 : List Cond := [Cond.fieldLink RX6 146 "QuayMesh$Worker" "waiting" "Ljava/util/ArrayList;", Cond.methodLink RX6 136 yX6_workerNumbered, Cond.instanceMethod yX6_workerNumbered, Cond.selects RX6 yX6_workerNumbered yX6_workerNumbered, Cond.initialized RX6, Cond.code yX6_workerNumbered cX6_workerNumbered 2 (some (.object "QuayMesh$Worker")), Cond.methodLink RX6 221 yX6_craneNumbered, Cond.instanceMethod yX6_craneNumbered, Cond.selects RX6 yX6_craneNumbered yX6_craneNumbered, Cond.code yX6_craneNumbered cX6_craneNumbered 2 (some (.object "QuayMesh$Crane")), Cond.fieldLink RX6 25 "QuayMesh" "cranes" "Ljava/util/ArrayList;", Cond.classLink RX6 38 "QuayMesh$Crane", Cond.methodLink RX6 62 yJx4a65c_size_8abf5, Cond.instanceMethod yJx4a65c_size_8abf5, Cond.selects RJx4a65c yJx4a65c_size_8abf5 yJx4a65c_size_8abf5, Cond.initialized RJx4a65c, Cond.code yJx4a65c_size_8abf5 cJx4a65c_size_8abf5 1 (some .int), Cond.fieldLink RJx4a65c 48 "java/util/ArrayList" "size" "I", Cond.methodLink RX6 52 yX6_requireOneOf, Cond.static yX6_requireOneOf, Cond.code yX6_requireOneOf cX6_requireOneOf 2 none, Cond.classLink RX6 127 "java/lang/IndexOutOfBoundsException", Cond.initialized "java/lang/IndexOutOfBoundsException", Cond.methodLink RX6 97 yJx4a65c_get_915e3]
def wsX6_queue_r2 : List Cond := [Cond.instanceMethod yJx4a65c_get_915e3, Cond.selects RJx4a65c yJx4a65c_get_915e3 yJx4a65c_get_915e3, Cond.code yJx4a65c_get_915e3 cJx4a65c_get_915e3 2 (some (.object "java/lang/Object")), Cond.methodLink RJx4a65c 118 yJ15_checkIndex_7cf53, Cond.static yJ15_checkIndex_7cf53, Cond.initialized RJ15, Cond.code yJ15_checkIndex_7cf53 cJ15_checkIndex_7cf53 2 (some .int), Cond.methodLink RJ15 105 yJ3_checkIndex_8e157, Cond.static yJ3_checkIndex_8e157, Cond.initialized RJ3, Cond.code yJ3_checkIndex_8e157 cJ3_checkIndex_8e157 3 (some .int), Cond.methodLink RJx4a65c 123 yJx4a65c_elementData_915e3, Cond.instanceMethod yJx4a65c_elementData_915e3, Cond.selects RJx4a65c yJx4a65c_elementData_915e3 yJx4a65c_elementData_915e3, Cond.code yJx4a65c_elementData_915e3 cJx4a65c_elementData_915e3 2 (some (.object "java/lang/Object")), Cond.fieldLink RJx4a65c 9 "java/util/ArrayList" "elementData" "[Ljava/lang/Object;", Cond.methodLink RX6 169 yX6_truckNumbered, Cond.instanceMethod yX6_truckNumbered, Cond.selects RX6 yX6_truckNumbered yX6_truckNumbered, Cond.code yX6_truckNumbered cX6_truckNumbered 2 (some (.object "QuayMesh$Truck")), Cond.fieldLink RX6 28 "QuayMesh" "trucks" "Ljava/util/ArrayList;", Cond.classLink RX6 47 "QuayMesh$Truck"]
def wsX6_queue : List Cond := .code yX6_queue cX6_queue 2 (some .int) :: ((wsX6_queue_r1 ++ wsX6_queue_r2) ++ wsX10 ++ wsX40 ++ wsX60 ++ wsJx4a65c0 ++ (vx_atS RX6 131 "java/lang/IndexOutOfBoundsException" ["java/lang/RuntimeException", "java/lang/Exception"]).filter goodWord)
def wsX6_elementOf_r1 : List Cond := [Cond.classLink RX6 141 "QuayMesh$Message", Cond.methodLink RX6 62 yJx4a65c_size_8abf5, Cond.instanceMethod yJx4a65c_size_8abf5, Cond.selects RJx4a65c yJx4a65c_size_8abf5 yJx4a65c_size_8abf5, Cond.initialized RJx4a65c, Cond.code yJx4a65c_size_8abf5 cJx4a65c_size_8abf5 1 (some .int), Cond.fieldLink RJx4a65c 48 "java/util/ArrayList" "size" "I", Cond.methodLink RX6 52 yX6_requireOneOf, Cond.static yX6_requireOneOf, Cond.initialized RX6, Cond.code yX6_requireOneOf cX6_requireOneOf 2 none, Cond.classLink RX6 127 "java/lang/IndexOutOfBoundsException", Cond.initialized "java/lang/IndexOutOfBoundsException", Cond.methodLink RX6 97 yJx4a65c_get_915e3, Cond.instanceMethod yJx4a65c_get_915e3, Cond.selects RJx4a65c yJx4a65c_get_915e3 yJx4a65c_get_915e3, Cond.code yJx4a65c_get_915e3 cJx4a65c_get_915e3 2 (some (.object "java/lang/Object")), Cond.methodLink RJx4a65c 118 yJ15_checkIndex_7cf53, Cond.static yJ15_checkIndex_7cf53, Cond.initialized RJ15, Cond.code yJ15_checkIndex_7cf53 cJ15_checkIndex_7cf53 2 (some .int), Cond.methodLink RJ15 105 yJ3_checkIndex_8e157, Cond.static yJ3_checkIndex_8e157, Cond.initialized RJ3]
def wsX6_elementOf_r2 : List Cond := [Cond.code yJ3_checkIndex_8e157 cJ3_checkIndex_8e157 3 (some .int), Cond.methodLink RJx4a65c 123 yJx4a65c_elementData_915e3, Cond.instanceMethod yJx4a65c_elementData_915e3, Cond.selects RJx4a65c yJx4a65c_elementData_915e3 yJx4a65c_elementData_915e3, Cond.code yJx4a65c_elementData_915e3 cJx4a65c_elementData_915e3 2 (some (.object "java/lang/Object")), Cond.fieldLink RJx4a65c 9 "java/util/ArrayList" "elementData" "[Ljava/lang/Object;"]
def wsX6_elementOf : List Cond := .code yX6_elementOf cX6_elementOf 2 (some (.object "QuayMesh$Message")) :: ((wsX6_elementOf_r1 ++ wsX6_elementOf_r2) ++ wsJx4a65c0 ++ (vx_atS RX6 131 "java/lang/IndexOutOfBoundsException" ["java/lang/RuntimeException", "java/lang/Exception"]).filter goodWord)
def wsX6_queued_r1 : List Cond := [Cond.fieldLink RX6 146 "QuayMesh$Worker" "waiting" "Ljava/util/ArrayList;", Cond.fieldLink RX6 151 "QuayMesh$Message" "number" "I", Cond.methodLink RX6 136 yX6_workerNumbered, Cond.instanceMethod yX6_workerNumbered, Cond.selects RX6 yX6_workerNumbered yX6_workerNumbered, Cond.initialized RX6, Cond.code yX6_workerNumbered cX6_workerNumbered 2 (some (.object "QuayMesh$Worker")), Cond.methodLink RX6 221 yX6_craneNumbered, Cond.instanceMethod yX6_craneNumbered, Cond.selects RX6 yX6_craneNumbered yX6_craneNumbered, Cond.code yX6_craneNumbered cX6_craneNumbered 2 (some (.object "QuayMesh$Crane")), Cond.fieldLink RX6 25 "QuayMesh" "cranes" "Ljava/util/ArrayList;", Cond.classLink RX6 38 "QuayMesh$Crane", Cond.methodLink RX6 62 yJx4a65c_size_8abf5, Cond.instanceMethod yJx4a65c_size_8abf5, Cond.selects RJx4a65c yJx4a65c_size_8abf5 yJx4a65c_size_8abf5, Cond.initialized RJx4a65c, Cond.code yJx4a65c_size_8abf5 cJx4a65c_size_8abf5 1 (some .int), Cond.fieldLink RJx4a65c 48 "java/util/ArrayList" "size" "I", Cond.methodLink RX6 52 yX6_requireOneOf, Cond.static yX6_requireOneOf, Cond.code yX6_requireOneOf cX6_requireOneOf 2 none, Cond.classLink RX6 127 "java/lang/IndexOutOfBoundsException", Cond.initialized "java/lang/IndexOutOfBoundsException"]
def wsX6_queued_r2 : List Cond := [Cond.methodLink RX6 97 yJx4a65c_get_915e3, Cond.instanceMethod yJx4a65c_get_915e3, Cond.selects RJx4a65c yJx4a65c_get_915e3 yJx4a65c_get_915e3, Cond.code yJx4a65c_get_915e3 cJx4a65c_get_915e3 2 (some (.object "java/lang/Object")), Cond.methodLink RJx4a65c 118 yJ15_checkIndex_7cf53, Cond.static yJ15_checkIndex_7cf53, Cond.initialized RJ15, Cond.code yJ15_checkIndex_7cf53 cJ15_checkIndex_7cf53 2 (some .int), Cond.methodLink RJ15 105 yJ3_checkIndex_8e157, Cond.static yJ3_checkIndex_8e157, Cond.initialized RJ3, Cond.code yJ3_checkIndex_8e157 cJ3_checkIndex_8e157 3 (some .int), Cond.methodLink RJx4a65c 123 yJx4a65c_elementData_915e3, Cond.instanceMethod yJx4a65c_elementData_915e3, Cond.selects RJx4a65c yJx4a65c_elementData_915e3 yJx4a65c_elementData_915e3, Cond.code yJx4a65c_elementData_915e3 cJx4a65c_elementData_915e3 2 (some (.object "java/lang/Object")), Cond.fieldLink RJx4a65c 9 "java/util/ArrayList" "elementData" "[Ljava/lang/Object;", Cond.methodLink RX6 169 yX6_truckNumbered, Cond.instanceMethod yX6_truckNumbered, Cond.selects RX6 yX6_truckNumbered yX6_truckNumbered, Cond.code yX6_truckNumbered cX6_truckNumbered 2 (some (.object "QuayMesh$Truck")), Cond.fieldLink RX6 28 "QuayMesh" "trucks" "Ljava/util/ArrayList;", Cond.classLink RX6 47 "QuayMesh$Truck", Cond.methodLink RX6 336 yX6_elementOf]
def wsX6_queued_r3 : List Cond := [Cond.static yX6_elementOf, Cond.code yX6_elementOf cX6_elementOf 2 (some (.object "QuayMesh$Message")), Cond.classLink RX6 141 "QuayMesh$Message"]
def wsX6_queued : List Cond := .code yX6_queued cX6_queued 3 (some .int) :: ((wsX6_queued_r1 ++ (wsX6_queued_r2 ++ wsX6_queued_r3)) ++ wsX10 ++ wsX40 ++ wsX20 ++ wsX60 ++ wsJx4a65c0 ++ (vx_atS RX6 131 "java/lang/IndexOutOfBoundsException" ["java/lang/RuntimeException", "java/lang/Exception"]).filter goodWord)
def wsX6_seen_r1 : List Cond := [Cond.fieldLink RX6 173 "QuayMesh$Truck" "lastSeen" "LQuayMesh$Message;", Cond.fieldLink RX6 151 "QuayMesh$Message" "number" "I", Cond.methodLink RX6 169 yX6_truckNumbered, Cond.instanceMethod yX6_truckNumbered, Cond.selects RX6 yX6_truckNumbered yX6_truckNumbered, Cond.initialized RX6, Cond.code yX6_truckNumbered cX6_truckNumbered 2 (some (.object "QuayMesh$Truck")), Cond.classLink RX6 127 "java/lang/IndexOutOfBoundsException", Cond.initialized "java/lang/IndexOutOfBoundsException", Cond.fieldLink RX6 28 "QuayMesh" "trucks" "Ljava/util/ArrayList;", Cond.classLink RX6 47 "QuayMesh$Truck", Cond.methodLink RX6 62 yJx4a65c_size_8abf5, Cond.instanceMethod yJx4a65c_size_8abf5, Cond.selects RJx4a65c yJx4a65c_size_8abf5 yJx4a65c_size_8abf5, Cond.initialized RJx4a65c, Cond.code yJx4a65c_size_8abf5 cJx4a65c_size_8abf5 1 (some .int), Cond.fieldLink RJx4a65c 48 "java/util/ArrayList" "size" "I", Cond.methodLink RX6 97 yJx4a65c_get_915e3, Cond.instanceMethod yJx4a65c_get_915e3, Cond.selects RJx4a65c yJx4a65c_get_915e3 yJx4a65c_get_915e3, Cond.code yJx4a65c_get_915e3 cJx4a65c_get_915e3 2 (some (.object "java/lang/Object")), Cond.methodLink RJx4a65c 118 yJ15_checkIndex_7cf53, Cond.static yJ15_checkIndex_7cf53, Cond.initialized RJ15]
def wsX6_seen_r2 : List Cond := [Cond.code yJ15_checkIndex_7cf53 cJ15_checkIndex_7cf53 2 (some .int), Cond.methodLink RJ15 105 yJ3_checkIndex_8e157, Cond.static yJ3_checkIndex_8e157, Cond.initialized RJ3, Cond.code yJ3_checkIndex_8e157 cJ3_checkIndex_8e157 3 (some .int), Cond.methodLink RJx4a65c 123 yJx4a65c_elementData_915e3, Cond.instanceMethod yJx4a65c_elementData_915e3, Cond.selects RJx4a65c yJx4a65c_elementData_915e3 yJx4a65c_elementData_915e3, Cond.code yJx4a65c_elementData_915e3 cJx4a65c_elementData_915e3 2 (some (.object "java/lang/Object")), Cond.fieldLink RJx4a65c 9 "java/util/ArrayList" "elementData" "[Ljava/lang/Object;"]
def wsX6_seen : List Cond := .code yX6_seen cX6_seen 3 (some .int) :: ((wsX6_seen_r1 ++ wsX6_seen_r2) ++ wsX40 ++ wsX20 ++ wsX60 ++ wsJx4a65c0 ++ (vx_atS RX6 131 "java/lang/IndexOutOfBoundsException" ["java/lang/RuntimeException", "java/lang/Exception"]).filter goodWord)
def wsX6_handed_r1 : List Cond := [Cond.fieldLink RX6 19 "QuayMesh" "allMessages" "Ljava/util/ArrayList;", Cond.fieldLink RX6 158 "QuayMesh$Message" "timesHanded" "I", Cond.methodLink RX6 336 yX6_elementOf, Cond.static yX6_elementOf, Cond.initialized RX6, Cond.code yX6_elementOf cX6_elementOf 2 (some (.object "QuayMesh$Message")), Cond.classLink RX6 141 "QuayMesh$Message", Cond.methodLink RX6 62 yJx4a65c_size_8abf5, Cond.instanceMethod yJx4a65c_size_8abf5, Cond.selects RJx4a65c yJx4a65c_size_8abf5 yJx4a65c_size_8abf5, Cond.initialized RJx4a65c, Cond.code yJx4a65c_size_8abf5 cJx4a65c_size_8abf5 1 (some .int), Cond.fieldLink RJx4a65c 48 "java/util/ArrayList" "size" "I", Cond.methodLink RX6 52 yX6_requireOneOf, Cond.static yX6_requireOneOf, Cond.code yX6_requireOneOf cX6_requireOneOf 2 none, Cond.classLink RX6 127 "java/lang/IndexOutOfBoundsException", Cond.initialized "java/lang/IndexOutOfBoundsException", Cond.methodLink RX6 97 yJx4a65c_get_915e3, Cond.instanceMethod yJx4a65c_get_915e3, Cond.selects RJx4a65c yJx4a65c_get_915e3 yJx4a65c_get_915e3, Cond.code yJx4a65c_get_915e3 cJx4a65c_get_915e3 2 (some (.object "java/lang/Object")), Cond.methodLink RJx4a65c 118 yJ15_checkIndex_7cf53, Cond.static yJ15_checkIndex_7cf53]
def wsX6_handed_r2 : List Cond := [Cond.initialized RJ15, Cond.code yJ15_checkIndex_7cf53 cJ15_checkIndex_7cf53 2 (some .int), Cond.methodLink RJ15 105 yJ3_checkIndex_8e157, Cond.static yJ3_checkIndex_8e157, Cond.initialized RJ3, Cond.code yJ3_checkIndex_8e157 cJ3_checkIndex_8e157 3 (some .int), Cond.methodLink RJx4a65c 123 yJx4a65c_elementData_915e3, Cond.instanceMethod yJx4a65c_elementData_915e3, Cond.selects RJx4a65c yJx4a65c_elementData_915e3 yJx4a65c_elementData_915e3, Cond.code yJx4a65c_elementData_915e3 cJx4a65c_elementData_915e3 2 (some (.object "java/lang/Object")), Cond.fieldLink RJx4a65c 9 "java/util/ArrayList" "elementData" "[Ljava/lang/Object;"]
def wsX6_handed : List Cond := .code yX6_handed cX6_handed 2 (some .int) :: ((wsX6_handed_r1 ++ wsX6_handed_r2) ++ wsX60 ++ wsX20 ++ wsJx4a65c0 ++ (vx_atS RX6 131 "java/lang/IndexOutOfBoundsException" ["java/lang/RuntimeException", "java/lang/Exception"]).filter goodWord)
def wsX6_isDone_r1 : List Cond := [Cond.fieldLink RX6 19 "QuayMesh" "allMessages" "Ljava/util/ArrayList;", Cond.methodLink RX6 336 yX6_elementOf, Cond.static yX6_elementOf, Cond.initialized RX6, Cond.code yX6_elementOf cX6_elementOf 2 (some (.object "QuayMesh$Message")), Cond.classLink RX6 141 "QuayMesh$Message", Cond.methodLink RX6 62 yJx4a65c_size_8abf5, Cond.instanceMethod yJx4a65c_size_8abf5, Cond.selects RJx4a65c yJx4a65c_size_8abf5 yJx4a65c_size_8abf5, Cond.initialized RJx4a65c, Cond.code yJx4a65c_size_8abf5 cJx4a65c_size_8abf5 1 (some .int), Cond.fieldLink RJx4a65c 48 "java/util/ArrayList" "size" "I", Cond.methodLink RX6 52 yX6_requireOneOf, Cond.static yX6_requireOneOf, Cond.code yX6_requireOneOf cX6_requireOneOf 2 none, Cond.classLink RX6 127 "java/lang/IndexOutOfBoundsException", Cond.initialized "java/lang/IndexOutOfBoundsException", Cond.methodLink RX6 97 yJx4a65c_get_915e3, Cond.instanceMethod yJx4a65c_get_915e3, Cond.selects RJx4a65c yJx4a65c_get_915e3 yJx4a65c_get_915e3, Cond.code yJx4a65c_get_915e3 cJx4a65c_get_915e3 2 (some (.object "java/lang/Object")), Cond.methodLink RJx4a65c 118 yJ15_checkIndex_7cf53, Cond.static yJ15_checkIndex_7cf53, Cond.initialized RJ15]
def wsX6_isDone_r2 : List Cond := [Cond.code yJ15_checkIndex_7cf53 cJ15_checkIndex_7cf53 2 (some .int), Cond.methodLink RJ15 105 yJ3_checkIndex_8e157, Cond.static yJ3_checkIndex_8e157, Cond.initialized RJ3, Cond.code yJ3_checkIndex_8e157 cJ3_checkIndex_8e157 3 (some .int), Cond.methodLink RJx4a65c 123 yJx4a65c_elementData_915e3, Cond.instanceMethod yJx4a65c_elementData_915e3, Cond.selects RJx4a65c yJx4a65c_elementData_915e3 yJx4a65c_elementData_915e3, Cond.code yJx4a65c_elementData_915e3 cJx4a65c_elementData_915e3 2 (some (.object "java/lang/Object")), Cond.fieldLink RJx4a65c 9 "java/util/ArrayList" "elementData" "[Ljava/lang/Object;", Cond.methodLink RX6 300 yX2_isMoveMade, Cond.instanceMethod yX2_isMoveMade, Cond.selects RX2 yX2_isMoveMade yX2_isMoveMade, Cond.initialized RX2, Cond.code yX2_isMoveMade cX2_isMoveMade 1 (some .boolean), Cond.fieldLink RX2 15 "QuayMesh$Message" "orderMade" "I"]
def wsX6_isDone : List Cond := .code yX6_isDone cX6_isDone 2 (some .boolean) :: ((wsX6_isDone_r1 ++ wsX6_isDone_r2) ++ wsX60 ++ wsJx4a65c0 ++ wsX20 ++ (vx_atS RX6 131 "java/lang/IndexOutOfBoundsException" ["java/lang/RuntimeException", "java/lang/Exception"]).filter goodWord)
def wsX6_moves : List Cond := .code yX6_moves cX6_moves 1 (some .int) :: ([.fieldLink RX6 22 "QuayMesh" "log" "Ljava/util/ArrayList;", .methodLink RX6 62 yJx4a65c_size_8abf5, .instanceMethod yJx4a65c_size_8abf5, .selects RJx4a65c yJx4a65c_size_8abf5 yJx4a65c_size_8abf5, .initialized RJx4a65c, .code yJx4a65c_size_8abf5 cJx4a65c_size_8abf5 1 (some .int), .fieldLink RJx4a65c 48 "java/util/ArrayList" "size" "I"] ++ wsX60 ++ wsJx4a65c0)
def wsX6_moveAt_r1 : List Cond := [Cond.fieldLink RX6 22 "QuayMesh" "log" "Ljava/util/ArrayList;", Cond.fieldLink RX6 151 "QuayMesh$Message" "number" "I", Cond.methodLink RX6 336 yX6_elementOf, Cond.static yX6_elementOf, Cond.initialized RX6, Cond.code yX6_elementOf cX6_elementOf 2 (some (.object "QuayMesh$Message")), Cond.classLink RX6 141 "QuayMesh$Message", Cond.methodLink RX6 62 yJx4a65c_size_8abf5, Cond.instanceMethod yJx4a65c_size_8abf5, Cond.selects RJx4a65c yJx4a65c_size_8abf5 yJx4a65c_size_8abf5, Cond.initialized RJx4a65c, Cond.code yJx4a65c_size_8abf5 cJx4a65c_size_8abf5 1 (some .int), Cond.fieldLink RJx4a65c 48 "java/util/ArrayList" "size" "I", Cond.methodLink RX6 52 yX6_requireOneOf, Cond.static yX6_requireOneOf, Cond.code yX6_requireOneOf cX6_requireOneOf 2 none, Cond.classLink RX6 127 "java/lang/IndexOutOfBoundsException", Cond.initialized "java/lang/IndexOutOfBoundsException", Cond.methodLink RX6 97 yJx4a65c_get_915e3, Cond.instanceMethod yJx4a65c_get_915e3, Cond.selects RJx4a65c yJx4a65c_get_915e3 yJx4a65c_get_915e3, Cond.code yJx4a65c_get_915e3 cJx4a65c_get_915e3 2 (some (.object "java/lang/Object")), Cond.methodLink RJx4a65c 118 yJ15_checkIndex_7cf53, Cond.static yJ15_checkIndex_7cf53]
def wsX6_moveAt_r2 : List Cond := [Cond.initialized RJ15, Cond.code yJ15_checkIndex_7cf53 cJ15_checkIndex_7cf53 2 (some .int), Cond.methodLink RJ15 105 yJ3_checkIndex_8e157, Cond.static yJ3_checkIndex_8e157, Cond.initialized RJ3, Cond.code yJ3_checkIndex_8e157 cJ3_checkIndex_8e157 3 (some .int), Cond.methodLink RJx4a65c 123 yJx4a65c_elementData_915e3, Cond.instanceMethod yJx4a65c_elementData_915e3, Cond.selects RJx4a65c yJx4a65c_elementData_915e3 yJx4a65c_elementData_915e3, Cond.code yJx4a65c_elementData_915e3 cJx4a65c_elementData_915e3 2 (some (.object "java/lang/Object")), Cond.fieldLink RJx4a65c 9 "java/util/ArrayList" "elementData" "[Ljava/lang/Object;"]
def wsX6_moveAt : List Cond := .code yX6_moveAt cX6_moveAt 2 (some .int) :: ((wsX6_moveAt_r1 ++ wsX6_moveAt_r2) ++ wsX60 ++ wsX20 ++ wsJx4a65c0 ++ (vx_atS RX6 131 "java/lang/IndexOutOfBoundsException" ["java/lang/RuntimeException", "java/lang/Exception"]).filter goodWord)
def wsX6_unheard : List Cond := .code yX6_unheard cX6_unheard 1 (some .int) :: ([.fieldLink RX6 35 "QuayMesh" "movesMade" "I", .fieldLink RX6 22 "QuayMesh" "log" "Ljava/util/ArrayList;", .methodLink RX6 62 yJx4a65c_size_8abf5, .instanceMethod yJx4a65c_size_8abf5, .selects RJx4a65c yJx4a65c_size_8abf5 yJx4a65c_size_8abf5, .initialized RJx4a65c, .code yJx4a65c_size_8abf5 cJx4a65c_size_8abf5 1 (some .int), .fieldLink RJx4a65c 48 "java/util/ArrayList" "size" "I"] ++ wsX60 ++ wsJx4a65c0)
def wsX7_init_r1 : List Cond := [Cond.methodLink RX7 1 objectInit, Cond.instanceMethod objectInit, Cond.code objectInit ⟨#[0xb1]⟩ 1 none, Cond.arrayClass .int, Cond.fieldLink RX7 7 "QuayMeshModel" "from" "[I", Cond.fieldLink RX7 13 "QuayMeshModel" "length" "[I", Cond.arrayClass .boolean, Cond.fieldLink RX7 16 "QuayMeshModel" "hasLeft" "[Z", Cond.fieldLink RX7 20 "QuayMeshModel" "shipOf" "[I", Cond.fieldLink RX7 23 "QuayMeshModel" "placeOf" "[I", Cond.fieldLink RX7 26 "QuayMeshModel" "where" "[I", Cond.fieldLink RX7 29 "QuayMeshModel" "at" "[I", Cond.fieldLink RX7 32 "QuayMeshModel" "lifter" "[I", Cond.fieldLink RX7 35 "QuayMeshModel" "booked" "[I", Cond.fieldLink RX7 38 "QuayMeshModel" "gate" "[I", Cond.fieldLink RX7 41 "QuayMeshModel" "height" "[I", Cond.fieldLink RX7 44 "QuayMeshModel" "level" "[I", Cond.fieldLink RX7 47 "QuayMeshModel" "stands" "[I", Cond.fieldLink RX7 50 "QuayMeshModel" "isSilent" "[Z", Cond.fieldLink RX7 53 "QuayMeshModel" "kind" "[I", Cond.fieldLink RX7 56 "QuayMeshModel" "box" "[I", Cond.fieldLink RX7 59 "QuayMeshModel" "target" "[I", Cond.fieldLink RX7 62 "QuayMeshModel" "handed" "[I", Cond.fieldLink RX7 65 "QuayMeshModel" "made" "[I"]
def wsX7_init_r2 : List Cond := [Cond.fieldLink RX7 68 "QuayMeshModel" "isLogged" "[Z", Cond.fieldLink RX7 71 "QuayMeshModel" "doneBy" "[I", Cond.fieldLink RX7 74 "QuayMeshModel" "log" "[I", Cond.fieldLink RX7 77 "QuayMeshModel" "many" "[I", Cond.fieldLink RX7 80 "QuayMeshModel" "queue" "[I", Cond.fieldLink RX7 83 "QuayMeshModel" "lossDue" "[I", Cond.fieldLink RX7 86 "QuayMeshModel" "ackLossDue" "[I", Cond.fieldLink RX7 89 "QuayMeshModel" "lastHeard" "[I", Cond.fieldLink RX7 92 "QuayMeshModel" "seen" "[I"]
def wsX7_init : List Cond := .code yX7_init cX7_init 1 none :: ((wsX7_init_r1 ++ wsX7_init_r2) ++ wsX70)
def wsX7_thrown : List Cond := .code yX7_thrown cX7_thrown 1 (some .int) :: ([.fieldLink RX7 95 "QuayMeshModel" "thrown" "I"] ++ wsX70)
def wsX7_in : List Cond := .code yX7_in cX7_in 3 (some .boolean) :: ([])
def wsX7_isPlace : List Cond := .code yX7_isPlace cX7_isPlace 1 (some .boolean) :: ([.methodLink RX7 99 yX7_in, .static yX7_in, .initialized RX7, .code yX7_in cX7_in 3 (some .boolean)])
def wsX7_isCrane : List Cond := .code yX7_isCrane cX7_isCrane 1 (some .boolean) :: ([.methodLink RX7 99 yX7_in, .static yX7_in, .initialized RX7, .code yX7_in cX7_in 3 (some .boolean)])
def wsX7_isWorker : List Cond := .code yX7_isWorker cX7_isWorker 1 (some .boolean) :: ([.methodLink RX7 99 yX7_in, .static yX7_in, .initialized RX7, .code yX7_in cX7_in 3 (some .boolean)])
def wsX7_isShip : List Cond := .code yX7_isShip cX7_isShip 2 (some .boolean) :: ([.fieldLink RX7 103 "QuayMeshModel" "ships" "I", .fieldLink RX7 16 "QuayMeshModel" "hasLeft" "[Z", .methodLink RX7 99 yX7_in, .static yX7_in, .initialized RX7, .code yX7_in cX7_in 3 (some .boolean)] ++ wsX70)
def wsX7_isBox : List Cond := .code yX7_isBox cX7_isBox 2 (some .boolean) :: ([.fieldLink RX7 106 "QuayMeshModel" "boxes" "I", .methodLink RX7 99 yX7_in, .static yX7_in, .initialized RX7, .code yX7_in cX7_in 3 (some .boolean)] ++ wsX70)
def wsX7_isFree : List Cond := .code yX7_isFree cX7_isFree 5 (some .boolean) :: ([.fieldLink RX7 103 "QuayMeshModel" "ships" "I", .fieldLink RX7 16 "QuayMeshModel" "hasLeft" "[Z", .fieldLink RX7 7 "QuayMeshModel" "from" "[I", .fieldLink RX7 13 "QuayMeshModel" "length" "[I"] ++ wsX70)
def wsX7_berth : List Cond := .code yX7_berth cX7_berth 3 (some .int) :: ([.fieldLink RX7 103 "QuayMeshModel" "ships" "I", .fieldLink RX7 95 "QuayMeshModel" "thrown" "I", .fieldLink RX7 7 "QuayMeshModel" "from" "[I", .fieldLink RX7 13 "QuayMeshModel" "length" "[I", .methodLink RX7 109 yX7_isPlace, .static yX7_isPlace, .initialized RX7, .code yX7_isPlace cX7_isPlace 1 (some .boolean), .methodLink RX7 99 yX7_in, .static yX7_in, .code yX7_in cX7_in 3 (some .boolean), .methodLink RX7 113 yX7_isFree, .instanceMethod yX7_isFree, .selects RX7 yX7_isFree yX7_isFree, .code yX7_isFree cX7_isFree 5 (some .boolean), .fieldLink RX7 16 "QuayMeshModel" "hasLeft" "[Z"] ++ wsX70)
def wsX7_box : List Cond := .code yX7_box cX7_box 3 (some .int) :: ([.fieldLink RX7 95 "QuayMeshModel" "thrown" "I", .fieldLink RX7 7 "QuayMeshModel" "from" "[I", .fieldLink RX7 13 "QuayMeshModel" "length" "[I", .fieldLink RX7 106 "QuayMeshModel" "boxes" "I", .fieldLink RX7 20 "QuayMeshModel" "shipOf" "[I", .fieldLink RX7 23 "QuayMeshModel" "placeOf" "[I", .fieldLink RX7 26 "QuayMeshModel" "where" "[I", .fieldLink RX7 32 "QuayMeshModel" "lifter" "[I", .fieldLink RX7 35 "QuayMeshModel" "booked" "[I", .methodLink RX7 117 yX7_isShip, .instanceMethod yX7_isShip, .selects RX7 yX7_isShip yX7_isShip, .initialized RX7, .code yX7_isShip cX7_isShip 2 (some .boolean), .fieldLink RX7 103 "QuayMeshModel" "ships" "I", .fieldLink RX7 16 "QuayMeshModel" "hasLeft" "[Z", .methodLink RX7 99 yX7_in, .static yX7_in, .code yX7_in cX7_in 3 (some .boolean)] ++ wsX70)
def wsX7_leave : List Cond := .code yX7_leave cX7_leave 4 (some .int) :: ([.fieldLink RX7 95 "QuayMeshModel" "thrown" "I", .fieldLink RX7 106 "QuayMeshModel" "boxes" "I", .fieldLink RX7 20 "QuayMeshModel" "shipOf" "[I", .fieldLink RX7 26 "QuayMeshModel" "where" "[I", .fieldLink RX7 16 "QuayMeshModel" "hasLeft" "[Z", .methodLink RX7 117 yX7_isShip, .instanceMethod yX7_isShip, .selects RX7 yX7_isShip yX7_isShip, .initialized RX7, .code yX7_isShip cX7_isShip 2 (some .boolean), .fieldLink RX7 103 "QuayMeshModel" "ships" "I", .methodLink RX7 99 yX7_in, .static yX7_in, .code yX7_in cX7_in 3 (some .boolean)] ++ wsX70)
def wsX7_joins : List Cond := .code yX7_joins cX7_joins 3 none :: ([.fieldLink RX7 80 "QuayMeshModel" "queue" "[I", .fieldLink RX7 77 "QuayMeshModel" "many" "[I"] ++ wsX70)
def wsX7_quits : List Cond := .code yX7_quits cX7_quits 6 none :: ([.fieldLink RX7 77 "QuayMeshModel" "many" "[I", .fieldLink RX7 80 "QuayMeshModel" "queue" "[I"] ++ wsX70)
def wsX7_isIn : List Cond := .code yX7_isIn cX7_isIn 5 (some .boolean) :: ([.fieldLink RX7 77 "QuayMeshModel" "many" "[I", .fieldLink RX7 80 "QuayMeshModel" "queue" "[I"] ++ wsX70)
def wsX7_firstFor : List Cond := .code yX7_firstFor cX7_firstFor 1 (some .int) :: ([])
def wsX7_freest : List Cond := .code yX7_freest cX7_freest 4 (some .int) :: ([.fieldLink RX7 50 "QuayMeshModel" "isSilent" "[Z", .fieldLink RX7 77 "QuayMeshModel" "many" "[I", .methodLink RX7 120 yX7_firstFor, .static yX7_firstFor, .initialized RX7, .code yX7_firstFor cX7_firstFor 1 (some .int)] ++ wsX70)
def wsX7_isTarget : List Cond := .code yX7_isTarget cX7_isTarget 2 (some .boolean) :: ([.methodLink RX7 99 yX7_in, .static yX7_in, .initialized RX7, .code yX7_in cX7_in 3 (some .boolean)])
def wsX7_send_r1 : List Cond := [Cond.fieldLink RX7 95 "QuayMeshModel" "thrown" "I", Cond.fieldLink RX7 130 "QuayMeshModel" "messages" "I", Cond.fieldLink RX7 53 "QuayMeshModel" "kind" "[I", Cond.fieldLink RX7 56 "QuayMeshModel" "box" "[I", Cond.fieldLink RX7 59 "QuayMeshModel" "target" "[I", Cond.methodLink RX7 99 yX7_in, Cond.static yX7_in, Cond.initialized RX7, Cond.code yX7_in cX7_in 3 (some .boolean), Cond.methodLink RX7 120 yX7_firstFor, Cond.static yX7_firstFor, Cond.code yX7_firstFor cX7_firstFor 1 (some .int), Cond.methodLink RX7 124 yX7_isBox, Cond.instanceMethod yX7_isBox, Cond.selects RX7 yX7_isBox yX7_isBox, Cond.code yX7_isBox cX7_isBox 2 (some .boolean), Cond.fieldLink RX7 106 "QuayMeshModel" "boxes" "I", Cond.methodLink RX7 127 yX7_isTarget, Cond.static yX7_isTarget, Cond.code yX7_isTarget cX7_isTarget 2 (some .boolean), Cond.methodLink RX7 133 yX7_freest, Cond.instanceMethod yX7_freest, Cond.selects RX7 yX7_freest yX7_freest, Cond.code yX7_freest cX7_freest 4 (some .int)]
def wsX7_send_r2 : List Cond := [Cond.fieldLink RX7 50 "QuayMeshModel" "isSilent" "[Z", Cond.fieldLink RX7 77 "QuayMeshModel" "many" "[I", Cond.methodLink RX7 136 yX7_joins, Cond.instanceMethod yX7_joins, Cond.selects RX7 yX7_joins yX7_joins, Cond.code yX7_joins cX7_joins 3 none, Cond.fieldLink RX7 80 "QuayMeshModel" "queue" "[I"]
def wsX7_send : List Cond := .code yX7_send cX7_send 6 (some .int) :: ((wsX7_send_r1 ++ wsX7_send_r2) ++ wsX70)
def wsX7_acknowledges : List Cond := .code yX7_acknowledges cX7_acknowledges 3 (some .int) :: ([.fieldLink RX7 86 "QuayMeshModel" "ackLossDue" "[I", .fieldLink RX7 89 "QuayMeshModel" "lastHeard" "[I", .fieldLink RX7 65 "QuayMeshModel" "made" "[I", .fieldLink RX7 68 "QuayMeshModel" "isLogged" "[Z", .fieldLink RX7 74 "QuayMeshModel" "log" "[I", .fieldLink RX7 143 "QuayMeshModel" "logged" "I", .methodLink RX7 140 yX7_quits, .instanceMethod yX7_quits, .selects RX7 yX7_quits yX7_quits, .initialized RX7, .code yX7_quits cX7_quits 6 none, .fieldLink RX7 77 "QuayMeshModel" "many" "[I", .fieldLink RX7 80 "QuayMeshModel" "queue" "[I"] ++ wsX70)
def wsX7_makes : List Cond := .code yX7_makes cX7_makes 2 none :: ([.fieldLink RX7 146 "QuayMeshModel" "moves" "I", .fieldLink RX7 65 "QuayMeshModel" "made" "[I"] ++ wsX70)
def wsX7_canGo : List Cond := .code yX7_canGo cX7_canGo 3 (some .boolean) :: ([.fieldLink RX7 47 "QuayMeshModel" "stands" "[I"] ++ wsX70)
def wsX7_isTaken : List Cond := .code yX7_isTaken cX7_isTaken 4 (some .boolean) :: ([.fieldLink RX7 106 "QuayMeshModel" "boxes" "I", .fieldLink RX7 26 "QuayMeshModel" "where" "[I", .fieldLink RX7 23 "QuayMeshModel" "placeOf" "[I"] ++ wsX70)
def wsX7_lifts_r1 : List Cond := [Cond.fieldLink RX7 56 "QuayMeshModel" "box" "[I", Cond.fieldLink RX7 26 "QuayMeshModel" "where" "[I", Cond.fieldLink RX7 23 "QuayMeshModel" "placeOf" "[I", Cond.fieldLink RX7 47 "QuayMeshModel" "stands" "[I", Cond.fieldLink RX7 32 "QuayMeshModel" "lifter" "[I", Cond.fieldLink RX7 71 "QuayMeshModel" "doneBy" "[I", Cond.methodLink RX7 149 yX7_acknowledges, Cond.instanceMethod yX7_acknowledges, Cond.selects RX7 yX7_acknowledges yX7_acknowledges, Cond.initialized RX7, Cond.code yX7_acknowledges cX7_acknowledges 3 (some .int), Cond.fieldLink RX7 86 "QuayMeshModel" "ackLossDue" "[I", Cond.fieldLink RX7 89 "QuayMeshModel" "lastHeard" "[I", Cond.fieldLink RX7 65 "QuayMeshModel" "made" "[I", Cond.fieldLink RX7 68 "QuayMeshModel" "isLogged" "[Z", Cond.fieldLink RX7 74 "QuayMeshModel" "log" "[I", Cond.fieldLink RX7 143 "QuayMeshModel" "logged" "I", Cond.methodLink RX7 140 yX7_quits, Cond.instanceMethod yX7_quits, Cond.selects RX7 yX7_quits yX7_quits, Cond.code yX7_quits cX7_quits 6 none, Cond.fieldLink RX7 77 "QuayMeshModel" "many" "[I", Cond.fieldLink RX7 80 "QuayMeshModel" "queue" "[I", Cond.methodLink RX7 153 yX7_canGo]
def wsX7_lifts_r2 : List Cond := [Cond.instanceMethod yX7_canGo, Cond.selects RX7 yX7_canGo yX7_canGo, Cond.code yX7_canGo cX7_canGo 3 (some .boolean), Cond.methodLink RX7 156 yX7_isTaken, Cond.instanceMethod yX7_isTaken, Cond.selects RX7 yX7_isTaken yX7_isTaken, Cond.code yX7_isTaken cX7_isTaken 4 (some .boolean), Cond.fieldLink RX7 106 "QuayMeshModel" "boxes" "I", Cond.methodLink RX7 159 yX7_makes, Cond.instanceMethod yX7_makes, Cond.selects RX7 yX7_makes yX7_makes, Cond.code yX7_makes cX7_makes 2 none, Cond.fieldLink RX7 146 "QuayMeshModel" "moves" "I"]
def wsX7_lifts : List Cond := .code yX7_lifts cX7_lifts 5 (some .int) :: ((wsX7_lifts_r1 ++ wsX7_lifts_r2) ++ wsX70)
def wsX7_deliver_r1 : List Cond := [Cond.fieldLink RX7 95 "QuayMeshModel" "thrown" "I", Cond.fieldLink RX7 77 "QuayMeshModel" "many" "[I", Cond.fieldLink RX7 80 "QuayMeshModel" "queue" "[I", Cond.fieldLink RX7 62 "QuayMeshModel" "handed" "[I", Cond.fieldLink RX7 83 "QuayMeshModel" "lossDue" "[I", Cond.fieldLink RX7 50 "QuayMeshModel" "isSilent" "[Z", Cond.fieldLink RX7 71 "QuayMeshModel" "doneBy" "[I", Cond.fieldLink RX7 92 "QuayMeshModel" "seen" "[I", Cond.methodLink RX7 163 yX7_isWorker, Cond.static yX7_isWorker, Cond.initialized RX7, Cond.code yX7_isWorker cX7_isWorker 1 (some .boolean), Cond.methodLink RX7 99 yX7_in, Cond.static yX7_in, Cond.code yX7_in cX7_in 3 (some .boolean), Cond.methodLink RX7 140 yX7_quits, Cond.instanceMethod yX7_quits, Cond.selects RX7 yX7_quits yX7_quits, Cond.code yX7_quits cX7_quits 6 none, Cond.methodLink RX7 136 yX7_joins, Cond.instanceMethod yX7_joins, Cond.selects RX7 yX7_joins yX7_joins, Cond.code yX7_joins cX7_joins 3 none, Cond.methodLink RX7 149 yX7_acknowledges]
def wsX7_deliver_r2 : List Cond := [Cond.instanceMethod yX7_acknowledges, Cond.selects RX7 yX7_acknowledges yX7_acknowledges, Cond.code yX7_acknowledges cX7_acknowledges 3 (some .int), Cond.fieldLink RX7 86 "QuayMeshModel" "ackLossDue" "[I", Cond.fieldLink RX7 89 "QuayMeshModel" "lastHeard" "[I", Cond.fieldLink RX7 65 "QuayMeshModel" "made" "[I", Cond.fieldLink RX7 68 "QuayMeshModel" "isLogged" "[Z", Cond.fieldLink RX7 74 "QuayMeshModel" "log" "[I", Cond.fieldLink RX7 143 "QuayMeshModel" "logged" "I", Cond.methodLink RX7 166 yX7_isCrane, Cond.static yX7_isCrane, Cond.code yX7_isCrane cX7_isCrane 1 (some .boolean), Cond.methodLink RX7 169 yX7_lifts, Cond.instanceMethod yX7_lifts, Cond.selects RX7 yX7_lifts yX7_lifts, Cond.code yX7_lifts cX7_lifts 5 (some .int), Cond.fieldLink RX7 56 "QuayMeshModel" "box" "[I", Cond.fieldLink RX7 26 "QuayMeshModel" "where" "[I", Cond.fieldLink RX7 23 "QuayMeshModel" "placeOf" "[I", Cond.fieldLink RX7 47 "QuayMeshModel" "stands" "[I", Cond.fieldLink RX7 32 "QuayMeshModel" "lifter" "[I", Cond.methodLink RX7 153 yX7_canGo, Cond.instanceMethod yX7_canGo, Cond.selects RX7 yX7_canGo yX7_canGo]
def wsX7_deliver_r3 : List Cond := [Cond.code yX7_canGo cX7_canGo 3 (some .boolean), Cond.methodLink RX7 156 yX7_isTaken, Cond.instanceMethod yX7_isTaken, Cond.selects RX7 yX7_isTaken yX7_isTaken, Cond.code yX7_isTaken cX7_isTaken 4 (some .boolean), Cond.fieldLink RX7 106 "QuayMeshModel" "boxes" "I", Cond.methodLink RX7 159 yX7_makes, Cond.instanceMethod yX7_makes, Cond.selects RX7 yX7_makes yX7_makes, Cond.code yX7_makes cX7_makes 2 none, Cond.fieldLink RX7 146 "QuayMeshModel" "moves" "I"]
def wsX7_deliver : List Cond := .code yX7_deliver cX7_deliver 3 (some .int) :: ((wsX7_deliver_r1 ++ (wsX7_deliver_r2 ++ wsX7_deliver_r3)) ++ wsX70)
def wsX7_isUppermost : List Cond := .code yX7_isUppermost cX7_isUppermost 2 (some .boolean) :: ([.fieldLink RX7 26 "QuayMeshModel" "where" "[I", .fieldLink RX7 44 "QuayMeshModel" "level" "[I", .fieldLink RX7 41 "QuayMeshModel" "height" "[I", .fieldLink RX7 29 "QuayMeshModel" "at" "[I"] ++ wsX70)
def wsX7_isEmpty : List Cond := .code yX7_isEmpty cX7_isEmpty 4 (some .boolean) :: ([.fieldLink RX7 106 "QuayMeshModel" "boxes" "I", .fieldLink RX7 26 "QuayMeshModel" "where" "[I", .fieldLink RX7 29 "QuayMeshModel" "at" "[I"] ++ wsX70)
def wsX7_finishes : List Cond := .code yX7_finishes cX7_finishes 3 (some .int) :: ([.fieldLink RX7 71 "QuayMeshModel" "doneBy" "[I", .fieldLink RX7 92 "QuayMeshModel" "seen" "[I", .methodLink RX7 149 yX7_acknowledges, .instanceMethod yX7_acknowledges, .selects RX7 yX7_acknowledges yX7_acknowledges, .initialized RX7, .code yX7_acknowledges cX7_acknowledges 3 (some .int), .fieldLink RX7 86 "QuayMeshModel" "ackLossDue" "[I", .fieldLink RX7 89 "QuayMeshModel" "lastHeard" "[I", .fieldLink RX7 65 "QuayMeshModel" "made" "[I", .fieldLink RX7 68 "QuayMeshModel" "isLogged" "[Z", .fieldLink RX7 74 "QuayMeshModel" "log" "[I", .fieldLink RX7 143 "QuayMeshModel" "logged" "I", .methodLink RX7 140 yX7_quits, .instanceMethod yX7_quits, .selects RX7 yX7_quits yX7_quits, .code yX7_quits cX7_quits 6 none, .fieldLink RX7 77 "QuayMeshModel" "many" "[I", .fieldLink RX7 80 "QuayMeshModel" "queue" "[I"] ++ wsX70)
def wsX7_puts : List Cond := .code yX7_puts cX7_puts 3 (some .boolean) :: ([.fieldLink RX7 56 "QuayMeshModel" "box" "[I", .fieldLink RX7 53 "QuayMeshModel" "kind" "[I", .fieldLink RX7 41 "QuayMeshModel" "height" "[I", .fieldLink RX7 59 "QuayMeshModel" "target" "[I", .fieldLink RX7 26 "QuayMeshModel" "where" "[I", .fieldLink RX7 29 "QuayMeshModel" "at" "[I", .fieldLink RX7 44 "QuayMeshModel" "level" "[I", .fieldLink RX7 35 "QuayMeshModel" "booked" "[I", .fieldLink RX7 172 "QuayMeshModel" "hour" "I", .fieldLink RX7 38 "QuayMeshModel" "gate" "[I", .methodLink RX7 159 yX7_makes, .instanceMethod yX7_makes, .selects RX7 yX7_makes yX7_makes, .initialized RX7, .code yX7_makes cX7_makes 2 none, .fieldLink RX7 146 "QuayMeshModel" "moves" "I", .fieldLink RX7 65 "QuayMeshModel" "made" "[I"] ++ wsX70)
def wsX7_act_r1 : List Cond := [Cond.fieldLink RX7 95 "QuayMeshModel" "thrown" "I", Cond.fieldLink RX7 92 "QuayMeshModel" "seen" "[I", Cond.fieldLink RX7 56 "QuayMeshModel" "box" "[I", Cond.fieldLink RX7 26 "QuayMeshModel" "where" "[I", Cond.fieldLink RX7 53 "QuayMeshModel" "kind" "[I", Cond.fieldLink RX7 29 "QuayMeshModel" "at" "[I", Cond.fieldLink RX7 59 "QuayMeshModel" "target" "[I", Cond.fieldLink RX7 41 "QuayMeshModel" "height" "[I", Cond.methodLink RX7 99 yX7_in, Cond.static yX7_in, Cond.initialized RX7, Cond.code yX7_in cX7_in 3 (some .boolean), Cond.methodLink RX7 175 yX7_finishes, Cond.instanceMethod yX7_finishes, Cond.selects RX7 yX7_finishes yX7_finishes, Cond.code yX7_finishes cX7_finishes 3 (some .int), Cond.fieldLink RX7 71 "QuayMeshModel" "doneBy" "[I", Cond.methodLink RX7 149 yX7_acknowledges, Cond.instanceMethod yX7_acknowledges, Cond.selects RX7 yX7_acknowledges yX7_acknowledges, Cond.code yX7_acknowledges cX7_acknowledges 3 (some .int), Cond.fieldLink RX7 86 "QuayMeshModel" "ackLossDue" "[I", Cond.fieldLink RX7 89 "QuayMeshModel" "lastHeard" "[I", Cond.fieldLink RX7 65 "QuayMeshModel" "made" "[I"]
def wsX7_act_r2 : List Cond := [Cond.fieldLink RX7 68 "QuayMeshModel" "isLogged" "[Z", Cond.fieldLink RX7 74 "QuayMeshModel" "log" "[I", Cond.fieldLink RX7 143 "QuayMeshModel" "logged" "I", Cond.methodLink RX7 140 yX7_quits, Cond.instanceMethod yX7_quits, Cond.selects RX7 yX7_quits yX7_quits, Cond.code yX7_quits cX7_quits 6 none, Cond.fieldLink RX7 77 "QuayMeshModel" "many" "[I", Cond.fieldLink RX7 80 "QuayMeshModel" "queue" "[I", Cond.methodLink RX7 178 yX7_puts, Cond.instanceMethod yX7_puts, Cond.selects RX7 yX7_puts yX7_puts, Cond.code yX7_puts cX7_puts 3 (some .boolean), Cond.fieldLink RX7 44 "QuayMeshModel" "level" "[I", Cond.fieldLink RX7 35 "QuayMeshModel" "booked" "[I", Cond.fieldLink RX7 172 "QuayMeshModel" "hour" "I", Cond.fieldLink RX7 38 "QuayMeshModel" "gate" "[I", Cond.methodLink RX7 159 yX7_makes, Cond.instanceMethod yX7_makes, Cond.selects RX7 yX7_makes yX7_makes, Cond.code yX7_makes cX7_makes 2 none, Cond.fieldLink RX7 146 "QuayMeshModel" "moves" "I", Cond.methodLink RX7 181 yX7_isEmpty, Cond.instanceMethod yX7_isEmpty]
def wsX7_act_r3 : List Cond := [Cond.selects RX7 yX7_isEmpty yX7_isEmpty, Cond.code yX7_isEmpty cX7_isEmpty 4 (some .boolean), Cond.fieldLink RX7 106 "QuayMeshModel" "boxes" "I", Cond.methodLink RX7 184 yX7_isUppermost, Cond.instanceMethod yX7_isUppermost, Cond.selects RX7 yX7_isUppermost yX7_isUppermost, Cond.code yX7_isUppermost cX7_isUppermost 2 (some .boolean)]
def wsX7_act : List Cond := .code yX7_act cX7_act 4 (some .int) :: ((wsX7_act_r1 ++ (wsX7_act_r2 ++ wsX7_act_r3)) ++ wsX70)
def wsX7_lose : List Cond := .code yX7_lose cX7_lose 4 (some .int) :: ([.fieldLink RX7 95 "QuayMeshModel" "thrown" "I", .fieldLink RX7 86 "QuayMeshModel" "ackLossDue" "[I", .fieldLink RX7 83 "QuayMeshModel" "lossDue" "[I", .methodLink RX7 163 yX7_isWorker, .static yX7_isWorker, .initialized RX7, .code yX7_isWorker cX7_isWorker 1 (some .boolean), .methodLink RX7 99 yX7_in, .static yX7_in, .code yX7_in cX7_in 3 (some .boolean)] ++ wsX70)
def wsX7_repeat : List Cond := .code yX7_repeat cX7_repeat 4 (some .int) :: ([.fieldLink RX7 95 "QuayMeshModel" "thrown" "I", .fieldLink RX7 89 "QuayMeshModel" "lastHeard" "[I", .methodLink RX7 163 yX7_isWorker, .static yX7_isWorker, .initialized RX7, .code yX7_isWorker cX7_isWorker 1 (some .boolean), .methodLink RX7 99 yX7_in, .static yX7_in, .code yX7_in cX7_in 3 (some .boolean), .methodLink RX7 187 yX7_isIn, .instanceMethod yX7_isIn, .selects RX7 yX7_isIn yX7_isIn, .code yX7_isIn cX7_isIn 5 (some .boolean), .fieldLink RX7 77 "QuayMeshModel" "many" "[I", .fieldLink RX7 80 "QuayMeshModel" "queue" "[I", .methodLink RX7 136 yX7_joins, .instanceMethod yX7_joins, .selects RX7 yX7_joins yX7_joins, .code yX7_joins cX7_joins 3 none] ++ wsX70)
def wsX7_silence : List Cond := .code yX7_silence cX7_silence 4 (some .boolean) :: ([.fieldLink RX7 95 "QuayMeshModel" "thrown" "I", .fieldLink RX7 50 "QuayMeshModel" "isSilent" "[Z", .methodLink RX7 166 yX7_isCrane, .static yX7_isCrane, .initialized RX7, .code yX7_isCrane cX7_isCrane 1 (some .boolean), .methodLink RX7 99 yX7_in, .static yX7_in, .code yX7_in cX7_in 3 (some .boolean)] ++ wsX70)
def wsX7_giveAway : List Cond := .code yX7_giveAway cX7_giveAway 5 (some .int) :: ([.fieldLink RX7 50 "QuayMeshModel" "isSilent" "[Z", .fieldLink RX7 95 "QuayMeshModel" "thrown" "I", .fieldLink RX7 77 "QuayMeshModel" "many" "[I", .fieldLink RX7 80 "QuayMeshModel" "queue" "[I", .methodLink RX7 166 yX7_isCrane, .static yX7_isCrane, .initialized RX7, .code yX7_isCrane cX7_isCrane 1 (some .boolean), .methodLink RX7 99 yX7_in, .static yX7_in, .code yX7_in cX7_in 3 (some .boolean), .methodLink RX7 136 yX7_joins, .instanceMethod yX7_joins, .selects RX7 yX7_joins yX7_joins, .code yX7_joins cX7_joins 3 none] ++ wsX70)
def wsX7_park : List Cond := .code yX7_park cX7_park 4 (some .int) :: ([.fieldLink RX7 50 "QuayMeshModel" "isSilent" "[Z", .fieldLink RX7 95 "QuayMeshModel" "thrown" "I", .fieldLink RX7 47 "QuayMeshModel" "stands" "[I", .methodLink RX7 166 yX7_isCrane, .static yX7_isCrane, .initialized RX7, .code yX7_isCrane cX7_isCrane 1 (some .boolean), .methodLink RX7 99 yX7_in, .static yX7_in, .code yX7_in cX7_in 3 (some .boolean), .methodLink RX7 109 yX7_isPlace, .static yX7_isPlace, .code yX7_isPlace cX7_isPlace 1 (some .boolean), .methodLink RX7 153 yX7_canGo, .instanceMethod yX7_canGo, .selects RX7 yX7_canGo yX7_canGo, .code yX7_canGo cX7_canGo 3 (some .boolean)] ++ wsX70)
def wsX7_slotsFor : List Cond := .code yX7_slotsFor cX7_slotsFor 5 (some .int) :: ([.fieldLink RX7 106 "QuayMeshModel" "boxes" "I", .fieldLink RX7 35 "QuayMeshModel" "booked" "[I", .fieldLink RX7 38 "QuayMeshModel" "gate" "[I"] ++ wsX70)
def wsX7_canBook : List Cond := .code yX7_canBook cX7_canBook 9 (some .boolean) :: ([.fieldLink RX7 26 "QuayMeshModel" "where" "[I", .fieldLink RX7 35 "QuayMeshModel" "booked" "[I", .fieldLink RX7 106 "QuayMeshModel" "boxes" "I", .fieldLink RX7 29 "QuayMeshModel" "at" "[I", .fieldLink RX7 44 "QuayMeshModel" "level" "[I", .methodLink RX7 190 yX7_slotsFor, .instanceMethod yX7_slotsFor, .selects RX7 yX7_slotsFor yX7_slotsFor, .initialized RX7, .code yX7_slotsFor cX7_slotsFor 5 (some .int), .fieldLink RX7 38 "QuayMeshModel" "gate" "[I", .methodLink RX7 99 yX7_in, .static yX7_in, .code yX7_in cX7_in 3 (some .boolean)] ++ wsX70)
def wsX7_book : List Cond := .code yX7_book cX7_book 4 (some .int) :: ([.fieldLink RX7 172 "QuayMeshModel" "hour" "I", .fieldLink RX7 95 "QuayMeshModel" "thrown" "I", .fieldLink RX7 35 "QuayMeshModel" "booked" "[I", .fieldLink RX7 38 "QuayMeshModel" "gate" "[I", .methodLink RX7 99 yX7_in, .static yX7_in, .initialized RX7, .code yX7_in cX7_in 3 (some .boolean), .methodLink RX7 124 yX7_isBox, .instanceMethod yX7_isBox, .selects RX7 yX7_isBox yX7_isBox, .code yX7_isBox cX7_isBox 2 (some .boolean), .fieldLink RX7 106 "QuayMeshModel" "boxes" "I", .methodLink RX7 193 yX7_canBook, .instanceMethod yX7_canBook, .selects RX7 yX7_canBook yX7_canBook, .code yX7_canBook cX7_canBook 9 (some .boolean), .fieldLink RX7 26 "QuayMeshModel" "where" "[I", .fieldLink RX7 29 "QuayMeshModel" "at" "[I", .fieldLink RX7 44 "QuayMeshModel" "level" "[I", .methodLink RX7 190 yX7_slotsFor, .instanceMethod yX7_slotsFor, .selects RX7 yX7_slotsFor yX7_slotsFor, .code yX7_slotsFor cX7_slotsFor 5 (some .int)] ++ wsX70)
def wsX7_unbook : List Cond := .code yX7_unbook cX7_unbook 3 (some .int) :: ([.fieldLink RX7 35 "QuayMeshModel" "booked" "[I", .fieldLink RX7 95 "QuayMeshModel" "thrown" "I", .methodLink RX7 124 yX7_isBox, .instanceMethod yX7_isBox, .selects RX7 yX7_isBox yX7_isBox, .initialized RX7, .code yX7_isBox cX7_isBox 2 (some .boolean), .fieldLink RX7 106 "QuayMeshModel" "boxes" "I", .methodLink RX7 99 yX7_in, .static yX7_in, .code yX7_in cX7_in 3 (some .boolean)] ++ wsX70)
def wsX7_advance : List Cond := .code yX7_advance cX7_advance 4 (some .int) :: ([.fieldLink RX7 172 "QuayMeshModel" "hour" "I", .fieldLink RX7 95 "QuayMeshModel" "thrown" "I", .fieldLink RX7 106 "QuayMeshModel" "boxes" "I", .fieldLink RX7 35 "QuayMeshModel" "booked" "[I", .methodLink RX7 99 yX7_in, .static yX7_in, .initialized RX7, .code yX7_in cX7_in 3 (some .boolean)] ++ wsX70)
def wsX7_hour : List Cond := .code yX7_hour cX7_hour 1 (some .int) :: ([.fieldLink RX7 95 "QuayMeshModel" "thrown" "I", .fieldLink RX7 172 "QuayMeshModel" "hour" "I"] ++ wsX70)
def wsX7_boxes : List Cond := .code yX7_boxes cX7_boxes 1 (some .int) :: ([.fieldLink RX7 95 "QuayMeshModel" "thrown" "I", .fieldLink RX7 106 "QuayMeshModel" "boxes" "I"] ++ wsX70)
def wsX7_asksBox : List Cond := .code yX7_asksBox cX7_asksBox 2 (some .boolean) :: ([.fieldLink RX7 95 "QuayMeshModel" "thrown" "I", .methodLink RX7 124 yX7_isBox, .instanceMethod yX7_isBox, .selects RX7 yX7_isBox yX7_isBox, .initialized RX7, .code yX7_isBox cX7_isBox 2 (some .boolean), .fieldLink RX7 106 "QuayMeshModel" "boxes" "I", .methodLink RX7 99 yX7_in, .static yX7_in, .code yX7_in cX7_in 3 (some .boolean)] ++ wsX70)
def wsX7_whereIs : List Cond := .code yX7_whereIs cX7_whereIs 3 (some .int) :: ([.fieldLink RX7 26 "QuayMeshModel" "where" "[I", .fieldLink RX7 23 "QuayMeshModel" "placeOf" "[I", .fieldLink RX7 29 "QuayMeshModel" "at" "[I", .fieldLink RX7 44 "QuayMeshModel" "level" "[I", .methodLink RX7 196 yX7_asksBox, .instanceMethod yX7_asksBox, .selects RX7 yX7_asksBox yX7_asksBox, .initialized RX7, .code yX7_asksBox cX7_asksBox 2 (some .boolean), .fieldLink RX7 95 "QuayMeshModel" "thrown" "I", .methodLink RX7 124 yX7_isBox, .instanceMethod yX7_isBox, .selects RX7 yX7_isBox yX7_isBox, .code yX7_isBox cX7_isBox 2 (some .boolean), .fieldLink RX7 106 "QuayMeshModel" "boxes" "I", .methodLink RX7 99 yX7_in, .static yX7_in, .code yX7_in cX7_in 3 (some .boolean)] ++ wsX70)
def wsX7_whereByLog : List Cond := .code yX7_whereByLog cX7_whereByLog 5 (some .int) :: ([.fieldLink RX7 143 "QuayMeshModel" "logged" "I", .fieldLink RX7 56 "QuayMeshModel" "box" "[I", .fieldLink RX7 74 "QuayMeshModel" "log" "[I", .fieldLink RX7 65 "QuayMeshModel" "made" "[I", .fieldLink RX7 53 "QuayMeshModel" "kind" "[I", .fieldLink RX7 23 "QuayMeshModel" "placeOf" "[I", .fieldLink RX7 59 "QuayMeshModel" "target" "[I", .methodLink RX7 196 yX7_asksBox, .instanceMethod yX7_asksBox, .selects RX7 yX7_asksBox yX7_asksBox, .initialized RX7, .code yX7_asksBox cX7_asksBox 2 (some .boolean), .fieldLink RX7 95 "QuayMeshModel" "thrown" "I", .methodLink RX7 124 yX7_isBox, .instanceMethod yX7_isBox, .selects RX7 yX7_isBox yX7_isBox, .code yX7_isBox cX7_isBox 2 (some .boolean), .fieldLink RX7 106 "QuayMeshModel" "boxes" "I", .methodLink RX7 99 yX7_in, .static yX7_in, .code yX7_in cX7_in 3 (some .boolean)] ++ wsX70)
def wsX7_liftedBy : List Cond := .code yX7_liftedBy cX7_liftedBy 2 (some .int) :: ([.fieldLink RX7 32 "QuayMeshModel" "lifter" "[I", .methodLink RX7 196 yX7_asksBox, .instanceMethod yX7_asksBox, .selects RX7 yX7_asksBox yX7_asksBox, .initialized RX7, .code yX7_asksBox cX7_asksBox 2 (some .boolean), .fieldLink RX7 95 "QuayMeshModel" "thrown" "I", .methodLink RX7 124 yX7_isBox, .instanceMethod yX7_isBox, .selects RX7 yX7_isBox yX7_isBox, .code yX7_isBox cX7_isBox 2 (some .boolean), .fieldLink RX7 106 "QuayMeshModel" "boxes" "I", .methodLink RX7 99 yX7_in, .static yX7_in, .code yX7_in cX7_in 3 (some .boolean)] ++ wsX70)
def wsX7_bookedFor : List Cond := .code yX7_bookedFor cX7_bookedFor 2 (some .int) :: ([.fieldLink RX7 35 "QuayMeshModel" "booked" "[I", .methodLink RX7 196 yX7_asksBox, .instanceMethod yX7_asksBox, .selects RX7 yX7_asksBox yX7_asksBox, .initialized RX7, .code yX7_asksBox cX7_asksBox 2 (some .boolean), .fieldLink RX7 95 "QuayMeshModel" "thrown" "I", .methodLink RX7 124 yX7_isBox, .instanceMethod yX7_isBox, .selects RX7 yX7_isBox yX7_isBox, .code yX7_isBox cX7_isBox 2 (some .boolean), .fieldLink RX7 106 "QuayMeshModel" "boxes" "I", .methodLink RX7 99 yX7_in, .static yX7_in, .code yX7_in cX7_in 3 (some .boolean)] ++ wsX70)
def wsX7_placeOf : List Cond := .code yX7_placeOf cX7_placeOf 2 (some .int) :: ([.fieldLink RX7 95 "QuayMeshModel" "thrown" "I", .fieldLink RX7 47 "QuayMeshModel" "stands" "[I", .methodLink RX7 166 yX7_isCrane, .static yX7_isCrane, .initialized RX7, .code yX7_isCrane cX7_isCrane 1 (some .boolean), .methodLink RX7 99 yX7_in, .static yX7_in, .code yX7_in cX7_in 3 (some .boolean)] ++ wsX70)
def wsX7_height : List Cond := .code yX7_height cX7_height 2 (some .int) :: ([.fieldLink RX7 95 "QuayMeshModel" "thrown" "I", .fieldLink RX7 41 "QuayMeshModel" "height" "[I", .methodLink RX7 99 yX7_in, .static yX7_in, .initialized RX7, .code yX7_in cX7_in 3 (some .boolean)] ++ wsX70)
def wsX7_queue : List Cond := .code yX7_queue cX7_queue 2 (some .int) :: ([.fieldLink RX7 95 "QuayMeshModel" "thrown" "I", .fieldLink RX7 77 "QuayMeshModel" "many" "[I", .methodLink RX7 163 yX7_isWorker, .static yX7_isWorker, .initialized RX7, .code yX7_isWorker cX7_isWorker 1 (some .boolean), .methodLink RX7 99 yX7_in, .static yX7_in, .code yX7_in cX7_in 3 (some .boolean)] ++ wsX70)
def wsX7_queued : List Cond := .code yX7_queued cX7_queued 3 (some .int) :: ([.fieldLink RX7 77 "QuayMeshModel" "many" "[I", .fieldLink RX7 95 "QuayMeshModel" "thrown" "I", .fieldLink RX7 80 "QuayMeshModel" "queue" "[I", .methodLink RX7 163 yX7_isWorker, .static yX7_isWorker, .initialized RX7, .code yX7_isWorker cX7_isWorker 1 (some .boolean), .methodLink RX7 99 yX7_in, .static yX7_in, .code yX7_in cX7_in 3 (some .boolean)] ++ wsX70)
def wsX7_seen : List Cond := .code yX7_seen cX7_seen 2 (some .int) :: ([.fieldLink RX7 95 "QuayMeshModel" "thrown" "I", .fieldLink RX7 92 "QuayMeshModel" "seen" "[I", .methodLink RX7 99 yX7_in, .static yX7_in, .initialized RX7, .code yX7_in cX7_in 3 (some .boolean)] ++ wsX70)
def wsX7_asksMessage : List Cond := .code yX7_asksMessage cX7_asksMessage 2 (some .boolean) :: ([.fieldLink RX7 130 "QuayMeshModel" "messages" "I", .fieldLink RX7 95 "QuayMeshModel" "thrown" "I", .methodLink RX7 99 yX7_in, .static yX7_in, .initialized RX7, .code yX7_in cX7_in 3 (some .boolean)] ++ wsX70)
def wsX7_handed : List Cond := .code yX7_handed cX7_handed 2 (some .int) :: ([.fieldLink RX7 62 "QuayMeshModel" "handed" "[I", .methodLink RX7 199 yX7_asksMessage, .instanceMethod yX7_asksMessage, .selects RX7 yX7_asksMessage yX7_asksMessage, .initialized RX7, .code yX7_asksMessage cX7_asksMessage 2 (some .boolean), .fieldLink RX7 130 "QuayMeshModel" "messages" "I", .fieldLink RX7 95 "QuayMeshModel" "thrown" "I", .methodLink RX7 99 yX7_in, .static yX7_in, .code yX7_in cX7_in 3 (some .boolean)] ++ wsX70)
def wsX7_isDone : List Cond := .code yX7_isDone cX7_isDone 2 (some .boolean) :: ([.fieldLink RX7 65 "QuayMeshModel" "made" "[I", .methodLink RX7 199 yX7_asksMessage, .instanceMethod yX7_asksMessage, .selects RX7 yX7_asksMessage yX7_asksMessage, .initialized RX7, .code yX7_asksMessage cX7_asksMessage 2 (some .boolean), .fieldLink RX7 130 "QuayMeshModel" "messages" "I", .fieldLink RX7 95 "QuayMeshModel" "thrown" "I", .methodLink RX7 99 yX7_in, .static yX7_in, .code yX7_in cX7_in 3 (some .boolean)] ++ wsX70)
def wsX7_moves : List Cond := .code yX7_moves cX7_moves 1 (some .int) :: ([.fieldLink RX7 95 "QuayMeshModel" "thrown" "I", .fieldLink RX7 143 "QuayMeshModel" "logged" "I"] ++ wsX70)
def wsX7_moveAt : List Cond := .code yX7_moveAt cX7_moveAt 2 (some .int) :: ([.fieldLink RX7 143 "QuayMeshModel" "logged" "I", .fieldLink RX7 95 "QuayMeshModel" "thrown" "I", .fieldLink RX7 74 "QuayMeshModel" "log" "[I", .methodLink RX7 99 yX7_in, .static yX7_in, .initialized RX7, .code yX7_in cX7_in 3 (some .boolean)] ++ wsX70)
def wsX7_unheard : List Cond := .code yX7_unheard cX7_unheard 1 (some .int) :: ([.fieldLink RX7 95 "QuayMeshModel" "thrown" "I", .fieldLink RX7 146 "QuayMeshModel" "moves" "I", .fieldLink RX7 143 "QuayMeshModel" "logged" "I"] ++ wsX70)
def wsJ9_max_7cf53 : List Cond := .code yJ9_max_7cf53 cJ9_max_7cf53 2 (some .int) :: ([])
def wsJ9_min_7cf53 : List Cond := .code yJ9_min_7cf53 cJ9_min_7cf53 2 (some .int) :: ([])
abbrev vwCl : List vw_C := [(RJx4a65c, TJx4a65c, 3), (RX0, TX0, 8), (RX1, TX1, 8), (RX2, TX2, 7), (RX3, TX3, 3), (RX4, TX4, 8), (RX6, TX6, 8), (RX7, TX7, 35)]
/-! ===== END printed: names ===== -/
end
section
set_option maxRecDepth 20000 in
theorem ggX1_init_X5_init : GoodIn wsX1_init wsX5_init := goodIn_r _ [5, 6, 7, 8, 9, 10, 11, 12, 13, 14, 15, 16, 17, 18, 19, 20, 21, 22, 23, 24, 25, 26, 27, 28, 29, 30, 31, 32, 33, 42, 43, 44, 34, 35, 36, 37, 38, 39, 40, 41, 45, 46, 47, 48, 49, 50, 51, 52] (by decide +kernel) (by decide +kernel)
set_option maxRecDepth 20000 in
theorem gX1_init_X5_init : GoodIn wsX1_init (wsX5_init) := ggX1_init_X5_init
set_option maxRecDepth 20000 in
theorem ggX4_init_X5_init : GoodIn wsX4_init wsX5_init := goodIn_r _ [5, 6, 7, 8, 9, 10, 11, 12, 13, 14, 15, 16, 17, 18, 19, 20, 21, 22, 23, 24, 25, 26, 27, 28, 29, 30, 31, 32, 33, 42, 43, 44, 45, 46, 47, 48, 49, 50, 51, 52, 34, 35, 36, 37, 38, 39, 40, 41] (by decide +kernel) (by decide +kernel)
set_option maxRecDepth 20000 in
theorem gX4_init_X5_init : GoodIn wsX4_init (wsX5_init) := ggX4_init_X5_init
set_option maxRecDepth 20000 in
theorem ggX5_init_Jx4a65c_init_da8c8 : GoodIn wsX5_init wsJx4a65c_init_da8c8 := goodIn_r _ [16, 17, 18, 19, 20, 21, 22, 23, 24, 25, 26, 27, 28, 2, 3, 29, 30, 31] (by decide +kernel) (by decide +kernel)
set_option maxRecDepth 20000 in
theorem gX5_init_Jx4a65c_init_da8c8 : GoodIn wsX5_init (wsJx4a65c_init_da8c8) := ggX5_init_Jx4a65c_init_da8c8
set_option maxRecDepth 20000 in
theorem ggX5_takeOut_X6_indexOf : GoodIn wsX5_takeOut wsX6_indexOf := goodIn_r _ [4, 5, 6, 7, 8, 9, 10, 11, 12, 13, 14, 15, 16, 17, 18, 19, 20, 21, 22, 23, 24, 25, 26, 27, 58, 59, 60] (by decide +kernel) (by decide +kernel)
set_option maxRecDepth 20000 in
theorem gX5_takeOut_X6_indexOf_n39 : GoodIn wsX5_takeOut (wsX6_indexOf) := ggX5_takeOut_X6_indexOf
set_option maxRecDepth 20000 in
theorem ggX5_takeOut_Jx4a65c_remove_915e3 : GoodIn wsX5_takeOut wsJx4a65c_remove_915e3 := goodIn_r _ [31, 10, 27, 15, 16, 17, 18, 19, 20, 21, 22, 32, 33, 34, 8, 35, 36, 37, 38, 39, 40, 41, 58, 59, 60] (by decide +kernel) (by decide +kernel)
set_option maxRecDepth 20000 in
theorem gX5_takeOut_Jx4a65c_remove_915e3 : GoodIn wsX5_takeOut (wsV RX5 43 RJx4a65c yJx4a65c_remove_915e3 wsJx4a65c_remove_915e3) := goodIn_app (goodIn_of _ (by decide +kernel)) ggX5_takeOut_Jx4a65c_remove_915e3
set_option maxRecDepth 20000 in
theorem ggX5_putLast_X5_takeOut : GoodIn wsX5_putLast wsX5_takeOut := goodIn_r _ [7, 1, 8, 9, 10, 11, 12, 13, 14, 15, 16, 17, 18, 19, 20, 21, 22, 23, 24, 25, 26, 27, 28, 29, 30, 31, 32, 33, 34, 35, 36, 37, 38, 39, 40, 41, 42, 43, 44, 45, 46, 47, 97, 98, 99, 100, 101, 102, 103, 104, 105, 106, 107, 108, 109, 110, 111, 112, 113, 114, 115] (by decide +kernel) (by decide +kernel)
set_option maxRecDepth 20000 in
theorem gX5_putLast_X5_takeOut_u47X1 : GoodIn wsX5_putLast (va_wsU RX5 47 RX1 "QuayMesh$Worker" ⟨"QuayMesh$Worker", "takeOut", "(LQuayMesh$Message;)V"⟩ yX5_takeOut wsX5_takeOut) := goodIn_app (goodIn_of _ (by decide +kernel)) ggX5_putLast_X5_takeOut
set_option maxRecDepth 20000 in
theorem gX5_putLast_X5_takeOut_u47X4 : GoodIn wsX5_putLast (va_wsU RX5 47 RX4 "QuayMesh$Worker" ⟨"QuayMesh$Worker", "takeOut", "(LQuayMesh$Message;)V"⟩ yX5_takeOut wsX5_takeOut) := goodIn_app (goodIn_of _ (by decide +kernel)) ggX5_putLast_X5_takeOut
set_option maxRecDepth 20000 in
theorem ggX5_putLast_Jx4a65c_add_9ea2d : GoodIn wsX5_putLast wsJx4a65c_add_9ea2d := goodIn_r _ [52, 42, 43, 33, 16, 53, 54, 55, 14, 56, 57, 58, 59, 60, 61, 62, 63, 64, 65, 66, 67, 68, 69, 70, 71, 72, 73, 74, 75, 76, 77, 78, 79, 80, 81, 82, 83, 84, 85, 86, 87, 88, 89, 90, 91, 92, 93, 94, 95, 96, 45, 46, 47, 113, 114, 115] (by decide +kernel) (by decide +kernel)
set_option maxRecDepth 20000 in
theorem gX5_putLast_Jx4a65c_add_9ea2d : GoodIn wsX5_putLast (wsV RX5 51 RJx4a65c yJx4a65c_add_9ea2d wsJx4a65c_add_9ea2d) := goodIn_app (goodIn_of _ (by decide +kernel)) ggX5_putLast_Jx4a65c_add_9ea2d
set_option maxRecDepth 20000 in
theorem ggX6_init_Jx4a65c_init_da8c8 : GoodIn wsX6_init wsJx4a65c_init_da8c8 := goodIn_r _ [23, 24, 25, 26, 27, 28, 29, 30, 31, 32, 33, 34, 35, 2, 3, 112, 113, 114] (by decide +kernel) (by decide +kernel)
set_option maxRecDepth 20000 in
theorem gX6_init_Jx4a65c_init_da8c8 : GoodIn wsX6_init (wsJx4a65c_init_da8c8) := ggX6_init_Jx4a65c_init_da8c8
set_option maxRecDepth 20000 in
theorem ggX6_init_X1_init : GoodIn wsX6_init wsX1_init := goodIn_r _ [38, 39, 40, 41, 42, 43, 44, 2, 3, 45, 5, 6, 46, 47, 48, 49, 50, 51, 52, 53, 22, 23, 24, 25, 26, 27, 28, 29, 30, 31, 32, 33, 34, 35, 123, 124, 125, 126, 127, 128, 129, 130, 112, 113, 114, 131, 132, 133, 134, 135, 136, 137, 138] (by decide +kernel) (by decide +kernel)
set_option maxRecDepth 20000 in
theorem gX6_init_X1_init : GoodIn wsX6_init (wsX1_init) := ggX6_init_X1_init
set_option maxRecDepth 20000 in
theorem ggX6_init_Jx4a65c_add_9ea2d : GoodIn wsX6_init wsJx4a65c_add_9ea2d := goodIn_r _ [57, 58, 59, 25, 60, 61, 62, 63, 6, 64, 65, 66, 67, 68, 69, 70, 71, 72, 24, 73, 74, 75, 76, 77, 78, 79, 80, 81, 82, 83, 84, 85, 86, 87, 88, 89, 90, 91, 92, 93, 94, 95, 96, 97, 98, 99, 100, 101, 102, 103, 104, 105, 106, 112, 113, 114] (by decide +kernel) (by decide +kernel)
set_option maxRecDepth 20000 in
theorem gX6_init_Jx4a65c_add_9ea2d : GoodIn wsX6_init (wsV RX6 43 RJx4a65c yJx4a65c_add_9ea2d wsJx4a65c_add_9ea2d) := goodIn_app (goodIn_of _ (by decide +kernel)) ggX6_init_Jx4a65c_add_9ea2d
set_option maxRecDepth 20000 in
theorem ggX6_init_X4_init : GoodIn wsX6_init wsX4_init := goodIn_r _ [109, 110, 111, 41, 42, 43, 44, 2, 3, 45, 5, 6, 46, 47, 48, 49, 50, 51, 52, 53, 22, 23, 24, 25, 26, 27, 28, 29, 30, 31, 32, 33, 34, 35, 131, 132, 133, 134, 135, 136, 137, 138, 112, 113, 114, 123, 124, 125, 126, 127, 128, 129, 130] (by decide +kernel) (by decide +kernel)
set_option maxRecDepth 20000 in
theorem gX6_init_X4_init : GoodIn wsX6_init (wsX4_init) := ggX6_init_X4_init
set_option maxRecDepth 20000 in
theorem ggX6_berth_X6_requireOneOf : GoodIn wsX6_berth wsX6_requireOneOf := goodIn_ca (goodIn_r _ [12, 13, 14] (by decide +kernel) (by decide +kernel)) (goodIn_sub (fun _ h => List.mem_cons_of_mem _ (List.mem_append_right _ h)) (by decide +kernel))
set_option maxRecDepth 20000 in
theorem gX6_berth_X6_requireOneOf : GoodIn wsX6_berth (va_wsS RX6 52 yX6_requireOneOf wsX6_requireOneOf) := goodIn_app (goodIn_of _ (by decide +kernel)) ggX6_berth_X6_requireOneOf
set_option maxRecDepth 20000 in
theorem ggX6_berth_Jx4a65c_size_8abf5 : GoodIn wsX6_berth wsJx4a65c_size_8abf5 := goodIn_r _ [19, 20, 119, 120, 121] (by decide +kernel) (by decide +kernel)
set_option maxRecDepth 20000 in
theorem gX6_berth_Jx4a65c_size_8abf5 : GoodIn wsX6_berth (wsV RX6 62 RJx4a65c yJx4a65c_size_8abf5 wsJx4a65c_size_8abf5) := goodIn_app (goodIn_of _ (by decide +kernel)) ggX6_berth_Jx4a65c_size_8abf5
set_option maxRecDepth 20000 in
theorem ggX6_berth_X6_isTaken : GoodIn wsX6_berth wsX6_isTaken := goodIn_r _ [24, 5, 25, 26, 27, 28, 15, 16, 17, 18, 19, 20, 29, 30, 31, 32, 33, 34, 35, 36, 37, 38, 39, 40, 41, 42, 43, 44, 45, 108, 109, 110, 111, 112, 113, 114, 115, 116, 117, 118, 119, 120, 121] (by decide +kernel) (by decide +kernel)
set_option maxRecDepth 20000 in
theorem gX6_berth_X6_isTaken : GoodIn wsX6_berth (wsV RX6 66 RX6 yX6_isTaken wsX6_isTaken) := goodIn_app (goodIn_of _ (by decide +kernel)) ggX6_berth_X6_isTaken
set_option maxRecDepth 20000 in
theorem ggX6_berth_X3_init : GoodIn wsX6_berth wsX3_init := goodIn_r _ [48, 49, 50, 51, 52, 53, 54, 116, 117, 118] (by decide +kernel) (by decide +kernel)
set_option maxRecDepth 20000 in
theorem gX6_berth_X3_init : GoodIn wsX6_berth (wsX3_init) := ggX6_berth_X3_init
set_option maxRecDepth 20000 in
theorem ggX6_berth_Jx4a65c_add_9ea2d : GoodIn wsX6_berth wsJx4a65c_add_9ea2d := goodIn_r _ [58, 59, 60, 45, 20, 61, 62, 63, 18, 64, 65, 66, 67, 68, 69, 70, 71, 72, 73, 74, 75, 76, 77, 78, 79, 80, 81, 82, 83, 84, 85, 86, 87, 88, 89, 90, 91, 92, 93, 94, 95, 96, 97, 98, 99, 100, 101, 102, 103, 104, 105, 106, 107, 119, 120, 121] (by decide +kernel) (by decide +kernel)
set_option maxRecDepth 20000 in
theorem gX6_berth_Jx4a65c_add_9ea2d : GoodIn wsX6_berth (wsV RX6 43 RJx4a65c yJx4a65c_add_9ea2d wsJx4a65c_add_9ea2d) := goodIn_app (goodIn_of _ (by decide +kernel)) ggX6_berth_Jx4a65c_add_9ea2d
set_option maxRecDepth 20000 in
theorem ggX6_box_X6_shipNumbered : GoodIn wsX6_box wsX6_shipNumbered := goodIn_ca (goodIn_r _ [15, 16, 17, 18, 19, 20, 21, 22, 23, 24, 25, 26, 27, 28, 14, 29, 30, 31, 32, 33, 34, 35, 36, 37, 38, 39, 40, 41, 42, 43, 44, 45, 46, 117, 118, 119, 120, 121, 122, 123, 124, 114, 115, 116, 133, 134, 135] (by decide +kernel) (by decide +kernel)) (goodIn_sub (fun _ h => List.mem_cons_of_mem _ (List.mem_append_right _ h)) (by decide +kernel))
set_option maxRecDepth 20000 in
theorem gX6_box_X6_shipNumbered : GoodIn wsX6_box (wsV RX6 78 RX6 yX6_shipNumbered wsX6_shipNumbered) := goodIn_app (goodIn_of _ (by decide +kernel)) ggX6_box_X6_shipNumbered
set_option maxRecDepth 20000 in
theorem ggX6_box_Jx4a65c_size_8abf5 : GoodIn wsX6_box wsJx4a65c_size_8abf5 := goodIn_r _ [25, 26, 133, 134, 135] (by decide +kernel) (by decide +kernel)
set_option maxRecDepth 20000 in
theorem gX6_box_Jx4a65c_size_8abf5 : GoodIn wsX6_box (wsV RX6 62 RJx4a65c yJx4a65c_size_8abf5 wsJx4a65c_size_8abf5) := goodIn_app (goodIn_of _ (by decide +kernel)) ggX6_box_Jx4a65c_size_8abf5
set_option maxRecDepth 20000 in
theorem ggX6_box_X0_init : GoodIn wsX6_box wsX0_init := goodIn_r _ [49, 50, 51, 52, 53, 54, 55, 56, 57, 58, 59, 60, 125, 126, 127, 128, 129, 130, 131, 132] (by decide +kernel) (by decide +kernel)
set_option maxRecDepth 20000 in
theorem gX6_box_X0_init : GoodIn wsX6_box (wsX0_init) := ggX6_box_X0_init
set_option maxRecDepth 20000 in
theorem ggX6_box_Jx4a65c_add_9ea2d : GoodIn wsX6_box wsJx4a65c_add_9ea2d := goodIn_r _ [64, 65, 66, 46, 26, 67, 68, 69, 24, 70, 71, 72, 73, 74, 75, 76, 77, 78, 79, 80, 81, 82, 83, 84, 85, 86, 87, 88, 89, 90, 91, 92, 93, 94, 95, 96, 97, 98, 99, 100, 101, 102, 103, 104, 105, 106, 107, 108, 109, 110, 111, 112, 113, 133, 134, 135] (by decide +kernel) (by decide +kernel)
set_option maxRecDepth 20000 in
theorem gX6_box_Jx4a65c_add_9ea2d : GoodIn wsX6_box (wsV RX6 43 RJx4a65c yJx4a65c_add_9ea2d wsJx4a65c_add_9ea2d) := goodIn_app (goodIn_of _ (by decide +kernel)) ggX6_box_Jx4a65c_add_9ea2d
set_option maxRecDepth 20000 in
theorem ggX6_leave_X6_shipNumbered : GoodIn wsX6_leave wsX6_shipNumbered := goodIn_ca (goodIn_r _ [12, 13, 14, 15, 16, 7, 17, 18, 19, 20, 21, 22, 23, 24, 11, 25, 26, 27, 28, 29, 30, 31, 32, 33, 34, 35, 36, 37, 38, 39, 40, 41, 42, 43, 44, 45, 46, 47, 48, 49, 50, 59, 60, 61, 62, 63, 64] (by decide +kernel) (by decide +kernel)) (goodIn_sub (fun _ h => List.mem_cons_of_mem _ (List.mem_append_right _ h)) (by decide +kernel))
set_option maxRecDepth 20000 in
theorem gX6_leave_X6_shipNumbered : GoodIn wsX6_leave (wsV RX6 78 RX6 yX6_shipNumbered wsX6_shipNumbered) := goodIn_app (goodIn_of _ (by decide +kernel)) ggX6_leave_X6_shipNumbered
set_option maxRecDepth 20000 in
theorem ggX6_leave_Jx4a65c_size_8abf5 : GoodIn wsX6_leave wsJx4a65c_size_8abf5 := goodIn_r _ [21, 22, 62, 63, 64] (by decide +kernel) (by decide +kernel)
set_option maxRecDepth 20000 in
theorem gX6_leave_Jx4a65c_size_8abf5 : GoodIn wsX6_leave (wsV RX6 62 RJx4a65c yJx4a65c_size_8abf5 wsJx4a65c_size_8abf5) := goodIn_app (goodIn_of _ (by decide +kernel)) ggX6_leave_Jx4a65c_size_8abf5
set_option maxRecDepth 20000 in
theorem ggX6_leave_Jx4a65c_get_915e3 : GoodIn wsX6_leave wsJx4a65c_get_915e3 := goodIn_r _ [29, 22, 30, 31, 32, 33, 34, 35, 36, 37, 38, 39, 40, 20, 41, 42, 62, 63, 64] (by decide +kernel) (by decide +kernel)
set_option maxRecDepth 20000 in
theorem gX6_leave_Jx4a65c_get_915e3 : GoodIn wsX6_leave (wsV RX6 97 RJx4a65c yJx4a65c_get_915e3 wsJx4a65c_get_915e3) := goodIn_app (goodIn_of _ (by decide +kernel)) ggX6_leave_Jx4a65c_get_915e3
set_option maxRecDepth 20000 in
theorem ggX6_isTaken_Jx4a65c_size_8abf5 : GoodIn wsX6_isTaken wsJx4a65c_size_8abf5 := goodIn_r _ [10, 11, 40, 41, 42] (by decide +kernel) (by decide +kernel)
set_option maxRecDepth 20000 in
theorem gX6_isTaken_Jx4a65c_size_8abf5 : GoodIn wsX6_isTaken (wsV RX6 62 RJx4a65c yJx4a65c_size_8abf5 wsJx4a65c_size_8abf5) := goodIn_app (goodIn_of _ (by decide +kernel)) ggX6_isTaken_Jx4a65c_size_8abf5
set_option maxRecDepth 20000 in
theorem ggX6_isTaken_Jx4a65c_get_915e3 : GoodIn wsX6_isTaken wsJx4a65c_get_915e3 := goodIn_r _ [15, 11, 16, 17, 18, 19, 20, 21, 22, 23, 24, 25, 26, 9, 27, 28, 40, 41, 42] (by decide +kernel) (by decide +kernel)
set_option maxRecDepth 20000 in
theorem gX6_isTaken_Jx4a65c_get_915e3 : GoodIn wsX6_isTaken (wsV RX6 97 RJx4a65c yJx4a65c_get_915e3 wsJx4a65c_get_915e3) := goodIn_app (goodIn_of _ (by decide +kernel)) ggX6_isTaken_Jx4a65c_get_915e3
set_option maxRecDepth 20000 in
theorem ggX6_send_X6_boxNumbered : GoodIn wsX6_send wsX6_boxNumbered := goodIn_ca (goodIn_r _ [17, 18, 19, 20, 21, 22, 23, 24, 25, 26, 27, 16, 28, 3, 4, 29, 30, 31, 32, 33, 34, 35, 36, 37, 38, 39, 40, 41, 42, 43, 44, 45, 139, 140, 141, 142, 143, 144, 145, 146, 170, 171, 172] (by decide +kernel) (by decide +kernel)) (goodIn_sub (fun _ h => List.mem_cons_of_mem _ (List.mem_append_left _ (List.mem_append_right _ h))) (by decide +kernel))
set_option maxRecDepth 20000 in
theorem gX6_send_X6_boxNumbered : GoodIn wsX6_send (wsV RX6 116 RX6 yX6_boxNumbered wsX6_boxNumbered) := goodIn_app (goodIn_of _ (by decide +kernel)) ggX6_send_X6_boxNumbered
set_option maxRecDepth 20000 in
theorem ggX6_send_X6_targetsOf : GoodIn wsX6_send wsX6_targetsOf := goodIn_r _ [48] (by decide +kernel) (by decide +kernel)
set_option maxRecDepth 20000 in
theorem gX6_send_X6_targetsOf : GoodIn wsX6_send (va_wsS RX6 120 yX6_targetsOf wsX6_targetsOf) := goodIn_app (goodIn_of _ (by decide +kernel)) ggX6_send_X6_targetsOf
set_option maxRecDepth 20000 in
theorem ggX6_send_X6_requireOneOf : GoodIn wsX6_send wsX6_requireOneOf := goodIn_ca (goodIn_r _ [28, 3, 4] (by decide +kernel) (by decide +kernel)) (goodIn_sub (fun _ h => List.mem_cons_of_mem _ (List.mem_append_left _ (List.mem_append_right _ h))) (by decide +kernel))
set_option maxRecDepth 20000 in
theorem gX6_send_X6_requireOneOf : GoodIn wsX6_send (va_wsS RX6 52 yX6_requireOneOf wsX6_requireOneOf) := goodIn_app (goodIn_of _ (by decide +kernel)) ggX6_send_X6_requireOneOf
set_option maxRecDepth 20000 in
theorem ggX6_send_X6_isFor : GoodIn wsX6_send wsX6_isFor := goodIn_r _ [51] (by decide +kernel) (by decide +kernel)
set_option maxRecDepth 20000 in
theorem gX6_send_X6_isFor : GoodIn wsX6_send (va_wsS RX6 124 yX6_isFor wsX6_isFor) := goodIn_app (goodIn_of _ (by decide +kernel)) ggX6_send_X6_isFor
set_option maxRecDepth 20000 in
theorem ggX6_send_X6_leastBusyFor : GoodIn wsX6_send wsX6_leastBusyFor := goodIn_ca (goodIn_r _ [55, 56, 11, 57, 58, 59, 16, 60, 61, 62, 63, 64, 65, 66, 20, 21, 22, 23, 24, 25, 26, 27, 28, 3, 4, 29, 30, 31, 32, 33, 34, 35, 36, 37, 38, 39, 40, 41, 42, 43, 44, 45, 67, 68, 69, 70, 71, 72, 49, 50, 51, 154, 155, 156, 157, 158, 159, 160, 161, 162, 163, 164, 165, 166, 167, 168, 169, 139, 140, 141, 142, 143, 144, 145, 146, 170, 171, 172] (by decide +kernel) (by decide +kernel)) (goodIn_sub (fun _ h => List.mem_cons_of_mem _ (List.mem_append_left _ (List.mem_append_right _ h))) (by decide +kernel))
set_option maxRecDepth 20000 in
theorem gX6_send_X6_leastBusyFor : GoodIn wsX6_send (wsV RX6 132 RX6 yX6_leastBusyFor wsX6_leastBusyFor) := goodIn_app (goodIn_of _ (by decide +kernel)) ggX6_send_X6_leastBusyFor
set_option maxRecDepth 20000 in
theorem ggX6_send_X6_workerNumbered : GoodIn wsX6_send wsX6_workerNumbered := goodIn_ca (goodIn_r _ [60, 61, 62, 63, 16, 64, 65, 66, 20, 21, 22, 23, 24, 25, 26, 27, 28, 3, 4, 29, 30, 31, 32, 33, 34, 35, 36, 37, 38, 39, 40, 41, 42, 43, 44, 45, 67, 68, 69, 70, 71, 72, 139, 140, 141, 142, 143, 144, 145, 146, 170, 171, 172] (by decide +kernel) (by decide +kernel)) (goodIn_sub (fun _ h => List.mem_cons_of_mem _ (List.mem_append_left _ (List.mem_append_right _ h))) (by decide +kernel))
set_option maxRecDepth 20000 in
theorem gX6_send_X6_workerNumbered : GoodIn wsX6_send (wsV RX6 136 RX6 yX6_workerNumbered wsX6_workerNumbered) := goodIn_app (goodIn_of _ (by decide +kernel)) ggX6_send_X6_workerNumbered
set_option maxRecDepth 20000 in
theorem ggX6_send_Jx4a65c_size_8abf5 : GoodIn wsX6_send wsJx4a65c_size_8abf5 := goodIn_r _ [24, 25, 170, 171, 172] (by decide +kernel) (by decide +kernel)
set_option maxRecDepth 20000 in
theorem gX6_send_Jx4a65c_size_8abf5 : GoodIn wsX6_send (wsV RX6 62 RJx4a65c yJx4a65c_size_8abf5 wsJx4a65c_size_8abf5) := goodIn_app (goodIn_of _ (by decide +kernel)) ggX6_send_Jx4a65c_size_8abf5
set_option maxRecDepth 20000 in
theorem ggX6_send_X2_init : GoodIn wsX6_send wsX2_init := goodIn_r _ [75, 76, 77, 78, 79, 80, 81, 82, 83, 84, 85, 147, 148, 149, 150, 151, 152, 153] (by decide +kernel) (by decide +kernel)
set_option maxRecDepth 20000 in
theorem gX6_send_X2_init : GoodIn wsX6_send (wsX2_init) := ggX6_send_X2_init
set_option maxRecDepth 20000 in
theorem ggX6_send_Jx4a65c_add_9ea2d : GoodIn wsX6_send wsJx4a65c_add_9ea2d := goodIn_r _ [89, 90, 91, 45, 25, 92, 93, 94, 23, 95, 96, 97, 98, 99, 100, 101, 102, 103, 104, 105, 106, 107, 108, 109, 110, 111, 112, 113, 114, 115, 116, 117, 118, 119, 120, 121, 122, 123, 124, 125, 126, 127, 128, 129, 130, 131, 132, 133, 134, 135, 136, 137, 138, 170, 171, 172] (by decide +kernel) (by decide +kernel)
set_option maxRecDepth 20000 in
theorem gX6_send_Jx4a65c_add_9ea2d : GoodIn wsX6_send (wsV RX6 43 RJx4a65c yJx4a65c_add_9ea2d wsJx4a65c_add_9ea2d) := goodIn_app (goodIn_of _ (by decide +kernel)) ggX6_send_Jx4a65c_add_9ea2d
set_option maxRecDepth 20000 in
theorem ggX6_deliver_X6_workerNumbered : GoodIn wsX6_deliver wsX6_workerNumbered := goodIn_ca (goodIn_r _ [8, 9, 10, 11, 7, 12, 13, 14, 15, 16, 17, 18, 19, 20, 21, 22, 23, 24, 25, 26, 27, 28, 29, 30, 31, 32, 33, 34, 35, 36, 37, 38, 39, 40, 41, 42, 43, 44, 45, 46, 47, 48, 220, 221, 222, 223, 224, 225, 226, 227, 228, 229, 230] (by decide +kernel) (by decide +kernel)) (goodIn_sub (fun _ h => List.mem_cons_of_mem _ (List.mem_append_right _ h)) (by decide +kernel))
set_option maxRecDepth 20000 in
theorem gX6_deliver_X6_workerNumbered : GoodIn wsX6_deliver (wsV RX6 136 RX6 yX6_workerNumbered wsX6_workerNumbered) := goodIn_app (goodIn_of _ (by decide +kernel)) ggX6_deliver_X6_workerNumbered
set_option maxRecDepth 20000 in
theorem ggX6_deliver_Jx4a65c_isEmpty_aae02 : GoodIn wsX6_deliver wsJx4a65c_isEmpty_aae02 := goodIn_r _ [52, 20, 228, 229, 230] (by decide +kernel) (by decide +kernel)
set_option maxRecDepth 20000 in
theorem gX6_deliver_Jx4a65c_isEmpty_aae02 : GoodIn wsX6_deliver (wsV RX6 154 RJx4a65c yJx4a65c_isEmpty_aae02 wsJx4a65c_isEmpty_aae02) := goodIn_app (goodIn_of _ (by decide +kernel)) ggX6_deliver_Jx4a65c_isEmpty_aae02
set_option maxRecDepth 20000 in
theorem ggX6_deliver_Jx4a65c_get_915e3 : GoodIn wsX6_deliver wsJx4a65c_get_915e3 := goodIn_r _ [29, 20, 30, 31, 32, 33, 34, 35, 36, 37, 38, 39, 40, 18, 41, 42, 228, 229, 230] (by decide +kernel) (by decide +kernel)
set_option maxRecDepth 20000 in
theorem gX6_deliver_Jx4a65c_get_915e3 : GoodIn wsX6_deliver (wsV RX6 97 RJx4a65c yJx4a65c_get_915e3 wsJx4a65c_get_915e3) := goodIn_app (goodIn_of _ (by decide +kernel)) ggX6_deliver_Jx4a65c_get_915e3
set_option maxRecDepth 20000 in
theorem ggX6_deliver_X6_handOver : GoodIn wsX6_deliver wsX6_handOver := goodIn_ca (goodIn_r _ [56, 57, 58, 59, 60, 61, 62, 63, 7, 64, 15, 16, 17, 18, 19, 20, 26, 27, 28, 29, 30, 31, 32, 33, 34, 35, 36, 37, 38, 39, 40, 41, 42, 65, 66, 67, 68, 69, 70, 71, 72, 73, 74, 75, 76, 77, 78, 79, 80, 81, 82, 83, 84, 85, 86, 87, 88, 89, 90, 91, 92, 93, 94, 95, 96, 97, 98, 99, 100, 101, 102, 103, 104, 105, 106, 107, 108, 109, 110, 111, 112, 113, 114, 115, 116, 117, 118, 119, 120, 121, 122, 123, 124, 125, 126, 127, 128, 129, 130, 131, 132, 133, 134, 135, 136, 137, 138, 139, 140, 141, 142, 143, 144, 145, 146, 147, 148, 9, 10, 11, 12, 13, 14, 21, 22, 23, 24, 25, 149, 150, 151, 152, 153, 154, 155, 156, 157, 158, 159, 160, 161, 162, 163, 164, 165, 166, 167, 168, 169, 170, 171, 172, 173, 174, 175, 176, 177, 178, 179, 180, 181, 182, 183, 184, 185, 186, 187, 188, 43, 44, 45, 46, 47, 48, 197, 198, 199, 200, 201, 202, 203, 204, 205, 206, 207, 208, 209, 210, 211, 212, 228, 229, 230, 213, 214, 215, 216, 217, 218, 219, 220, 221, 222, 223, 224, 225, 226, 227, 231, 232, 233, 234, 235, 236, 237, 238] (by decide +kernel) (by decide +kernel)) (goodIn_sub (fun _ h => List.mem_cons_of_mem _ (List.mem_append_right _ h)) (by decide +kernel))
set_option maxRecDepth 20000 in
theorem gX6_deliver_X6_handOver : GoodIn wsX6_deliver (wsV RX6 161 RX6 yX6_handOver wsX6_handOver) := goodIn_app (goodIn_of _ (by decide +kernel)) ggX6_deliver_X6_handOver
set_option maxRecDepth 20000 in
theorem ggX6_deliver_X5_putLast : GoodIn wsX6_deliver wsX5_putLast := goodIn_r _ [193, 79, 194, 74, 75, 76, 77, 78, 63, 7, 64, 15, 16, 17, 18, 19, 20, 26, 27, 28, 29, 30, 31, 32, 33, 34, 35, 36, 37, 38, 39, 40, 41, 42, 80, 81, 82, 83, 84, 85, 86, 87, 88, 89, 90, 91, 92, 93, 94, 195, 102, 103, 104, 105, 106, 107, 108, 109, 110, 111, 112, 113, 114, 115, 116, 117, 118, 119, 120, 121, 122, 123, 124, 125, 126, 127, 128, 129, 130, 131, 132, 133, 134, 135, 136, 137, 138, 139, 140, 141, 142, 143, 144, 145, 146, 147, 148, 197, 198, 199, 200, 201, 202, 203, 204, 205, 206, 207, 208, 209, 210, 211, 212, 228, 229, 230] (by decide +kernel) (by decide +kernel)
set_option maxRecDepth 20000 in
theorem gX6_deliver_X5_putLast_u165X1 : GoodIn wsX6_deliver (va_wsU RX6 165 RX1 "QuayMesh$Worker" ⟨"QuayMesh$Worker", "putLast", "(LQuayMesh$Message;)V"⟩ yX5_putLast wsX5_putLast) := goodIn_app (goodIn_of _ (by decide +kernel)) ggX6_deliver_X5_putLast
set_option maxRecDepth 20000 in
theorem gX6_deliver_X5_putLast_u165X4 : GoodIn wsX6_deliver (va_wsU RX6 165 RX4 "QuayMesh$Worker" ⟨"QuayMesh$Worker", "putLast", "(LQuayMesh$Message;)V"⟩ yX5_putLast wsX5_putLast) := goodIn_app (goodIn_of _ (by decide +kernel)) ggX6_deliver_X5_putLast
set_option maxRecDepth 20000 in
theorem ggX6_act_X6_truckNumbered : GoodIn wsX6_act wsX6_truckNumbered := goodIn_ca (goodIn_r _ [7, 8, 9, 10, 11, 12, 13, 14, 15, 16, 17, 18, 19, 20, 21, 22, 23, 24, 25, 26, 27, 28, 29, 30, 31, 32, 33, 34, 200, 201, 202, 203, 204, 205, 206, 207, 208, 209, 210] (by decide +kernel) (by decide +kernel)) (goodIn_sub (fun _ h => List.mem_cons_of_mem _ (List.mem_append_right _ h)) (by decide +kernel))
set_option maxRecDepth 20000 in
theorem gX6_act_X6_truckNumbered : GoodIn wsX6_act (wsV RX6 169 RX6 yX6_truckNumbered wsX6_truckNumbered) := goodIn_app (goodIn_of _ (by decide +kernel)) ggX6_act_X6_truckNumbered
set_option maxRecDepth 20000 in
theorem ggX6_act_X6_isNothingToDo : GoodIn wsX6_act wsX6_isNothingToDo := goodIn_r _ [37, 2, 38, 39, 40, 41, 42, 43, 44, 45, 46, 47, 193, 194, 195, 196, 197, 198, 199, 211, 212, 213, 214, 215, 216, 217, 218] (by decide +kernel) (by decide +kernel)
set_option maxRecDepth 20000 in
theorem gX6_act_X6_isNothingToDo : GoodIn wsX6_act (va_wsS RX6 177 yX6_isNothingToDo wsX6_isNothingToDo) := goodIn_app (goodIn_of _ (by decide +kernel)) ggX6_act_X6_isNothingToDo
set_option maxRecDepth 20000 in
theorem ggX6_act_X6_finish : GoodIn wsX6_act wsX6_finish := goodIn_r _ [51, 52, 53, 1, 54, 55, 56, 15, 57, 58, 59, 34, 17, 60, 61, 62, 63, 64, 65, 66, 67, 68, 69, 70, 71, 72, 73, 74, 75, 76, 77, 78, 79, 80, 81, 82, 83, 84, 85, 86, 87, 88, 89, 90, 91, 92, 93, 94, 95, 96, 97, 98, 99, 100, 101, 102, 103, 104, 105, 106, 107, 108, 109, 6, 110, 111, 112, 113, 114, 115, 116, 117, 118, 119, 120, 121, 122, 123, 12, 13, 14, 16, 18, 19, 20, 21, 22, 23, 24, 25, 26, 27, 28, 29, 30, 31, 32, 33, 124, 125, 126, 127, 128, 129, 130, 131, 132, 133, 134, 135, 136, 137, 138, 139, 219, 220, 221, 222, 223, 224, 225, 226, 185, 186, 187, 188, 189, 190, 191, 192, 208, 209, 210, 193, 194, 195, 196, 197, 198, 199, 200, 201, 202, 203, 204, 205, 206, 207] (by decide +kernel) (by decide +kernel)
set_option maxRecDepth 20000 in
theorem gX6_act_X6_finish : GoodIn wsX6_act (wsV RX6 181 RX6 yX6_finish wsX6_finish) := goodIn_app (goodIn_of _ (by decide +kernel)) ggX6_act_X6_finish
set_option maxRecDepth 20000 in
theorem ggX6_act_X0_isAt : GoodIn wsX6_act wsX0_isAt := goodIn_r _ [45, 46, 47, 211, 212, 213, 214, 215, 216, 217, 218] (by decide +kernel) (by decide +kernel)
set_option maxRecDepth 20000 in
theorem gX6_act_X0_isAt : GoodIn wsX6_act (wsV RX6 189 RX0 yX0_isAt wsX0_isAt) := goodIn_app (goodIn_of _ (by decide +kernel)) ggX6_act_X0_isAt
set_option maxRecDepth 20000 in
theorem ggX6_act_X6_canPutDown : GoodIn wsX6_act wsX6_canPutDown := goodIn_r _ [143, 39, 40, 2, 144, 145, 146, 147, 6, 148, 149, 150, 12, 13, 14, 15, 16, 17, 18, 19, 20, 21, 22, 23, 24, 25, 26, 27, 28, 29, 30, 31, 32, 33, 34, 41, 42, 43, 44, 45, 46, 47, 151, 152, 153, 154, 155, 156, 193, 194, 195, 196, 197, 198, 199, 200, 201, 202, 203, 204, 205, 206, 207, 208, 209, 210, 211, 212, 213, 214, 215, 216, 217, 218] (by decide +kernel) (by decide +kernel)
set_option maxRecDepth 20000 in
theorem gX6_act_X6_canPutDown : GoodIn wsX6_act (wsV RX6 192 RX6 yX6_canPutDown wsX6_canPutDown) := goodIn_app (goodIn_of _ (by decide +kernel)) ggX6_act_X6_canPutDown
set_option maxRecDepth 20000 in
theorem ggX6_act_X6_putDown : GoodIn wsX6_act wsX6_putDown := goodIn_r _ [160, 2, 39, 40, 161, 145, 146, 147, 6, 148, 149, 150, 12, 13, 14, 15, 16, 17, 18, 19, 20, 21, 22, 23, 24, 25, 26, 27, 28, 29, 30, 31, 32, 33, 34, 41, 42, 43, 44, 45, 46, 47, 162, 163, 164, 165, 166, 167, 168, 169, 155, 156, 170, 171, 172, 173, 174, 175, 193, 194, 195, 196, 197, 198, 199, 211, 212, 213, 214, 215, 216, 217, 218, 200, 201, 202, 203, 204, 205, 206, 207, 208, 209, 210] (by decide +kernel) (by decide +kernel)
set_option maxRecDepth 20000 in
theorem gX6_act_X6_putDown : GoodIn wsX6_act (wsV RX6 195 RX6 yX6_putDown wsX6_putDown) := goodIn_app (goodIn_of _ (by decide +kernel)) ggX6_act_X6_putDown
set_option maxRecDepth 20000 in
theorem ggX6_act_X6_canTake : GoodIn wsX6_act wsX6_canTake := goodIn_r _ [179, 38, 180, 181, 182, 6, 183, 161, 184, 145, 146, 147, 148, 149, 150, 12, 13, 14, 15, 16, 17, 18, 19, 20, 21, 22, 23, 24, 25, 26, 27, 28, 29, 30, 31, 32, 33, 34, 41, 42, 43, 44, 45, 46, 47, 211, 212, 213, 214, 215, 216, 217, 218, 200, 201, 202, 203, 204, 205, 206, 207, 208, 209, 210] (by decide +kernel) (by decide +kernel)
set_option maxRecDepth 20000 in
theorem gX6_act_X6_canTake : GoodIn wsX6_act (wsV RX6 198 RX6 yX6_canTake wsX6_canTake) := goodIn_app (goodIn_of _ (by decide +kernel)) ggX6_act_X6_canTake
set_option maxRecDepth 20000 in
theorem ggX6_act_X0_bring : GoodIn wsX6_act wsX0_bring := goodIn_r _ [165, 46, 47, 211, 212, 213, 214, 215, 216, 217, 218] (by decide +kernel) (by decide +kernel)
set_option maxRecDepth 20000 in
theorem gX6_act_X0_bring : GoodIn wsX6_act (wsV RX6 202 RX0 yX0_bring wsX0_bring) := goodIn_app (goodIn_of _ (by decide +kernel)) ggX6_act_X0_bring
set_option maxRecDepth 20000 in
theorem ggX6_lose_X6_workerNumbered : GoodIn wsX6_lose wsX6_workerNumbered := goodIn_ca (goodIn_r _ [9, 10, 11, 12, 8, 13, 14, 15, 16, 17, 18, 19, 20, 21, 22, 23, 24, 25, 26, 27, 28, 29, 30, 31, 32, 33, 34, 35, 36, 37, 38, 39, 40, 41, 42, 43, 44, 45, 46, 47, 48, 49, 66, 67, 68, 69, 70, 71, 72, 73, 74, 75, 76] (by decide +kernel) (by decide +kernel)) (goodIn_sub (fun _ h => List.mem_cons_of_mem _ (List.mem_append_right _ h)) (by decide +kernel))
set_option maxRecDepth 20000 in
theorem gX6_lose_X6_workerNumbered : GoodIn wsX6_lose (wsV RX6 136 RX6 yX6_workerNumbered wsX6_workerNumbered) := goodIn_app (goodIn_of _ (by decide +kernel)) ggX6_lose_X6_workerNumbered
set_option maxRecDepth 20000 in
theorem ggX6_repeat_X6_workerNumbered : GoodIn wsX6_repeat wsX6_workerNumbered := goodIn_ca (goodIn_r _ [10, 11, 12, 13, 9, 14, 15, 16, 17, 18, 19, 20, 21, 22, 23, 24, 25, 26, 27, 28, 29, 30, 31, 32, 33, 34, 35, 36, 37, 38, 39, 40, 41, 42, 43, 44, 45, 46, 47, 48, 49, 50, 134, 135, 136, 137, 138, 139, 140, 141, 142, 143, 144] (by decide +kernel) (by decide +kernel)) (goodIn_sub (fun _ h => List.mem_cons_of_mem _ (List.mem_append_right _ h)) (by decide +kernel))
set_option maxRecDepth 20000 in
theorem gX6_repeat_X6_workerNumbered : GoodIn wsX6_repeat (wsV RX6 136 RX6 yX6_workerNumbered wsX6_workerNumbered) := goodIn_app (goodIn_of _ (by decide +kernel)) ggX6_repeat_X6_workerNumbered
set_option maxRecDepth 20000 in
theorem ggX6_repeat_X6_isInAQueue : GoodIn wsX6_repeat wsX6_isInAQueue := goodIn_ca (goodIn_r _ [54, 4, 6, 7, 8, 9, 10, 11, 12, 13, 14, 15, 16, 17, 18, 19, 20, 21, 22, 23, 24, 25, 26, 27, 28, 29, 30, 31, 32, 33, 34, 35, 36, 37, 38, 39, 40, 41, 42, 43, 44, 45, 46, 47, 48, 49, 50, 55, 56, 57, 111, 112, 113, 114, 115, 116, 117, 118, 119, 120, 121, 122, 123, 124, 125, 126, 134, 135, 136, 137, 138, 139, 140, 141, 142, 143, 144] (by decide +kernel) (by decide +kernel)) (goodIn_sub (fun _ h => List.mem_cons_of_mem _ (List.mem_append_right _ h)) (by decide +kernel))
set_option maxRecDepth 20000 in
theorem gX6_repeat_X6_isInAQueue : GoodIn wsX6_repeat (wsV RX6 216 RX6 yX6_isInAQueue wsX6_isInAQueue) := goodIn_app (goodIn_of _ (by decide +kernel)) ggX6_repeat_X6_isInAQueue
set_option maxRecDepth 20000 in
theorem ggX6_repeat_Jx4a65c_add_9ea2d : GoodIn wsX6_repeat wsJx4a65c_add_9ea2d := goodIn_r _ [61, 62, 63, 44, 22, 64, 65, 66, 20, 67, 68, 69, 70, 71, 72, 73, 74, 75, 76, 77, 78, 79, 80, 81, 82, 83, 84, 85, 86, 87, 88, 89, 90, 91, 92, 93, 94, 95, 96, 97, 98, 99, 100, 101, 102, 103, 104, 105, 106, 107, 108, 109, 110, 142, 143, 144] (by decide +kernel) (by decide +kernel)
set_option maxRecDepth 20000 in
theorem gX6_repeat_Jx4a65c_add_9ea2d : GoodIn wsX6_repeat (wsV RX6 43 RJx4a65c yJx4a65c_add_9ea2d wsJx4a65c_add_9ea2d) := goodIn_app (goodIn_of _ (by decide +kernel)) ggX6_repeat_Jx4a65c_add_9ea2d
set_option maxRecDepth 20000 in
theorem ggX6_silence_X6_craneNumbered : GoodIn wsX6_silence wsX6_craneNumbered := goodIn_ca (goodIn_r _ [7, 8, 9, 10, 11, 12, 13, 14, 15, 16, 17, 6, 18, 19, 20, 21, 22, 23, 24, 25, 26, 27, 28, 29, 30, 31, 32, 33, 34, 35, 36, 37, 54, 55, 56, 57, 58, 59, 60, 61, 62, 63, 64] (by decide +kernel) (by decide +kernel)) (goodIn_sub (fun _ h => List.mem_cons_of_mem _ (List.mem_append_right _ h)) (by decide +kernel))
set_option maxRecDepth 20000 in
theorem gX6_silence_X6_craneNumbered : GoodIn wsX6_silence (wsV RX6 221 RX6 yX6_craneNumbered wsX6_craneNumbered) := goodIn_app (goodIn_of _ (by decide +kernel)) ggX6_silence_X6_craneNumbered
set_option maxRecDepth 20000 in
theorem ggX6_giveAway_X6_craneNumbered : GoodIn wsX6_giveAway wsX6_craneNumbered := goodIn_ca (goodIn_r _ [12, 13, 14, 15, 16, 17, 18, 19, 20, 21, 22, 11, 23, 24, 25, 26, 27, 28, 29, 30, 31, 32, 33, 34, 35, 36, 37, 38, 39, 40, 41, 42, 116, 117, 118, 119, 120, 121, 122, 123, 124, 125, 126] (by decide +kernel) (by decide +kernel)) (goodIn_sub (fun _ h => List.mem_cons_of_mem _ (List.mem_append_right _ h)) (by decide +kernel))
set_option maxRecDepth 20000 in
theorem gX6_giveAway_X6_craneNumbered : GoodIn wsX6_giveAway (wsV RX6 221 RX6 yX6_craneNumbered wsX6_craneNumbered) := goodIn_app (goodIn_of _ (by decide +kernel)) ggX6_giveAway_X6_craneNumbered
set_option maxRecDepth 20000 in
theorem ggX6_giveAway_Jx4a65c_size_8abf5 : GoodIn wsX6_giveAway wsJx4a65c_size_8abf5 := goodIn_r _ [19, 20, 124, 125, 126] (by decide +kernel) (by decide +kernel)
set_option maxRecDepth 20000 in
theorem gX6_giveAway_Jx4a65c_size_8abf5 : GoodIn wsX6_giveAway (wsV RX6 62 RJx4a65c yJx4a65c_size_8abf5 wsJx4a65c_size_8abf5) := goodIn_app (goodIn_of _ (by decide +kernel)) ggX6_giveAway_Jx4a65c_size_8abf5
set_option maxRecDepth 20000 in
theorem ggX6_giveAway_Jx4a65c_get_915e3 : GoodIn wsX6_giveAway wsJx4a65c_get_915e3 := goodIn_r _ [29, 20, 30, 31, 32, 33, 34, 35, 36, 37, 38, 39, 40, 18, 41, 42, 124, 125, 126] (by decide +kernel) (by decide +kernel)
set_option maxRecDepth 20000 in
theorem gX6_giveAway_Jx4a65c_get_915e3 : GoodIn wsX6_giveAway (wsV RX6 97 RJx4a65c yJx4a65c_get_915e3 wsJx4a65c_get_915e3) := goodIn_app (goodIn_of _ (by decide +kernel)) ggX6_giveAway_Jx4a65c_get_915e3
set_option maxRecDepth 20000 in
theorem ggX6_giveAway_Jx4a65c_add_9ea2d : GoodIn wsX6_giveAway wsJx4a65c_add_9ea2d := goodIn_r _ [46, 47, 48, 42, 20, 49, 50, 51, 18, 52, 53, 54, 55, 56, 57, 58, 59, 60, 61, 62, 63, 64, 65, 66, 67, 68, 69, 70, 71, 72, 73, 74, 75, 76, 77, 78, 79, 80, 81, 82, 83, 84, 85, 86, 87, 88, 89, 90, 91, 92, 93, 94, 95, 124, 125, 126] (by decide +kernel) (by decide +kernel)
set_option maxRecDepth 20000 in
theorem gX6_giveAway_Jx4a65c_add_9ea2d : GoodIn wsX6_giveAway (wsV RX6 43 RJx4a65c yJx4a65c_add_9ea2d wsJx4a65c_add_9ea2d) := goodIn_app (goodIn_of _ (by decide +kernel)) ggX6_giveAway_Jx4a65c_add_9ea2d
set_option maxRecDepth 20000 in
theorem ggX6_giveAway_Jx4a65c_clear_da8c8 : GoodIn wsX6_giveAway wsJx4a65c_clear_da8c8 := goodIn_r _ [99, 47, 48, 42, 20, 124, 125, 126] (by decide +kernel) (by decide +kernel)
set_option maxRecDepth 20000 in
theorem gX6_giveAway_Jx4a65c_clear_da8c8 : GoodIn wsX6_giveAway (wsV RX6 231 RJx4a65c yJx4a65c_clear_da8c8 wsJx4a65c_clear_da8c8) := goodIn_app (goodIn_of _ (by decide +kernel)) ggX6_giveAway_Jx4a65c_clear_da8c8
set_option maxRecDepth 20000 in
theorem ggX6_park_X6_craneNumbered : GoodIn wsX6_park wsX6_craneNumbered := goodIn_ca (goodIn_r _ [10, 11, 12, 13, 14, 15, 16, 17, 18, 19, 20, 9, 21, 22, 23, 24, 25, 26, 27, 28, 29, 30, 31, 32, 33, 34, 35, 36, 37, 38, 39, 40, 61, 62, 63, 64, 65, 66, 67, 68, 69, 70, 71] (by decide +kernel) (by decide +kernel)) (goodIn_sub (fun _ h => List.mem_cons_of_mem _ (List.mem_append_right _ h)) (by decide +kernel))
set_option maxRecDepth 20000 in
theorem gX6_park_X6_craneNumbered : GoodIn wsX6_park (wsV RX6 221 RX6 yX6_craneNumbered wsX6_craneNumbered) := goodIn_app (goodIn_of _ (by decide +kernel)) ggX6_park_X6_craneNumbered
set_option maxRecDepth 20000 in
theorem ggX6_park_X6_requireOneOf : GoodIn wsX6_park wsX6_requireOneOf := goodIn_ca (goodIn_r _ [21, 22, 23] (by decide +kernel) (by decide +kernel)) (goodIn_sub (fun _ h => List.mem_cons_of_mem _ (List.mem_append_right _ h)) (by decide +kernel))
set_option maxRecDepth 20000 in
theorem gX6_park_X6_requireOneOf : GoodIn wsX6_park (va_wsS RX6 52 yX6_requireOneOf wsX6_requireOneOf) := goodIn_app (goodIn_of _ (by decide +kernel)) ggX6_park_X6_requireOneOf
set_option maxRecDepth 20000 in
theorem ggX6_park_X6_canGo : GoodIn wsX6_park wsX6_canGo := goodIn_ca (goodIn_r _ [44, 5, 6, 7, 8, 9, 10, 11, 12, 13, 14, 15, 16, 17, 18, 19, 20, 21, 22, 23, 24, 25, 26, 27, 28, 29, 30, 31, 32, 33, 34, 35, 36, 37, 38, 39, 40, 45, 46, 47, 48, 49, 50, 51, 52, 61, 62, 63, 64, 65, 66, 67, 68, 69, 70, 71] (by decide +kernel) (by decide +kernel)) (goodIn_sub (fun _ h => List.mem_cons_of_mem _ (List.mem_append_right _ h)) (by decide +kernel))
set_option maxRecDepth 20000 in
theorem gX6_park_X6_canGo : GoodIn wsX6_park (wsV RX6 234 RX6 yX6_canGo wsX6_canGo) := goodIn_app (goodIn_of _ (by decide +kernel)) ggX6_park_X6_canGo
set_option maxRecDepth 20000 in
theorem ggX6_leastBusyFor_X6_workerNumbered : GoodIn wsX6_leastBusyFor wsX6_workerNumbered := goodIn_ca (goodIn_r _ [7, 8, 9, 10, 6, 11, 12, 13, 14, 15, 16, 17, 18, 19, 20, 21, 22, 23, 24, 25, 26, 27, 28, 29, 30, 31, 32, 33, 34, 35, 36, 37, 38, 39, 40, 41, 42, 43, 44, 45, 46, 47, 67, 68, 69, 70, 71, 72, 73, 74, 75, 76, 77] (by decide +kernel) (by decide +kernel)) (goodIn_sub (fun _ h => List.mem_cons_of_mem _ (List.mem_append_right _ h)) (by decide +kernel))
set_option maxRecDepth 20000 in
theorem gX6_leastBusyFor_X6_workerNumbered : GoodIn wsX6_leastBusyFor (wsV RX6 136 RX6 yX6_workerNumbered wsX6_workerNumbered) := goodIn_app (goodIn_of _ (by decide +kernel)) ggX6_leastBusyFor_X6_workerNumbered
set_option maxRecDepth 20000 in
theorem ggX6_leastBusyFor_X6_isFor : GoodIn wsX6_leastBusyFor wsX6_isFor := goodIn_r _ [50] (by decide +kernel) (by decide +kernel)
set_option maxRecDepth 20000 in
theorem gX6_leastBusyFor_X6_isFor : GoodIn wsX6_leastBusyFor (va_wsS RX6 124 yX6_isFor wsX6_isFor) := goodIn_app (goodIn_of _ (by decide +kernel)) ggX6_leastBusyFor_X6_isFor
set_option maxRecDepth 20000 in
theorem ggX6_leastBusyFor_Jx4a65c_size_8abf5 : GoodIn wsX6_leastBusyFor wsJx4a65c_size_8abf5 := goodIn_r _ [18, 19, 75, 76, 77] (by decide +kernel) (by decide +kernel)
set_option maxRecDepth 20000 in
theorem gX6_leastBusyFor_Jx4a65c_size_8abf5 : GoodIn wsX6_leastBusyFor (wsV RX6 62 RJx4a65c yJx4a65c_size_8abf5 wsJx4a65c_size_8abf5) := goodIn_app (goodIn_of _ (by decide +kernel)) ggX6_leastBusyFor_Jx4a65c_size_8abf5
set_option maxRecDepth 20000 in
theorem ggX6_isInAQueue_X6_workerNumbered : GoodIn wsX6_isInAQueue wsX6_workerNumbered := goodIn_ca (goodIn_r _ [6, 7, 8, 9, 5, 10, 11, 12, 13, 14, 15, 16, 17, 18, 19, 20, 21, 22, 23, 24, 25, 26, 27, 28, 29, 30, 31, 32, 33, 34, 35, 36, 37, 38, 39, 40, 41, 42, 43, 44, 45, 46, 66, 67, 68, 69, 70, 71, 72, 73, 74, 75, 76] (by decide +kernel) (by decide +kernel)) (goodIn_sub (fun _ h => List.mem_cons_of_mem _ (List.mem_append_right _ h)) (by decide +kernel))
set_option maxRecDepth 20000 in
theorem gX6_isInAQueue_X6_workerNumbered : GoodIn wsX6_isInAQueue (wsV RX6 136 RX6 yX6_workerNumbered wsX6_workerNumbered) := goodIn_app (goodIn_of _ (by decide +kernel)) ggX6_isInAQueue_X6_workerNumbered
set_option maxRecDepth 20000 in
theorem ggX6_isInAQueue_X6_indexOf : GoodIn wsX6_isInAQueue wsX6_indexOf := goodIn_r _ [49, 13, 14, 15, 16, 17, 18, 24, 25, 26, 27, 28, 29, 30, 31, 32, 33, 34, 35, 36, 37, 38, 39, 40, 74, 75, 76] (by decide +kernel) (by decide +kernel)
set_option maxRecDepth 20000 in
theorem gX6_isInAQueue_X6_indexOf : GoodIn wsX6_isInAQueue (va_wsS RX6 243 yX6_indexOf wsX6_indexOf) := goodIn_app (goodIn_of _ (by decide +kernel)) ggX6_isInAQueue_X6_indexOf
set_option maxRecDepth 20000 in
theorem ggX6_handOver_X6_indexOf : GoodIn wsX6_handOver wsX6_indexOf := goodIn_r _ [9, 10, 11, 12, 13, 14, 15, 16, 17, 18, 19, 20, 21, 22, 23, 24, 25, 26, 27, 28, 29, 30, 31, 32, 190, 191, 192] (by decide +kernel) (by decide +kernel)
set_option maxRecDepth 20000 in
theorem gX6_handOver_X6_indexOf : GoodIn wsX6_handOver (va_wsS RX6 243 yX6_indexOf wsX6_indexOf) := goodIn_app (goodIn_of _ (by decide +kernel)) ggX6_handOver_X6_indexOf
set_option maxRecDepth 20000 in
theorem ggX6_handOver_X6_acknowledge : GoodIn wsX6_handOver wsX6_acknowledge := goodIn_r _ [36, 37, 38, 39, 40, 41, 42, 43, 44, 45, 46, 47, 7, 8, 9, 10, 11, 12, 13, 14, 15, 16, 17, 18, 19, 20, 21, 22, 23, 24, 25, 26, 27, 28, 29, 30, 31, 32, 48, 49, 50, 51, 52, 53, 54, 55, 56, 57, 58, 59, 60, 61, 62, 63, 64, 65, 66, 67, 68, 69, 70, 71, 72, 73, 74, 75, 76, 77, 78, 79, 80, 81, 82, 83, 84, 85, 86, 87, 88, 89, 90, 91, 92, 93, 94, 95, 96, 97, 98, 99, 100, 101, 102, 103, 104, 105, 106, 107, 108, 109, 110, 111, 112, 113, 114, 115, 116, 174, 175, 176, 177, 178, 179, 180, 181, 182, 183, 184, 185, 186, 187, 188, 189, 193, 194, 195, 196, 197, 198, 199, 200, 201, 202, 203, 204, 205, 206, 207, 190, 191, 192] (by decide +kernel) (by decide +kernel)
set_option maxRecDepth 20000 in
theorem gX6_handOver_X6_acknowledge : GoodIn wsX6_handOver (wsV RX6 250 RX6 yX6_acknowledge wsX6_acknowledge) := goodIn_app (goodIn_of _ (by decide +kernel)) ggX6_handOver_X6_acknowledge
set_option maxRecDepth 20000 in
theorem ggX6_handOver_X6_craneNumbered : GoodIn wsX6_handOver wsX6_craneNumbered := goodIn_ca (goodIn_r _ [120, 121, 122, 10, 11, 12, 13, 14, 15, 123, 124, 8, 125, 126, 127, 16, 17, 18, 19, 20, 21, 22, 23, 24, 25, 26, 27, 28, 29, 30, 31, 32, 200, 201, 202, 203, 204, 205, 206, 207, 190, 191, 192] (by decide +kernel) (by decide +kernel)) (goodIn_sub (fun _ h => List.mem_cons_of_mem _ (List.mem_append_right _ h)) (by decide +kernel))
set_option maxRecDepth 20000 in
theorem gX6_handOver_X6_craneNumbered : GoodIn wsX6_handOver (wsV RX6 221 RX6 yX6_craneNumbered wsX6_craneNumbered) := goodIn_app (goodIn_of _ (by decide +kernel)) ggX6_handOver_X6_craneNumbered
set_option maxRecDepth 20000 in
theorem ggX6_handOver_X6_lift : GoodIn wsX6_handOver wsX6_lift := goodIn_ca (goodIn_r _ [131, 132, 133, 134, 135, 136, 137, 138, 139, 140, 33, 34, 35, 8, 36, 37, 38, 39, 40, 41, 42, 43, 44, 45, 46, 47, 7, 9, 10, 11, 12, 13, 14, 15, 16, 17, 18, 19, 20, 21, 22, 23, 24, 25, 26, 27, 28, 29, 30, 31, 32, 48, 49, 50, 51, 52, 53, 54, 55, 56, 57, 58, 59, 60, 61, 62, 63, 64, 65, 66, 67, 68, 69, 70, 71, 72, 73, 74, 75, 76, 77, 78, 79, 80, 81, 82, 83, 84, 85, 86, 87, 88, 89, 90, 91, 92, 93, 94, 95, 96, 97, 98, 99, 100, 101, 102, 103, 104, 105, 106, 107, 108, 109, 110, 111, 112, 113, 114, 115, 116, 141, 142, 143, 144, 117, 118, 119, 120, 121, 122, 123, 124, 125, 126, 127, 145, 146, 147, 148, 149, 150, 151, 152, 153, 154, 155, 156, 157, 158, 159, 160, 161, 162, 163, 164, 165, 166, 167, 193, 194, 195, 196, 197, 198, 199, 208, 209, 210, 211, 212, 213, 214, 215, 174, 175, 176, 177, 178, 179, 180, 181, 182, 183, 184, 185, 186, 187, 188, 189, 200, 201, 202, 203, 204, 205, 206, 207, 190, 191, 192] (by decide +kernel) (by decide +kernel)) (goodIn_sub (fun _ h => List.mem_cons_of_mem _ (List.mem_append_right _ h)) (by decide +kernel))
set_option maxRecDepth 20000 in
theorem gX6_handOver_X6_lift : GoodIn wsX6_handOver (wsV RX6 254 RX6 yX6_lift wsX6_lift) := goodIn_app (goodIn_of _ (by decide +kernel)) ggX6_handOver_X6_lift
set_option maxRecDepth 20000 in
theorem ggX6_handOver_X6_truckNumbered : GoodIn wsX6_handOver wsX6_truckNumbered := goodIn_ca (goodIn_r _ [171, 126, 127, 172, 173, 10, 11, 12, 13, 14, 15, 16, 17, 18, 19, 20, 21, 22, 23, 24, 25, 26, 27, 28, 29, 30, 31, 32, 200, 201, 202, 203, 204, 205, 206, 207, 190, 191, 192] (by decide +kernel) (by decide +kernel)) (goodIn_sub (fun _ h => List.mem_cons_of_mem _ (List.mem_append_right _ h)) (by decide +kernel))
set_option maxRecDepth 20000 in
theorem gX6_handOver_X6_truckNumbered : GoodIn wsX6_handOver (wsV RX6 169 RX6 yX6_truckNumbered wsX6_truckNumbered) := goodIn_app (goodIn_of _ (by decide +kernel)) ggX6_handOver_X6_truckNumbered
set_option maxRecDepth 20000 in
theorem ggX6_lift_X6_acknowledge : GoodIn wsX6_lift wsX6_acknowledge := goodIn_r _ [14, 15, 16, 17, 18, 19, 20, 21, 22, 23, 24, 25, 26, 13, 27, 28, 29, 30, 31, 32, 33, 34, 35, 36, 37, 38, 39, 40, 41, 42, 43, 44, 45, 46, 47, 48, 49, 50, 51, 52, 53, 54, 55, 56, 57, 58, 59, 60, 61, 62, 63, 64, 65, 66, 67, 68, 69, 70, 71, 72, 73, 74, 75, 76, 77, 78, 79, 80, 81, 82, 83, 84, 85, 86, 87, 88, 89, 90, 91, 92, 93, 94, 95, 96, 97, 98, 99, 100, 101, 102, 103, 104, 105, 106, 107, 108, 109, 110, 111, 112, 113, 114, 115, 116, 117, 118, 119, 173, 174, 175, 176, 177, 178, 179, 180, 181, 182, 183, 184, 185, 186, 187, 188, 158, 159, 160, 161, 162, 163, 164, 189, 190, 191, 192, 193, 194, 195, 196, 197, 198, 199] (by decide +kernel) (by decide +kernel)
set_option maxRecDepth 20000 in
theorem gX6_lift_X6_acknowledge : GoodIn wsX6_lift (wsV RX6 250 RX6 yX6_acknowledge wsX6_acknowledge) := goodIn_app (goodIn_of _ (by decide +kernel)) ggX6_lift_X6_acknowledge
set_option maxRecDepth 20000 in
theorem ggX6_lift_X6_canGo : GoodIn wsX6_lift wsX6_canGo := goodIn_ca (goodIn_r _ [123, 6, 124, 125, 126, 13, 127, 128, 129, 28, 29, 30, 31, 32, 33, 130, 131, 132, 133, 134, 34, 35, 36, 37, 38, 39, 40, 41, 42, 43, 44, 45, 46, 47, 48, 49, 50, 173, 174, 175, 176, 177, 178, 179, 180, 189, 190, 191, 192, 193, 194, 195, 196, 197, 198, 199] (by decide +kernel) (by decide +kernel)) (goodIn_sub (fun _ h => List.mem_cons_of_mem _ (List.mem_append_right _ h)) (by decide +kernel))
set_option maxRecDepth 20000 in
theorem gX6_lift_X6_canGo : GoodIn wsX6_lift (wsV RX6 234 RX6 yX6_canGo wsX6_canGo) := goodIn_app (goodIn_of _ (by decide +kernel)) ggX6_lift_X6_canGo
set_option maxRecDepth 20000 in
theorem ggX6_lift_X6_countAt : GoodIn wsX6_lift wsX6_countAt := goodIn_r _ [138, 139, 140, 28, 29, 30, 31, 32, 33, 34, 35, 36, 37, 38, 39, 40, 41, 42, 43, 44, 45, 46, 47, 48, 49, 50, 141, 142, 143, 144, 145, 146, 147, 189, 190, 191, 192, 193, 194, 195, 196, 197, 198, 199, 165, 166, 167, 168, 169, 170, 171, 172] (by decide +kernel) (by decide +kernel)
set_option maxRecDepth 20000 in
theorem gX6_lift_X6_countAt : GoodIn wsX6_lift (wsV RX6 260 RX6 yX6_countAt wsX6_countAt) := goodIn_app (goodIn_of _ (by decide +kernel)) ggX6_lift_X6_countAt
set_option maxRecDepth 20000 in
theorem ggX6_lift_X0_bring : GoodIn wsX6_lift wsX0_bring := goodIn_r _ [151, 146, 147, 165, 166, 167, 168, 169, 170, 171, 172] (by decide +kernel) (by decide +kernel)
set_option maxRecDepth 20000 in
theorem gX6_lift_X0_bring : GoodIn wsX6_lift (wsV RX6 202 RX0 yX0_bring wsX0_bring) := goodIn_app (goodIn_of _ (by decide +kernel)) ggX6_lift_X0_bring
set_option maxRecDepth 20000 in
theorem ggX6_lift_X6_noteMove : GoodIn wsX6_lift wsX6_noteMove := goodIn_r _ [155, 156, 157, 189, 190, 191, 192, 193, 194, 195, 196, 158, 159, 160, 161, 162, 163, 164] (by decide +kernel) (by decide +kernel)
set_option maxRecDepth 20000 in
theorem gX6_lift_X6_noteMove : GoodIn wsX6_lift (wsV RX6 267 RX6 yX6_noteMove wsX6_noteMove) := goodIn_app (goodIn_of _ (by decide +kernel)) ggX6_lift_X6_noteMove
set_option maxRecDepth 20000 in
theorem ggX6_lift_Jx4a65c_add_9ea2d : GoodIn wsX6_lift wsJx4a65c_add_9ea2d := goodIn_r _ [75, 59, 60, 50, 33, 76, 77, 78, 31, 79, 80, 81, 82, 83, 84, 85, 86, 87, 88, 89, 90, 91, 92, 93, 94, 95, 96, 97, 98, 99, 100, 101, 102, 103, 104, 105, 106, 107, 108, 109, 110, 111, 112, 113, 114, 115, 116, 117, 118, 119, 62, 63, 64, 197, 198, 199] (by decide +kernel) (by decide +kernel)
set_option maxRecDepth 20000 in
theorem gX6_lift_Jx4a65c_add_9ea2d : GoodIn wsX6_lift (wsV RX6 43 RJx4a65c yJx4a65c_add_9ea2d wsJx4a65c_add_9ea2d) := goodIn_app (goodIn_of _ (by decide +kernel)) ggX6_lift_Jx4a65c_add_9ea2d
set_option maxRecDepth 20000 in
theorem ggX6_canGo_X6_craneNumbered : GoodIn wsX6_canGo wsX6_craneNumbered := goodIn_ca (goodIn_r _ [6, 7, 8, 9, 10, 11, 12, 13, 14, 15, 16, 5, 17, 18, 19, 20, 21, 22, 23, 24, 25, 26, 27, 28, 29, 30, 31, 32, 33, 34, 35, 36, 45, 46, 47, 48, 49, 50, 51, 52, 53, 54, 55] (by decide +kernel) (by decide +kernel)) (goodIn_sub (fun _ h => List.mem_cons_of_mem _ (List.mem_append_right _ h)) (by decide +kernel))
set_option maxRecDepth 20000 in
theorem gX6_canGo_X6_craneNumbered : GoodIn wsX6_canGo (wsV RX6 221 RX6 yX6_craneNumbered wsX6_craneNumbered) := goodIn_app (goodIn_of _ (by decide +kernel)) ggX6_canGo_X6_craneNumbered
set_option maxRecDepth 20000 in
theorem ggX6_isNothingToDo_X0_isAt : GoodIn wsX6_isNothingToDo wsX0_isAt := goodIn_r _ [9, 10, 11, 19, 20, 21, 22, 23, 24, 25, 26] (by decide +kernel) (by decide +kernel)
set_option maxRecDepth 20000 in
theorem gX6_isNothingToDo_X0_isAt : GoodIn wsX6_isNothingToDo (wsV RX6 189 RX0 yX0_isAt wsX0_isAt) := goodIn_app (goodIn_of _ (by decide +kernel)) ggX6_isNothingToDo_X0_isAt
set_option maxRecDepth 20000 in
theorem ggX6_canTake_X6_isUppermost : GoodIn wsX6_canTake wsX6_isUppermost := goodIn_r _ [6, 7, 8, 9, 10, 11, 5, 12, 13, 14, 15, 16, 17, 18, 19, 20, 21, 22, 23, 24, 25, 26, 27, 28, 29, 30, 31, 32, 33, 34, 35, 36, 37, 38, 39, 40, 41, 42, 43, 44, 45, 46, 47, 48, 49, 50, 51, 52, 53, 54, 55, 56, 57, 58, 59, 60, 61, 62, 63] (by decide +kernel) (by decide +kernel)
set_option maxRecDepth 20000 in
theorem gX6_canTake_X6_isUppermost : GoodIn wsX6_canTake (wsV RX6 277 RX6 yX6_isUppermost wsX6_isUppermost) := goodIn_app (goodIn_of _ (by decide +kernel)) ggX6_canTake_X6_isUppermost
set_option maxRecDepth 20000 in
theorem ggX6_canTake_X6_countAt : GoodIn wsX6_canTake wsX6_countAt := goodIn_r _ [12, 13, 14, 15, 16, 17, 18, 19, 20, 21, 22, 23, 24, 25, 26, 27, 28, 29, 30, 31, 32, 33, 34, 35, 36, 37, 38, 39, 40, 41, 42, 43, 44, 53, 54, 55, 56, 57, 58, 59, 60, 61, 62, 63, 45, 46, 47, 48, 49, 50, 51, 52] (by decide +kernel) (by decide +kernel)
set_option maxRecDepth 20000 in
theorem gX6_canTake_X6_countAt : GoodIn wsX6_canTake (wsV RX6 260 RX6 yX6_countAt wsX6_countAt) := goodIn_app (goodIn_of _ (by decide +kernel)) ggX6_canTake_X6_countAt
set_option maxRecDepth 20000 in
theorem ggX6_isUppermost_X6_countAt : GoodIn wsX6_isUppermost wsX6_countAt := goodIn_r _ [7, 8, 9, 10, 11, 12, 13, 14, 15, 16, 17, 18, 19, 20, 21, 22, 23, 24, 25, 26, 27, 28, 29, 30, 31, 32, 33, 34, 35, 36, 37, 38, 39, 48, 49, 50, 51, 52, 53, 54, 55, 56, 57, 58, 40, 41, 42, 43, 44, 45, 46, 47] (by decide +kernel) (by decide +kernel)
set_option maxRecDepth 20000 in
theorem gX6_isUppermost_X6_countAt : GoodIn wsX6_isUppermost (wsV RX6 260 RX6 yX6_countAt wsX6_countAt) := goodIn_app (goodIn_of _ (by decide +kernel)) ggX6_isUppermost_X6_countAt
set_option maxRecDepth 20000 in
theorem ggX6_canPutDown_X6_countAt : GoodIn wsX6_canPutDown wsX6_countAt := goodIn_r _ [9, 10, 11, 12, 13, 14, 15, 16, 17, 18, 19, 20, 21, 22, 23, 24, 25, 26, 27, 28, 29, 30, 31, 32, 33, 34, 35, 36, 37, 38, 39, 40, 41, 55, 56, 57, 58, 59, 60, 61, 62, 63, 64, 65, 66, 67, 68, 69, 70, 71, 72, 73] (by decide +kernel) (by decide +kernel)
set_option maxRecDepth 20000 in
theorem gX6_canPutDown_X6_countAt : GoodIn wsX6_canPutDown (wsV RX6 260 RX6 yX6_countAt wsX6_countAt) := goodIn_app (goodIn_of _ (by decide +kernel)) ggX6_canPutDown_X6_countAt
set_option maxRecDepth 20000 in
theorem ggX6_canPutDown_X0_isBookedAt : GoodIn wsX6_canPutDown wsX0_isBookedAt := goodIn_r _ [45, 46, 47, 66, 67, 68, 69, 70, 71, 72, 73] (by decide +kernel) (by decide +kernel)
set_option maxRecDepth 20000 in
theorem gX6_canPutDown_X0_isBookedAt : GoodIn wsX6_canPutDown (wsV RX6 287 RX0 yX0_isBookedAt wsX0_isBookedAt) := goodIn_app (goodIn_of _ (by decide +kernel)) ggX6_canPutDown_X0_isBookedAt
set_option maxRecDepth 20000 in
theorem ggX6_putDown_X6_countAt : GoodIn wsX6_putDown wsX6_countAt := goodIn_r _ [9, 10, 11, 12, 13, 14, 15, 16, 17, 18, 19, 20, 21, 22, 23, 24, 25, 26, 27, 28, 29, 30, 31, 32, 33, 34, 35, 36, 37, 38, 39, 40, 41, 73, 74, 75, 76, 77, 78, 79, 80, 81, 82, 83, 65, 66, 67, 68, 69, 70, 71, 72] (by decide +kernel) (by decide +kernel)
set_option maxRecDepth 20000 in
theorem gX6_putDown_X6_countAt : GoodIn wsX6_putDown (wsV RX6 260 RX6 yX6_countAt wsX6_countAt) := goodIn_app (goodIn_of _ (by decide +kernel)) ggX6_putDown_X6_countAt
set_option maxRecDepth 20000 in
theorem ggX6_putDown_X0_bring : GoodIn wsX6_putDown wsX0_bring := goodIn_r _ [45, 40, 41, 65, 66, 67, 68, 69, 70, 71, 72] (by decide +kernel) (by decide +kernel)
set_option maxRecDepth 20000 in
theorem gX6_putDown_X0_bring : GoodIn wsX6_putDown (wsV RX6 202 RX0 yX0_bring wsX0_bring) := goodIn_app (goodIn_of _ (by decide +kernel)) ggX6_putDown_X0_bring
set_option maxRecDepth 20000 in
theorem ggX6_putDown_X0_dropBooking : GoodIn wsX6_putDown wsX0_dropBooking := goodIn_r _ [49, 50, 51, 65, 66, 67, 68, 69, 70, 71, 72] (by decide +kernel) (by decide +kernel)
set_option maxRecDepth 20000 in
theorem gX6_putDown_X0_dropBooking : GoodIn wsX6_putDown (wsV RX6 290 RX0 yX0_dropBooking wsX0_dropBooking) := goodIn_app (goodIn_of _ (by decide +kernel)) ggX6_putDown_X0_dropBooking
set_option maxRecDepth 20000 in
theorem ggX6_putDown_X6_noteMove : GoodIn wsX6_putDown wsX6_noteMove := goodIn_r _ [55, 56, 57, 73, 74, 75, 76, 77, 78, 79, 80, 58, 59, 60, 61, 62, 63, 64] (by decide +kernel) (by decide +kernel)
set_option maxRecDepth 20000 in
theorem gX6_putDown_X6_noteMove : GoodIn wsX6_putDown (wsV RX6 267 RX6 yX6_noteMove wsX6_noteMove) := goodIn_app (goodIn_of _ (by decide +kernel)) ggX6_putDown_X6_noteMove
set_option maxRecDepth 20000 in
theorem ggX6_finish_Jx4a65c_add_9ea2d : GoodIn wsX6_finish wsJx4a65c_add_9ea2d := goodIn_r _ [8, 9, 10, 11, 12, 13, 14, 15, 7, 16, 17, 18, 19, 20, 21, 22, 23, 24, 25, 26, 27, 28, 29, 30, 31, 32, 33, 34, 35, 36, 37, 38, 39, 40, 41, 42, 43, 44, 45, 46, 47, 48, 49, 50, 51, 52, 53, 54, 55, 56, 57, 58, 59, 130, 131, 132] (by decide +kernel) (by decide +kernel)
set_option maxRecDepth 20000 in
theorem gX6_finish_Jx4a65c_add_9ea2d : GoodIn wsX6_finish (wsV RX6 43 RJx4a65c yJx4a65c_add_9ea2d wsJx4a65c_add_9ea2d) := goodIn_app (goodIn_of _ (by decide +kernel)) ggX6_finish_Jx4a65c_add_9ea2d
set_option maxRecDepth 20000 in
theorem ggX6_finish_X6_acknowledge : GoodIn wsX6_finish wsX6_acknowledge := goodIn_r _ [64, 65, 66, 67, 68, 69, 70, 71, 72, 73, 74, 75, 76, 63, 77, 78, 79, 80, 7, 81, 12, 82, 83, 84, 85, 86, 87, 88, 89, 90, 91, 92, 93, 94, 95, 96, 97, 11, 98, 99, 100, 101, 102, 103, 104, 105, 9, 10, 106, 57, 58, 59, 107, 108, 109, 110, 111, 112, 113, 4, 5, 6, 8, 13, 14, 15, 16, 17, 18, 19, 20, 21, 22, 23, 24, 25, 26, 27, 28, 29, 30, 31, 32, 33, 34, 35, 36, 37, 38, 39, 40, 41, 42, 43, 44, 45, 46, 47, 48, 49, 50, 51, 52, 53, 54, 55, 56, 114, 115, 116, 117, 118, 119, 120, 121, 122, 123, 124, 125, 126, 127, 128, 129, 133, 134, 135, 136, 137, 138, 139, 140, 141, 142, 143, 144, 145, 146, 147, 130, 131, 132] (by decide +kernel) (by decide +kernel)
set_option maxRecDepth 20000 in
theorem gX6_finish_X6_acknowledge : GoodIn wsX6_finish (wsV RX6 250 RX6 yX6_acknowledge wsX6_acknowledge) := goodIn_app (goodIn_of _ (by decide +kernel)) ggX6_finish_X6_acknowledge
set_option maxRecDepth 20000 in
theorem ggX6_acknowledge_X5_takeOut : GoodIn wsX6_acknowledge wsX5_takeOut := goodIn_r _ [10, 11, 12, 13, 14, 15, 16, 17, 18, 19, 20, 21, 22, 23, 24, 25, 26, 27, 28, 29, 30, 31, 32, 33, 34, 35, 36, 37, 38, 39, 40, 41, 42, 43, 44, 45, 46, 47, 48, 49, 50, 51, 107, 108, 109, 110, 111, 112, 113, 114, 115, 116, 117, 118, 119, 120, 121, 122, 138, 139, 140] (by decide +kernel) (by decide +kernel)
set_option maxRecDepth 20000 in
theorem gX6_acknowledge_X5_takeOut_u297X1 : GoodIn wsX6_acknowledge (va_wsU RX6 297 RX1 "QuayMesh$Worker" ⟨"QuayMesh$Worker", "takeOut", "(LQuayMesh$Message;)V"⟩ yX5_takeOut wsX5_takeOut) := goodIn_app (goodIn_of _ (by decide +kernel)) ggX6_acknowledge_X5_takeOut
set_option maxRecDepth 20000 in
theorem gX6_acknowledge_X5_takeOut_u297X4 : GoodIn wsX6_acknowledge (va_wsU RX6 297 RX4 "QuayMesh$Worker" ⟨"QuayMesh$Worker", "takeOut", "(LQuayMesh$Message;)V"⟩ yX5_takeOut wsX5_takeOut) := goodIn_app (goodIn_of _ (by decide +kernel)) ggX6_acknowledge_X5_takeOut
set_option maxRecDepth 20000 in
theorem ggX6_acknowledge_X2_isMoveMade : GoodIn wsX6_acknowledge wsX2_isMoveMade := goodIn_r _ [57, 58, 123, 124, 125, 126, 127, 128, 129] (by decide +kernel) (by decide +kernel)
set_option maxRecDepth 20000 in
theorem gX6_acknowledge_X2_isMoveMade : GoodIn wsX6_acknowledge (wsV RX6 300 RX2 yX2_isMoveMade wsX2_isMoveMade) := goodIn_app (goodIn_of _ (by decide +kernel)) ggX6_acknowledge_X2_isMoveMade
set_option maxRecDepth 20000 in
theorem ggX6_acknowledge_Jx4a65c_add_9ea2d : GoodIn wsX6_acknowledge wsJx4a65c_add_9ea2d := goodIn_r _ [62, 46, 47, 37, 20, 63, 64, 65, 18, 66, 67, 68, 69, 70, 71, 72, 73, 74, 75, 76, 77, 78, 79, 80, 81, 82, 83, 84, 85, 86, 87, 88, 89, 90, 91, 92, 93, 94, 95, 96, 97, 98, 99, 100, 101, 102, 103, 104, 105, 106, 49, 50, 51, 138, 139, 140] (by decide +kernel) (by decide +kernel)
set_option maxRecDepth 20000 in
theorem gX6_acknowledge_Jx4a65c_add_9ea2d : GoodIn wsX6_acknowledge (wsV RX6 43 RJx4a65c yJx4a65c_add_9ea2d wsJx4a65c_add_9ea2d) := goodIn_app (goodIn_of _ (by decide +kernel)) ggX6_acknowledge_Jx4a65c_add_9ea2d
set_option maxRecDepth 20000 in
theorem ggX6_book_X6_requireOneOf : GoodIn wsX6_book wsX6_requireOneOf := goodIn_ca (goodIn_r _ [12, 13, 14] (by decide +kernel) (by decide +kernel)) (goodIn_sub (fun _ h => List.mem_cons_of_mem _ (List.mem_append_right _ h)) (by decide +kernel))
set_option maxRecDepth 20000 in
theorem gX6_book_X6_requireOneOf : GoodIn wsX6_book (va_wsS RX6 52 yX6_requireOneOf wsX6_requireOneOf) := goodIn_app (goodIn_of _ (by decide +kernel)) ggX6_book_X6_requireOneOf
set_option maxRecDepth 20000 in
theorem ggX6_book_X6_boxNumbered : GoodIn wsX6_book wsX6_boxNumbered := goodIn_ca (goodIn_r _ [18, 19, 20, 21, 22, 23, 24, 25, 26, 9, 10, 11, 12, 13, 14, 27, 28, 29, 30, 31, 32, 33, 34, 35, 36, 37, 38, 39, 40, 41, 42, 43, 71, 72, 73, 74, 75, 76, 77, 78, 87, 88, 89] (by decide +kernel) (by decide +kernel)) (goodIn_sub (fun _ h => List.mem_cons_of_mem _ (List.mem_append_right _ h)) (by decide +kernel))
set_option maxRecDepth 20000 in
theorem gX6_book_X6_boxNumbered : GoodIn wsX6_book (wsV RX6 116 RX6 yX6_boxNumbered wsX6_boxNumbered) := goodIn_app (goodIn_of _ (by decide +kernel)) ggX6_book_X6_boxNumbered
set_option maxRecDepth 20000 in
theorem ggX6_book_X6_slotsLeft : GoodIn wsX6_book wsX6_slotsLeft := goodIn_r _ [47, 19, 20, 21, 22, 23, 24, 25, 26, 27, 28, 29, 30, 31, 32, 33, 34, 35, 36, 37, 38, 39, 40, 41, 42, 43, 48, 49, 50, 51, 52, 53, 54, 71, 72, 73, 74, 75, 76, 77, 78, 87, 88, 89, 79, 80, 81, 82, 83, 84, 85, 86] (by decide +kernel) (by decide +kernel)
set_option maxRecDepth 20000 in
theorem gX6_book_X6_slotsLeft : GoodIn wsX6_book (wsV RX6 308 RX6 yX6_slotsLeft wsX6_slotsLeft) := goodIn_app (goodIn_of _ (by decide +kernel)) ggX6_book_X6_slotsLeft
set_option maxRecDepth 20000 in
theorem ggX6_book_X0_isBooked : GoodIn wsX6_book wsX0_isBooked := goodIn_r _ [58, 54, 79, 80, 81, 82, 83, 84, 85, 86] (by decide +kernel) (by decide +kernel)
set_option maxRecDepth 20000 in
theorem gX6_book_X0_isBooked : GoodIn wsX6_book (wsV RX6 311 RX0 yX0_isBooked wsX0_isBooked) := goodIn_app (goodIn_of _ (by decide +kernel)) ggX6_book_X0_isBooked
set_option maxRecDepth 20000 in
theorem ggX6_book_X6_canComeOut : GoodIn wsX6_book wsX6_canComeOut := goodIn_r _ [62, 19, 20, 63, 64, 8, 21, 22, 23, 24, 25, 26, 27, 28, 29, 30, 31, 32, 33, 34, 35, 36, 37, 38, 39, 40, 41, 42, 43, 65, 66, 67, 51, 68, 69, 70, 55, 56, 57, 58, 54, 71, 72, 73, 74, 75, 76, 77, 78, 79, 80, 81, 82, 83, 84, 85, 86, 87, 88, 89] (by decide +kernel) (by decide +kernel)
set_option maxRecDepth 20000 in
theorem gX6_book_X6_canComeOut : GoodIn wsX6_book (wsV RX6 314 RX6 yX6_canComeOut wsX6_canComeOut) := goodIn_app (goodIn_of _ (by decide +kernel)) ggX6_book_X6_canComeOut
set_option maxRecDepth 20000 in
theorem ggX6_unbook_X6_boxNumbered : GoodIn wsX6_unbook wsX6_boxNumbered := goodIn_ca (goodIn_r _ [8, 9, 10, 11, 12, 13, 14, 15, 16, 17, 18, 7, 19, 20, 21, 22, 23, 24, 25, 26, 27, 28, 29, 30, 31, 32, 33, 34, 35, 36, 37, 38, 58, 59, 60, 61, 62, 63, 64, 65, 66, 67, 68] (by decide +kernel) (by decide +kernel)) (goodIn_sub (fun _ h => List.mem_cons_of_mem _ (List.mem_append_right _ h)) (by decide +kernel))
set_option maxRecDepth 20000 in
theorem gX6_unbook_X6_boxNumbered : GoodIn wsX6_unbook (wsV RX6 116 RX6 yX6_boxNumbered wsX6_boxNumbered) := goodIn_app (goodIn_of _ (by decide +kernel)) ggX6_unbook_X6_boxNumbered
set_option maxRecDepth 20000 in
theorem ggX6_unbook_X0_isBooked : GoodIn wsX6_unbook wsX0_isBooked := goodIn_r _ [43, 44, 50, 51, 52, 53, 54, 55, 56, 57] (by decide +kernel) (by decide +kernel)
set_option maxRecDepth 20000 in
theorem gX6_unbook_X0_isBooked : GoodIn wsX6_unbook (wsV RX6 311 RX0 yX0_isBooked wsX0_isBooked) := goodIn_app (goodIn_of _ (by decide +kernel)) ggX6_unbook_X0_isBooked
set_option maxRecDepth 20000 in
theorem ggX6_unbook_X0_dropBooking : GoodIn wsX6_unbook wsX0_dropBooking := goodIn_r _ [48, 49, 44, 50, 51, 52, 53, 54, 55, 56, 57] (by decide +kernel) (by decide +kernel)
set_option maxRecDepth 20000 in
theorem gX6_unbook_X0_dropBooking : GoodIn wsX6_unbook (wsV RX6 290 RX0 yX0_dropBooking wsX0_dropBooking) := goodIn_app (goodIn_of _ (by decide +kernel)) ggX6_unbook_X0_dropBooking
set_option maxRecDepth 20000 in
theorem ggX6_advance_Jx4a65c_size_8abf5 : GoodIn wsX6_advance wsJx4a65c_size_8abf5 := goodIn_r _ [13, 14, 59, 60, 61] (by decide +kernel) (by decide +kernel)
set_option maxRecDepth 20000 in
theorem gX6_advance_Jx4a65c_size_8abf5 : GoodIn wsX6_advance (wsV RX6 62 RJx4a65c yJx4a65c_size_8abf5 wsJx4a65c_size_8abf5) := goodIn_app (goodIn_of _ (by decide +kernel)) ggX6_advance_Jx4a65c_size_8abf5
set_option maxRecDepth 20000 in
theorem ggX6_advance_Jx4a65c_get_915e3 : GoodIn wsX6_advance wsJx4a65c_get_915e3 := goodIn_r _ [18, 14, 19, 20, 21, 22, 23, 24, 25, 26, 27, 28, 29, 12, 30, 31, 59, 60, 61] (by decide +kernel) (by decide +kernel)
set_option maxRecDepth 20000 in
theorem gX6_advance_Jx4a65c_get_915e3 : GoodIn wsX6_advance (wsV RX6 97 RJx4a65c yJx4a65c_get_915e3 wsJx4a65c_get_915e3) := goodIn_app (goodIn_of _ (by decide +kernel)) ggX6_advance_Jx4a65c_get_915e3
set_option maxRecDepth 20000 in
theorem ggX6_advance_X0_isBooked : GoodIn wsX6_advance wsX0_isBooked := goodIn_r _ [36, 37, 51, 52, 53, 54, 55, 56, 57, 58] (by decide +kernel) (by decide +kernel)
set_option maxRecDepth 20000 in
theorem gX6_advance_X0_isBooked : GoodIn wsX6_advance (wsV RX6 311 RX0 yX0_isBooked wsX0_isBooked) := goodIn_app (goodIn_of _ (by decide +kernel)) ggX6_advance_X0_isBooked
set_option maxRecDepth 20000 in
theorem ggX6_advance_X0_dropBooking : GoodIn wsX6_advance wsX0_dropBooking := goodIn_r _ [41, 42, 37, 51, 52, 53, 54, 55, 56, 57, 58] (by decide +kernel) (by decide +kernel)
set_option maxRecDepth 20000 in
theorem gX6_advance_X0_dropBooking : GoodIn wsX6_advance (wsV RX6 290 RX0 yX0_dropBooking wsX0_dropBooking) := goodIn_app (goodIn_of _ (by decide +kernel)) ggX6_advance_X0_dropBooking
set_option maxRecDepth 20000 in
theorem ggX6_slotsLeft_Jx4a65c_size_8abf5 : GoodIn wsX6_slotsLeft wsJx4a65c_size_8abf5 := goodIn_r _ [7, 8, 41, 42, 43] (by decide +kernel) (by decide +kernel)
set_option maxRecDepth 20000 in
theorem gX6_slotsLeft_Jx4a65c_size_8abf5 : GoodIn wsX6_slotsLeft (wsV RX6 62 RJx4a65c yJx4a65c_size_8abf5 wsJx4a65c_size_8abf5) := goodIn_app (goodIn_of _ (by decide +kernel)) ggX6_slotsLeft_Jx4a65c_size_8abf5
set_option maxRecDepth 20000 in
theorem ggX6_slotsLeft_Jx4a65c_get_915e3 : GoodIn wsX6_slotsLeft wsJx4a65c_get_915e3 := goodIn_r _ [12, 8, 13, 14, 15, 16, 17, 18, 19, 20, 21, 22, 23, 6, 24, 25, 41, 42, 43] (by decide +kernel) (by decide +kernel)
set_option maxRecDepth 20000 in
theorem gX6_slotsLeft_Jx4a65c_get_915e3 : GoodIn wsX6_slotsLeft (wsV RX6 97 RJx4a65c yJx4a65c_get_915e3 wsJx4a65c_get_915e3) := goodIn_app (goodIn_of _ (by decide +kernel)) ggX6_slotsLeft_Jx4a65c_get_915e3
set_option maxRecDepth 20000 in
theorem ggX6_slotsLeft_X0_isBookedAt : GoodIn wsX6_slotsLeft wsX0_isBookedAt := goodIn_r _ [30, 31, 32, 44, 45, 46, 47, 48, 49, 50, 51] (by decide +kernel) (by decide +kernel)
set_option maxRecDepth 20000 in
theorem gX6_slotsLeft_X0_isBookedAt : GoodIn wsX6_slotsLeft (wsV RX6 287 RX0 yX0_isBookedAt wsX0_isBookedAt) := goodIn_app (goodIn_of _ (by decide +kernel)) ggX6_slotsLeft_X0_isBookedAt
set_option maxRecDepth 20000 in
theorem ggX6_canComeOut_Jx4a65c_size_8abf5 : GoodIn wsX6_canComeOut wsJx4a65c_size_8abf5 := goodIn_r _ [10, 11, 57, 58, 59] (by decide +kernel) (by decide +kernel)
set_option maxRecDepth 20000 in
theorem gX6_canComeOut_Jx4a65c_size_8abf5 : GoodIn wsX6_canComeOut (wsV RX6 62 RJx4a65c yJx4a65c_size_8abf5 wsJx4a65c_size_8abf5) := goodIn_app (goodIn_of _ (by decide +kernel)) ggX6_canComeOut_Jx4a65c_size_8abf5
set_option maxRecDepth 20000 in
theorem ggX6_canComeOut_Jx4a65c_get_915e3 : GoodIn wsX6_canComeOut wsJx4a65c_get_915e3 := goodIn_r _ [15, 11, 16, 17, 18, 19, 20, 21, 22, 23, 24, 25, 26, 9, 27, 28, 57, 58, 59] (by decide +kernel) (by decide +kernel)
set_option maxRecDepth 20000 in
theorem gX6_canComeOut_Jx4a65c_get_915e3 : GoodIn wsX6_canComeOut (wsV RX6 97 RJx4a65c yJx4a65c_get_915e3 wsJx4a65c_get_915e3) := goodIn_app (goodIn_of _ (by decide +kernel)) ggX6_canComeOut_Jx4a65c_get_915e3
set_option maxRecDepth 20000 in
theorem ggX6_canComeOut_X0_isAt : GoodIn wsX6_canComeOut wsX0_isAt := goodIn_r _ [33, 34, 35, 49, 50, 51, 52, 53, 54, 55, 56] (by decide +kernel) (by decide +kernel)
set_option maxRecDepth 20000 in
theorem gX6_canComeOut_X0_isAt : GoodIn wsX6_canComeOut (wsV RX6 189 RX0 yX0_isAt wsX0_isAt) := goodIn_app (goodIn_of _ (by decide +kernel)) ggX6_canComeOut_X0_isAt
set_option maxRecDepth 20000 in
theorem ggX6_canComeOut_X0_isBooked : GoodIn wsX6_canComeOut wsX0_isBooked := goodIn_r _ [39, 40, 49, 50, 51, 52, 53, 54, 55, 56] (by decide +kernel) (by decide +kernel)
set_option maxRecDepth 20000 in
theorem gX6_canComeOut_X0_isBooked : GoodIn wsX6_canComeOut (wsV RX6 311 RX0 yX0_isBooked wsX0_isBooked) := goodIn_app (goodIn_of _ (by decide +kernel)) ggX6_canComeOut_X0_isBooked
set_option maxRecDepth 20000 in
theorem ggX6_boxes_Jx4a65c_size_8abf5 : GoodIn wsX6_boxes wsJx4a65c_size_8abf5 := goodIn_r _ [6, 7, 16, 17, 18] (by decide +kernel) (by decide +kernel)
set_option maxRecDepth 20000 in
theorem gX6_boxes_Jx4a65c_size_8abf5 : GoodIn wsX6_boxes (wsV RX6 62 RJx4a65c yJx4a65c_size_8abf5 wsJx4a65c_size_8abf5) := goodIn_app (goodIn_of _ (by decide +kernel)) ggX6_boxes_Jx4a65c_size_8abf5
set_option maxRecDepth 20000 in
theorem ggX6_whereIs_X6_boxNumbered : GoodIn wsX6_whereIs wsX6_boxNumbered := goodIn_ca (goodIn_r _ [8, 9, 10, 11, 12, 13, 14, 15, 16, 17, 18, 7, 19, 20, 21, 22, 23, 24, 25, 26, 27, 28, 29, 30, 31, 32, 33, 34, 35, 36, 37, 38, 47, 48, 49, 50, 51, 52, 53, 54, 55, 56, 57] (by decide +kernel) (by decide +kernel)) (goodIn_sub (fun _ h => List.mem_cons_of_mem _ (List.mem_append_right _ h)) (by decide +kernel))
set_option maxRecDepth 20000 in
theorem gX6_whereIs_X6_boxNumbered : GoodIn wsX6_whereIs (wsV RX6 116 RX6 yX6_boxNumbered wsX6_boxNumbered) := goodIn_app (goodIn_of _ (by decide +kernel)) ggX6_whereIs_X6_boxNumbered
set_option maxRecDepth 20000 in
theorem ggX6_whereByLog_X6_boxNumbered : GoodIn wsX6_whereByLog wsX6_boxNumbered := goodIn_ca (goodIn_r _ [8, 9, 10, 11, 12, 13, 14, 15, 16, 17, 18, 7, 19, 20, 21, 22, 23, 24, 25, 26, 27, 28, 29, 30, 31, 32, 33, 34, 35, 36, 37, 38, 62, 63, 64, 65, 66, 67, 68, 69, 70, 71, 72] (by decide +kernel) (by decide +kernel)) (goodIn_sub (fun _ h => List.mem_cons_of_mem _ (List.mem_append_right _ h)) (by decide +kernel))
set_option maxRecDepth 20000 in
theorem gX6_whereByLog_X6_boxNumbered : GoodIn wsX6_whereByLog (wsV RX6 116 RX6 yX6_boxNumbered wsX6_boxNumbered) := goodIn_app (goodIn_of _ (by decide +kernel)) ggX6_whereByLog_X6_boxNumbered
set_option maxRecDepth 20000 in
theorem ggX6_whereByLog_X6_lastLoggedMoveOf : GoodIn wsX6_whereByLog wsX6_lastLoggedMoveOf := goodIn_r _ [42, 43, 44, 45, 46, 11, 12, 13, 14, 15, 16, 22, 23, 24, 25, 26, 27, 28, 29, 30, 31, 32, 33, 34, 35, 36, 37, 38, 62, 63, 64, 65, 66, 67, 68, 69, 55, 56, 57, 58, 59, 60, 61, 70, 71, 72] (by decide +kernel) (by decide +kernel)
set_option maxRecDepth 20000 in
theorem gX6_whereByLog_X6_lastLoggedMoveOf : GoodIn wsX6_whereByLog (wsV RX6 332 RX6 yX6_lastLoggedMoveOf wsX6_lastLoggedMoveOf) := goodIn_app (goodIn_of _ (by decide +kernel)) ggX6_whereByLog_X6_lastLoggedMoveOf
set_option maxRecDepth 20000 in
theorem ggX6_liftedBy_X6_boxNumbered : GoodIn wsX6_liftedBy wsX6_boxNumbered := goodIn_ca (goodIn_r _ [6, 7, 8, 9, 10, 11, 12, 13, 14, 15, 16, 5, 17, 18, 19, 20, 21, 22, 23, 24, 25, 26, 27, 28, 29, 30, 31, 32, 33, 34, 35, 36, 45, 46, 47, 48, 49, 50, 51, 52, 53, 54, 55] (by decide +kernel) (by decide +kernel)) (goodIn_sub (fun _ h => List.mem_cons_of_mem _ (List.mem_append_right _ h)) (by decide +kernel))
set_option maxRecDepth 20000 in
theorem gX6_liftedBy_X6_boxNumbered : GoodIn wsX6_liftedBy (wsV RX6 116 RX6 yX6_boxNumbered wsX6_boxNumbered) := goodIn_app (goodIn_of _ (by decide +kernel)) ggX6_liftedBy_X6_boxNumbered
set_option maxRecDepth 20000 in
theorem ggX6_bookedFor_X6_boxNumbered : GoodIn wsX6_bookedFor wsX6_boxNumbered := goodIn_ca (goodIn_r _ [6, 7, 8, 9, 10, 11, 12, 13, 14, 15, 16, 5, 17, 18, 19, 20, 21, 22, 23, 24, 25, 26, 27, 28, 29, 30, 31, 32, 33, 34, 35, 36, 45, 46, 47, 48, 49, 50, 51, 52, 53, 54, 55] (by decide +kernel) (by decide +kernel)) (goodIn_sub (fun _ h => List.mem_cons_of_mem _ (List.mem_append_right _ h)) (by decide +kernel))
set_option maxRecDepth 20000 in
theorem gX6_bookedFor_X6_boxNumbered : GoodIn wsX6_bookedFor (wsV RX6 116 RX6 yX6_boxNumbered wsX6_boxNumbered) := goodIn_app (goodIn_of _ (by decide +kernel)) ggX6_bookedFor_X6_boxNumbered
set_option maxRecDepth 20000 in
theorem ggX6_placeOf_X6_craneNumbered : GoodIn wsX6_placeOf wsX6_craneNumbered := goodIn_ca (goodIn_r _ [6, 7, 8, 9, 10, 11, 12, 13, 14, 15, 16, 5, 17, 18, 19, 20, 21, 22, 23, 24, 25, 26, 27, 28, 29, 30, 31, 32, 33, 34, 35, 36, 45, 46, 47, 48, 49, 50, 51, 52, 53, 54, 55] (by decide +kernel) (by decide +kernel)) (goodIn_sub (fun _ h => List.mem_cons_of_mem _ (List.mem_append_right _ h)) (by decide +kernel))
set_option maxRecDepth 20000 in
theorem gX6_placeOf_X6_craneNumbered : GoodIn wsX6_placeOf (wsV RX6 221 RX6 yX6_craneNumbered wsX6_craneNumbered) := goodIn_app (goodIn_of _ (by decide +kernel)) ggX6_placeOf_X6_craneNumbered
set_option maxRecDepth 20000 in
theorem ggX6_height_X6_requireOneOf : GoodIn wsX6_height wsX6_requireOneOf := goodIn_ca (goodIn_r _ [4, 5, 6] (by decide +kernel) (by decide +kernel)) (goodIn_sub (fun _ h => List.mem_cons_of_mem _ (List.mem_append_right _ h)) (by decide +kernel))
set_option maxRecDepth 20000 in
theorem gX6_height_X6_requireOneOf : GoodIn wsX6_height (va_wsS RX6 52 yX6_requireOneOf wsX6_requireOneOf) := goodIn_app (goodIn_of _ (by decide +kernel)) ggX6_height_X6_requireOneOf
set_option maxRecDepth 20000 in
theorem ggX6_height_X6_countAt : GoodIn wsX6_height wsX6_countAt := goodIn_r _ [10, 11, 12, 13, 14, 15, 16, 17, 18, 19, 20, 21, 22, 23, 24, 25, 26, 27, 28, 29, 30, 31, 32, 33, 34, 35, 36, 37, 38, 39, 40, 41, 42, 43, 44, 45, 46, 47, 48, 49, 50, 51, 52, 53, 54, 55, 56, 57, 58, 59, 60, 61] (by decide +kernel) (by decide +kernel)
set_option maxRecDepth 20000 in
theorem gX6_height_X6_countAt : GoodIn wsX6_height (wsV RX6 260 RX6 yX6_countAt wsX6_countAt) := goodIn_app (goodIn_of _ (by decide +kernel)) ggX6_height_X6_countAt
set_option maxRecDepth 20000 in
theorem ggX6_queue_X6_workerNumbered : GoodIn wsX6_queue wsX6_workerNumbered := goodIn_ca (goodIn_r _ [6, 7, 8, 9, 5, 10, 11, 12, 13, 14, 15, 16, 17, 18, 19, 20, 21, 22, 23, 24, 25, 26, 27, 28, 29, 30, 31, 32, 33, 34, 35, 36, 37, 38, 39, 40, 41, 42, 43, 44, 45, 46, 63, 64, 65, 66, 67, 68, 69, 70, 71, 72, 73] (by decide +kernel) (by decide +kernel)) (goodIn_sub (fun _ h => List.mem_cons_of_mem _ (List.mem_append_right _ h)) (by decide +kernel))
set_option maxRecDepth 20000 in
theorem gX6_queue_X6_workerNumbered : GoodIn wsX6_queue (wsV RX6 136 RX6 yX6_workerNumbered wsX6_workerNumbered) := goodIn_app (goodIn_of _ (by decide +kernel)) ggX6_queue_X6_workerNumbered
set_option maxRecDepth 20000 in
theorem ggX6_queue_Jx4a65c_size_8abf5 : GoodIn wsX6_queue wsJx4a65c_size_8abf5 := goodIn_r _ [17, 18, 71, 72, 73] (by decide +kernel) (by decide +kernel)
set_option maxRecDepth 20000 in
theorem gX6_queue_Jx4a65c_size_8abf5 : GoodIn wsX6_queue (wsV RX6 62 RJx4a65c yJx4a65c_size_8abf5 wsJx4a65c_size_8abf5) := goodIn_app (goodIn_of _ (by decide +kernel)) ggX6_queue_Jx4a65c_size_8abf5
set_option maxRecDepth 20000 in
theorem ggX6_queued_X6_workerNumbered : GoodIn wsX6_queued wsX6_workerNumbered := goodIn_ca (goodIn_r _ [7, 8, 9, 10, 6, 11, 12, 13, 14, 15, 16, 17, 18, 19, 20, 21, 22, 23, 24, 25, 26, 27, 28, 29, 30, 31, 32, 33, 34, 35, 36, 37, 38, 39, 40, 41, 42, 43, 44, 45, 46, 47, 75, 76, 77, 78, 79, 80, 81, 82, 83, 84, 85] (by decide +kernel) (by decide +kernel)) (goodIn_sub (fun _ h => List.mem_cons_of_mem _ (List.mem_append_right _ h)) (by decide +kernel))
set_option maxRecDepth 20000 in
theorem gX6_queued_X6_workerNumbered : GoodIn wsX6_queued (wsV RX6 136 RX6 yX6_workerNumbered wsX6_workerNumbered) := goodIn_app (goodIn_of _ (by decide +kernel)) ggX6_queued_X6_workerNumbered
set_option maxRecDepth 20000 in
theorem ggX6_queued_X6_elementOf : GoodIn wsX6_queued wsX6_elementOf := goodIn_ca (goodIn_r _ [50, 51, 14, 15, 16, 17, 18, 19, 20, 21, 6, 22, 23, 24, 25, 26, 27, 28, 29, 30, 31, 32, 33, 34, 35, 36, 37, 38, 39, 40, 41, 83, 84, 85] (by decide +kernel) (by decide +kernel)) (goodIn_sub (fun _ h => List.mem_cons_of_mem _ (List.mem_append_right _ h)) (by decide +kernel))
set_option maxRecDepth 20000 in
theorem gX6_queued_X6_elementOf : GoodIn wsX6_queued (va_wsS RX6 336 yX6_elementOf wsX6_elementOf) := goodIn_app (goodIn_of _ (by decide +kernel)) ggX6_queued_X6_elementOf
set_option maxRecDepth 20000 in
theorem ggX6_seen_X6_truckNumbered : GoodIn wsX6_seen wsX6_truckNumbered := goodIn_ca (goodIn_r _ [7, 8, 9, 10, 11, 12, 13, 14, 15, 16, 17, 18, 19, 20, 21, 22, 23, 24, 25, 26, 27, 28, 29, 30, 31, 32, 33, 34, 50, 51, 52, 53, 54, 55, 56, 57, 58, 59, 60] (by decide +kernel) (by decide +kernel)) (goodIn_sub (fun _ h => List.mem_cons_of_mem _ (List.mem_append_right _ h)) (by decide +kernel))
set_option maxRecDepth 20000 in
theorem gX6_seen_X6_truckNumbered : GoodIn wsX6_seen (wsV RX6 169 RX6 yX6_truckNumbered wsX6_truckNumbered) := goodIn_app (goodIn_of _ (by decide +kernel)) ggX6_seen_X6_truckNumbered
set_option maxRecDepth 20000 in
theorem ggX6_handed_X6_elementOf : GoodIn wsX6_handed wsX6_elementOf := goodIn_ca (goodIn_r _ [6, 7, 8, 9, 10, 11, 12, 13, 14, 15, 5, 16, 17, 18, 19, 20, 21, 22, 23, 24, 25, 26, 27, 28, 29, 30, 31, 32, 33, 34, 35, 51, 52, 53] (by decide +kernel) (by decide +kernel)) (goodIn_sub (fun _ h => List.mem_cons_of_mem _ (List.mem_append_right _ h)) (by decide +kernel))
set_option maxRecDepth 20000 in
theorem gX6_handed_X6_elementOf : GoodIn wsX6_handed (va_wsS RX6 336 yX6_elementOf wsX6_elementOf) := goodIn_app (goodIn_of _ (by decide +kernel)) ggX6_handed_X6_elementOf
set_option maxRecDepth 20000 in
theorem ggX6_isDone_X6_elementOf : GoodIn wsX6_isDone wsX6_elementOf := goodIn_ca (goodIn_r _ [5, 6, 7, 8, 9, 10, 11, 12, 13, 14, 4, 15, 16, 17, 18, 19, 20, 21, 22, 23, 24, 25, 26, 27, 28, 29, 30, 31, 32, 33, 34, 49, 50, 51] (by decide +kernel) (by decide +kernel)) (goodIn_sub (fun _ h => List.mem_cons_of_mem _ (List.mem_append_right _ h)) (by decide +kernel))
set_option maxRecDepth 20000 in
theorem gX6_isDone_X6_elementOf : GoodIn wsX6_isDone (va_wsS RX6 336 yX6_elementOf wsX6_elementOf) := goodIn_app (goodIn_of _ (by decide +kernel)) ggX6_isDone_X6_elementOf
set_option maxRecDepth 20000 in
theorem ggX6_isDone_X2_isMoveMade : GoodIn wsX6_isDone wsX2_isMoveMade := goodIn_r _ [39, 40, 52, 53, 54, 55, 56, 57, 58] (by decide +kernel) (by decide +kernel)
set_option maxRecDepth 20000 in
theorem gX6_isDone_X2_isMoveMade : GoodIn wsX6_isDone (wsV RX6 300 RX2 yX2_isMoveMade wsX2_isMoveMade) := goodIn_app (goodIn_of _ (by decide +kernel)) ggX6_isDone_X2_isMoveMade
set_option maxRecDepth 20000 in
theorem ggX6_moves_Jx4a65c_size_8abf5 : GoodIn wsX6_moves wsJx4a65c_size_8abf5 := goodIn_r _ [6, 7, 16, 17, 18] (by decide +kernel) (by decide +kernel)
set_option maxRecDepth 20000 in
theorem gX6_moves_Jx4a65c_size_8abf5 : GoodIn wsX6_moves (wsV RX6 62 RJx4a65c yJx4a65c_size_8abf5 wsJx4a65c_size_8abf5) := goodIn_app (goodIn_of _ (by decide +kernel)) ggX6_moves_Jx4a65c_size_8abf5
set_option maxRecDepth 20000 in
theorem ggX6_moveAt_X6_elementOf : GoodIn wsX6_moveAt wsX6_elementOf := goodIn_ca (goodIn_r _ [6, 7, 8, 9, 10, 11, 12, 13, 14, 15, 5, 16, 17, 18, 19, 20, 21, 22, 23, 24, 25, 26, 27, 28, 29, 30, 31, 32, 33, 34, 35, 51, 52, 53] (by decide +kernel) (by decide +kernel)) (goodIn_sub (fun _ h => List.mem_cons_of_mem _ (List.mem_append_right _ h)) (by decide +kernel))
set_option maxRecDepth 20000 in
theorem gX6_moveAt_X6_elementOf : GoodIn wsX6_moveAt (va_wsS RX6 336 yX6_elementOf wsX6_elementOf) := goodIn_app (goodIn_of _ (by decide +kernel)) ggX6_moveAt_X6_elementOf
set_option maxRecDepth 20000 in
theorem ggX6_unheard_Jx4a65c_size_8abf5 : GoodIn wsX6_unheard wsJx4a65c_size_8abf5 := goodIn_r _ [7, 8, 17, 18, 19] (by decide +kernel) (by decide +kernel)
set_option maxRecDepth 20000 in
theorem gX6_unheard_Jx4a65c_size_8abf5 : GoodIn wsX6_unheard (wsV RX6 62 RJx4a65c yJx4a65c_size_8abf5 wsJx4a65c_size_8abf5) := goodIn_app (goodIn_of _ (by decide +kernel)) ggX6_unheard_Jx4a65c_size_8abf5
set_option maxRecDepth 20000 in
theorem ggX6_lastLoggedMoveOf_Jx4a65c_size_8abf5 : GoodIn wsX6_lastLoggedMoveOf wsJx4a65c_size_8abf5 := goodIn_r _ [9, 10, 43, 44, 45] (by decide +kernel) (by decide +kernel)
set_option maxRecDepth 20000 in
theorem gX6_lastLoggedMoveOf_Jx4a65c_size_8abf5 : GoodIn wsX6_lastLoggedMoveOf (wsV RX6 62 RJx4a65c yJx4a65c_size_8abf5 wsJx4a65c_size_8abf5) := goodIn_app (goodIn_of _ (by decide +kernel)) ggX6_lastLoggedMoveOf_Jx4a65c_size_8abf5
set_option maxRecDepth 20000 in
theorem ggX6_lastLoggedMoveOf_Jx4a65c_get_915e3 : GoodIn wsX6_lastLoggedMoveOf wsJx4a65c_get_915e3 := goodIn_r _ [14, 10, 15, 16, 17, 18, 19, 20, 21, 22, 23, 24, 25, 8, 26, 27, 43, 44, 45] (by decide +kernel) (by decide +kernel)
set_option maxRecDepth 20000 in
theorem gX6_lastLoggedMoveOf_Jx4a65c_get_915e3 : GoodIn wsX6_lastLoggedMoveOf (wsV RX6 97 RJx4a65c yJx4a65c_get_915e3 wsJx4a65c_get_915e3) := goodIn_app (goodIn_of _ (by decide +kernel)) ggX6_lastLoggedMoveOf_Jx4a65c_get_915e3
set_option maxRecDepth 20000 in
theorem ggX6_countAt_Jx4a65c_size_8abf5 : GoodIn wsX6_countAt wsJx4a65c_size_8abf5 := goodIn_r _ [7, 8, 41, 42, 43] (by decide +kernel) (by decide +kernel)
set_option maxRecDepth 20000 in
theorem gX6_countAt_Jx4a65c_size_8abf5 : GoodIn wsX6_countAt (wsV RX6 62 RJx4a65c yJx4a65c_size_8abf5 wsJx4a65c_size_8abf5) := goodIn_app (goodIn_of _ (by decide +kernel)) ggX6_countAt_Jx4a65c_size_8abf5
set_option maxRecDepth 20000 in
theorem ggX6_countAt_Jx4a65c_get_915e3 : GoodIn wsX6_countAt wsJx4a65c_get_915e3 := goodIn_r _ [12, 8, 13, 14, 15, 16, 17, 18, 19, 20, 21, 22, 23, 6, 24, 25, 41, 42, 43] (by decide +kernel) (by decide +kernel)
set_option maxRecDepth 20000 in
theorem gX6_countAt_Jx4a65c_get_915e3 : GoodIn wsX6_countAt (wsV RX6 97 RJx4a65c yJx4a65c_get_915e3 wsJx4a65c_get_915e3) := goodIn_app (goodIn_of _ (by decide +kernel)) ggX6_countAt_Jx4a65c_get_915e3
set_option maxRecDepth 20000 in
theorem ggX6_countAt_X0_isAt : GoodIn wsX6_countAt wsX0_isAt := goodIn_r _ [30, 31, 32, 44, 45, 46, 47, 48, 49, 50, 51] (by decide +kernel) (by decide +kernel)
set_option maxRecDepth 20000 in
theorem gX6_countAt_X0_isAt : GoodIn wsX6_countAt (wsV RX6 189 RX0 yX0_isAt wsX0_isAt) := goodIn_app (goodIn_of _ (by decide +kernel)) ggX6_countAt_X0_isAt
set_option maxRecDepth 20000 in
theorem ggX6_indexOf_Jx4a65c_size_8abf5 : GoodIn wsX6_indexOf wsJx4a65c_size_8abf5 := goodIn_r _ [5, 6, 24, 25, 26] (by decide +kernel) (by decide +kernel)
set_option maxRecDepth 20000 in
theorem gX6_indexOf_Jx4a65c_size_8abf5 : GoodIn wsX6_indexOf (wsV RX6 62 RJx4a65c yJx4a65c_size_8abf5 wsJx4a65c_size_8abf5) := goodIn_app (goodIn_of _ (by decide +kernel)) ggX6_indexOf_Jx4a65c_size_8abf5
set_option maxRecDepth 20000 in
theorem ggX6_indexOf_Jx4a65c_get_915e3 : GoodIn wsX6_indexOf wsJx4a65c_get_915e3 := goodIn_r _ [10, 6, 11, 12, 13, 14, 15, 16, 17, 18, 19, 20, 21, 4, 22, 23, 24, 25, 26] (by decide +kernel) (by decide +kernel)
set_option maxRecDepth 20000 in
theorem gX6_indexOf_Jx4a65c_get_915e3 : GoodIn wsX6_indexOf (wsV RX6 97 RJx4a65c yJx4a65c_get_915e3 wsJx4a65c_get_915e3) := goodIn_app (goodIn_of _ (by decide +kernel)) ggX6_indexOf_Jx4a65c_get_915e3
set_option maxRecDepth 20000 in
theorem ggX6_elementOf_Jx4a65c_size_8abf5 : GoodIn wsX6_elementOf wsJx4a65c_size_8abf5 := goodIn_r _ [6, 7, 31, 32, 33] (by decide +kernel) (by decide +kernel)
set_option maxRecDepth 20000 in
theorem gX6_elementOf_Jx4a65c_size_8abf5 : GoodIn wsX6_elementOf (wsV RX6 62 RJx4a65c yJx4a65c_size_8abf5 wsJx4a65c_size_8abf5) := goodIn_app (goodIn_of _ (by decide +kernel)) ggX6_elementOf_Jx4a65c_size_8abf5
set_option maxRecDepth 20000 in
theorem ggX6_elementOf_X6_requireOneOf : GoodIn wsX6_elementOf wsX6_requireOneOf := goodIn_ca (goodIn_r _ [11, 12, 13] (by decide +kernel) (by decide +kernel)) (goodIn_sub (fun _ h => List.mem_cons_of_mem _ (List.mem_append_right _ h)) (by decide +kernel))
set_option maxRecDepth 20000 in
theorem gX6_elementOf_X6_requireOneOf : GoodIn wsX6_elementOf (va_wsS RX6 52 yX6_requireOneOf wsX6_requireOneOf) := goodIn_app (goodIn_of _ (by decide +kernel)) ggX6_elementOf_X6_requireOneOf
set_option maxRecDepth 20000 in
theorem ggX6_elementOf_Jx4a65c_get_915e3 : GoodIn wsX6_elementOf wsJx4a65c_get_915e3 := goodIn_r _ [17, 7, 18, 19, 20, 21, 22, 23, 24, 25, 26, 27, 28, 5, 29, 30, 31, 32, 33] (by decide +kernel) (by decide +kernel)
set_option maxRecDepth 20000 in
theorem gX6_elementOf_Jx4a65c_get_915e3 : GoodIn wsX6_elementOf (wsV RX6 97 RJx4a65c yJx4a65c_get_915e3 wsJx4a65c_get_915e3) := goodIn_app (goodIn_of _ (by decide +kernel)) ggX6_elementOf_Jx4a65c_get_915e3
set_option maxRecDepth 20000 in
theorem ggX6_shipNumbered_Jx4a65c_size_8abf5 : GoodIn wsX6_shipNumbered wsJx4a65c_size_8abf5 := goodIn_r _ [10, 11, 44, 45, 46] (by decide +kernel) (by decide +kernel)
set_option maxRecDepth 20000 in
theorem gX6_shipNumbered_Jx4a65c_size_8abf5 : GoodIn wsX6_shipNumbered (wsV RX6 62 RJx4a65c yJx4a65c_size_8abf5 wsJx4a65c_size_8abf5) := goodIn_app (goodIn_of _ (by decide +kernel)) ggX6_shipNumbered_Jx4a65c_size_8abf5
set_option maxRecDepth 20000 in
theorem ggX6_shipNumbered_X6_requireOneOf : GoodIn wsX6_shipNumbered wsX6_requireOneOf := goodIn_ca (goodIn_r _ [15, 1, 2] (by decide +kernel) (by decide +kernel)) (goodIn_sub (fun _ h => List.mem_cons_of_mem _ (List.mem_append_right _ h)) (by decide +kernel))
set_option maxRecDepth 20000 in
theorem gX6_shipNumbered_X6_requireOneOf : GoodIn wsX6_shipNumbered (va_wsS RX6 52 yX6_requireOneOf wsX6_requireOneOf) := goodIn_app (goodIn_of _ (by decide +kernel)) ggX6_shipNumbered_X6_requireOneOf
set_option maxRecDepth 20000 in
theorem ggX6_shipNumbered_Jx4a65c_get_915e3 : GoodIn wsX6_shipNumbered wsJx4a65c_get_915e3 := goodIn_r _ [19, 11, 20, 21, 22, 23, 24, 25, 26, 27, 28, 29, 30, 9, 31, 32, 44, 45, 46] (by decide +kernel) (by decide +kernel)
set_option maxRecDepth 20000 in
theorem gX6_shipNumbered_Jx4a65c_get_915e3 : GoodIn wsX6_shipNumbered (wsV RX6 97 RJx4a65c yJx4a65c_get_915e3 wsJx4a65c_get_915e3) := goodIn_app (goodIn_of _ (by decide +kernel)) ggX6_shipNumbered_Jx4a65c_get_915e3
set_option maxRecDepth 20000 in
theorem ggX6_boxNumbered_Jx4a65c_size_8abf5 : GoodIn wsX6_boxNumbered wsJx4a65c_size_8abf5 := goodIn_r _ [7, 8, 40, 41, 42] (by decide +kernel) (by decide +kernel)
set_option maxRecDepth 20000 in
theorem gX6_boxNumbered_Jx4a65c_size_8abf5 : GoodIn wsX6_boxNumbered (wsV RX6 62 RJx4a65c yJx4a65c_size_8abf5 wsJx4a65c_size_8abf5) := goodIn_app (goodIn_of _ (by decide +kernel)) ggX6_boxNumbered_Jx4a65c_size_8abf5
set_option maxRecDepth 20000 in
theorem ggX6_boxNumbered_X6_requireOneOf : GoodIn wsX6_boxNumbered wsX6_requireOneOf := goodIn_ca (goodIn_r _ [12, 13, 14] (by decide +kernel) (by decide +kernel)) (goodIn_sub (fun _ h => List.mem_cons_of_mem _ (List.mem_append_right _ h)) (by decide +kernel))
set_option maxRecDepth 20000 in
theorem gX6_boxNumbered_X6_requireOneOf : GoodIn wsX6_boxNumbered (va_wsS RX6 52 yX6_requireOneOf wsX6_requireOneOf) := goodIn_app (goodIn_of _ (by decide +kernel)) ggX6_boxNumbered_X6_requireOneOf
set_option maxRecDepth 20000 in
theorem ggX6_boxNumbered_Jx4a65c_get_915e3 : GoodIn wsX6_boxNumbered wsJx4a65c_get_915e3 := goodIn_r _ [18, 8, 19, 20, 21, 22, 23, 24, 25, 26, 27, 28, 29, 6, 30, 31, 40, 41, 42] (by decide +kernel) (by decide +kernel)
set_option maxRecDepth 20000 in
theorem gX6_boxNumbered_Jx4a65c_get_915e3 : GoodIn wsX6_boxNumbered (wsV RX6 97 RJx4a65c yJx4a65c_get_915e3 wsJx4a65c_get_915e3) := goodIn_app (goodIn_of _ (by decide +kernel)) ggX6_boxNumbered_Jx4a65c_get_915e3
set_option maxRecDepth 20000 in
theorem ggX6_craneNumbered_Jx4a65c_size_8abf5 : GoodIn wsX6_craneNumbered wsJx4a65c_size_8abf5 := goodIn_r _ [7, 8, 40, 41, 42] (by decide +kernel) (by decide +kernel)
set_option maxRecDepth 20000 in
theorem gX6_craneNumbered_Jx4a65c_size_8abf5 : GoodIn wsX6_craneNumbered (wsV RX6 62 RJx4a65c yJx4a65c_size_8abf5 wsJx4a65c_size_8abf5) := goodIn_app (goodIn_of _ (by decide +kernel)) ggX6_craneNumbered_Jx4a65c_size_8abf5
set_option maxRecDepth 20000 in
theorem ggX6_craneNumbered_X6_requireOneOf : GoodIn wsX6_craneNumbered wsX6_requireOneOf := goodIn_ca (goodIn_r _ [12, 13, 14] (by decide +kernel) (by decide +kernel)) (goodIn_sub (fun _ h => List.mem_cons_of_mem _ (List.mem_append_right _ h)) (by decide +kernel))
set_option maxRecDepth 20000 in
theorem gX6_craneNumbered_X6_requireOneOf : GoodIn wsX6_craneNumbered (va_wsS RX6 52 yX6_requireOneOf wsX6_requireOneOf) := goodIn_app (goodIn_of _ (by decide +kernel)) ggX6_craneNumbered_X6_requireOneOf
set_option maxRecDepth 20000 in
theorem ggX6_craneNumbered_Jx4a65c_get_915e3 : GoodIn wsX6_craneNumbered wsJx4a65c_get_915e3 := goodIn_r _ [18, 8, 19, 20, 21, 22, 23, 24, 25, 26, 27, 28, 29, 6, 30, 31, 40, 41, 42] (by decide +kernel) (by decide +kernel)
set_option maxRecDepth 20000 in
theorem gX6_craneNumbered_Jx4a65c_get_915e3 : GoodIn wsX6_craneNumbered (wsV RX6 97 RJx4a65c yJx4a65c_get_915e3 wsJx4a65c_get_915e3) := goodIn_app (goodIn_of _ (by decide +kernel)) ggX6_craneNumbered_Jx4a65c_get_915e3
set_option maxRecDepth 20000 in
theorem ggX6_truckNumbered_Jx4a65c_size_8abf5 : GoodIn wsX6_truckNumbered wsJx4a65c_size_8abf5 := goodIn_r _ [9, 10, 36, 37, 38] (by decide +kernel) (by decide +kernel)
set_option maxRecDepth 20000 in
theorem gX6_truckNumbered_Jx4a65c_size_8abf5 : GoodIn wsX6_truckNumbered (wsV RX6 62 RJx4a65c yJx4a65c_size_8abf5 wsJx4a65c_size_8abf5) := goodIn_app (goodIn_of _ (by decide +kernel)) ggX6_truckNumbered_Jx4a65c_size_8abf5
set_option maxRecDepth 20000 in
theorem ggX6_truckNumbered_Jx4a65c_get_915e3 : GoodIn wsX6_truckNumbered wsJx4a65c_get_915e3 := goodIn_r _ [14, 10, 15, 16, 17, 18, 19, 20, 21, 22, 23, 24, 25, 8, 26, 27, 36, 37, 38] (by decide +kernel) (by decide +kernel)
set_option maxRecDepth 20000 in
theorem gX6_truckNumbered_Jx4a65c_get_915e3 : GoodIn wsX6_truckNumbered (wsV RX6 97 RJx4a65c yJx4a65c_get_915e3 wsJx4a65c_get_915e3) := goodIn_app (goodIn_of _ (by decide +kernel)) ggX6_truckNumbered_Jx4a65c_get_915e3
set_option maxRecDepth 20000 in
theorem ggX6_workerNumbered_X6_craneNumbered : GoodIn wsX6_workerNumbered wsX6_craneNumbered := goodIn_ca (goodIn_r _ [5, 6, 7, 8, 9, 10, 11, 12, 13, 14, 15, 4, 16, 17, 18, 19, 20, 21, 22, 23, 24, 25, 26, 27, 28, 29, 30, 31, 32, 33, 34, 35, 42, 43, 44, 45, 46, 47, 48, 49, 50, 51, 52] (by decide +kernel) (by decide +kernel)) (goodIn_sub (fun _ h => List.mem_cons_of_mem _ (List.mem_append_right _ h)) (by decide +kernel))
set_option maxRecDepth 20000 in
theorem gX6_workerNumbered_X6_craneNumbered : GoodIn wsX6_workerNumbered (wsV RX6 221 RX6 yX6_craneNumbered wsX6_craneNumbered) := goodIn_app (goodIn_of _ (by decide +kernel)) ggX6_workerNumbered_X6_craneNumbered
set_option maxRecDepth 20000 in
theorem ggX6_workerNumbered_X6_truckNumbered : GoodIn wsX6_workerNumbered wsX6_truckNumbered := goodIn_ca (goodIn_r _ [39, 17, 18, 40, 41, 8, 9, 10, 11, 12, 13, 19, 20, 21, 22, 23, 24, 25, 26, 27, 28, 29, 30, 31, 32, 33, 34, 35, 42, 43, 44, 45, 46, 47, 48, 49, 50, 51, 52] (by decide +kernel) (by decide +kernel)) (goodIn_sub (fun _ h => List.mem_cons_of_mem _ (List.mem_append_right _ h)) (by decide +kernel))
set_option maxRecDepth 20000 in
theorem gX6_workerNumbered_X6_truckNumbered : GoodIn wsX6_workerNumbered (wsV RX6 169 RX6 yX6_truckNumbered wsX6_truckNumbered) := goodIn_app (goodIn_of _ (by decide +kernel)) ggX6_workerNumbered_X6_truckNumbered
set_option maxRecDepth 20000 in
theorem ggX7_isPlace_X7_in : GoodIn wsX7_isPlace wsX7_in := goodIn_r _ [4] (by decide +kernel) (by decide +kernel)
set_option maxRecDepth 20000 in
theorem gX7_isPlace_X7_in : GoodIn wsX7_isPlace (va_wsS RX7 99 yX7_in wsX7_in) := goodIn_app (goodIn_of _ (by decide +kernel)) ggX7_isPlace_X7_in
set_option maxRecDepth 20000 in
theorem ggX7_isCrane_X7_in : GoodIn wsX7_isCrane wsX7_in := goodIn_r _ [4] (by decide +kernel) (by decide +kernel)
set_option maxRecDepth 20000 in
theorem gX7_isCrane_X7_in : GoodIn wsX7_isCrane (va_wsS RX7 99 yX7_in wsX7_in) := goodIn_app (goodIn_of _ (by decide +kernel)) ggX7_isCrane_X7_in
set_option maxRecDepth 20000 in
theorem ggX7_isWorker_X7_in : GoodIn wsX7_isWorker wsX7_in := goodIn_r _ [4] (by decide +kernel) (by decide +kernel)
set_option maxRecDepth 20000 in
theorem gX7_isWorker_X7_in : GoodIn wsX7_isWorker (va_wsS RX7 99 yX7_in wsX7_in) := goodIn_app (goodIn_of _ (by decide +kernel)) ggX7_isWorker_X7_in
set_option maxRecDepth 20000 in
theorem ggX7_isShip_X7_in : GoodIn wsX7_isShip wsX7_in := goodIn_r _ [6] (by decide +kernel) (by decide +kernel)
set_option maxRecDepth 20000 in
theorem gX7_isShip_X7_in : GoodIn wsX7_isShip (va_wsS RX7 99 yX7_in wsX7_in) := goodIn_app (goodIn_of _ (by decide +kernel)) ggX7_isShip_X7_in
set_option maxRecDepth 20000 in
theorem ggX7_isBox_X7_in : GoodIn wsX7_isBox wsX7_in := goodIn_r _ [5] (by decide +kernel) (by decide +kernel)
set_option maxRecDepth 20000 in
theorem gX7_isBox_X7_in : GoodIn wsX7_isBox (va_wsS RX7 99 yX7_in wsX7_in) := goodIn_app (goodIn_of _ (by decide +kernel)) ggX7_isBox_X7_in
set_option maxRecDepth 20000 in
theorem ggX7_berth_X7_isPlace : GoodIn wsX7_berth wsX7_isPlace := goodIn_r _ [8, 9, 10, 7, 11] (by decide +kernel) (by decide +kernel)
set_option maxRecDepth 20000 in
theorem gX7_berth_X7_isPlace : GoodIn wsX7_berth (va_wsS RX7 109 yX7_isPlace wsX7_isPlace) := goodIn_app (goodIn_of _ (by decide +kernel)) ggX7_berth_X7_isPlace
set_option maxRecDepth 20000 in
theorem ggX7_berth_X7_in : GoodIn wsX7_berth wsX7_in := goodIn_r _ [11] (by decide +kernel) (by decide +kernel)
set_option maxRecDepth 20000 in
theorem gX7_berth_X7_in : GoodIn wsX7_berth (va_wsS RX7 99 yX7_in wsX7_in) := goodIn_app (goodIn_of _ (by decide +kernel)) ggX7_berth_X7_in
set_option maxRecDepth 20000 in
theorem ggX7_berth_X7_isFree : GoodIn wsX7_berth wsX7_isFree := goodIn_r _ [15, 1, 16, 3, 4, 17, 18, 19, 20, 21, 22, 23, 24, 25, 26, 27, 28, 29, 30, 31, 32, 33, 34, 35, 36, 37, 38, 39, 40, 41, 42, 43, 44, 45, 46, 47, 48, 49, 50, 51] (by decide +kernel) (by decide +kernel)
set_option maxRecDepth 20000 in
theorem gX7_berth_X7_isFree : GoodIn wsX7_berth (wsV RX7 113 RX7 yX7_isFree wsX7_isFree) := goodIn_app (goodIn_of _ (by decide +kernel)) ggX7_berth_X7_isFree
set_option maxRecDepth 20000 in
theorem ggX7_box_X7_isShip : GoodIn wsX7_box wsX7_isShip := goodIn_r _ [14, 15, 16, 17, 18, 13, 19, 20, 21, 22, 23, 24, 25, 26, 27, 28, 29, 30, 31, 32, 33, 34, 35, 36, 37, 38, 39, 40, 41, 42, 43, 44, 45, 46, 47, 48, 49, 50, 51, 52, 53, 54] (by decide +kernel) (by decide +kernel)
set_option maxRecDepth 20000 in
theorem gX7_box_X7_isShip : GoodIn wsX7_box (wsV RX7 117 RX7 yX7_isShip wsX7_isShip) := goodIn_app (goodIn_of _ (by decide +kernel)) ggX7_box_X7_isShip
set_option maxRecDepth 20000 in
theorem ggX7_box_X7_in : GoodIn wsX7_box wsX7_in := goodIn_r _ [19] (by decide +kernel) (by decide +kernel)
set_option maxRecDepth 20000 in
theorem gX7_box_X7_in : GoodIn wsX7_box (va_wsS RX7 99 yX7_in wsX7_in) := goodIn_app (goodIn_of _ (by decide +kernel)) ggX7_box_X7_in
set_option maxRecDepth 20000 in
theorem ggX7_leave_X7_isShip : GoodIn wsX7_leave wsX7_isShip := goodIn_r _ [10, 11, 5, 12, 13, 9, 14, 15, 16, 17, 18, 19, 20, 21, 22, 23, 24, 25, 26, 27, 28, 29, 30, 31, 32, 33, 34, 35, 36, 37, 38, 39, 40, 41, 42, 43, 44, 45, 46, 47, 48, 49] (by decide +kernel) (by decide +kernel)
set_option maxRecDepth 20000 in
theorem gX7_leave_X7_isShip : GoodIn wsX7_leave (wsV RX7 117 RX7 yX7_isShip wsX7_isShip) := goodIn_app (goodIn_of _ (by decide +kernel)) ggX7_leave_X7_isShip
set_option maxRecDepth 20000 in
theorem ggX7_freest_X7_firstFor : GoodIn wsX7_freest wsX7_firstFor := goodIn_r _ [6] (by decide +kernel) (by decide +kernel)
set_option maxRecDepth 20000 in
theorem gX7_freest_X7_firstFor : GoodIn wsX7_freest (va_wsS RX7 120 yX7_firstFor wsX7_firstFor) := goodIn_app (goodIn_of _ (by decide +kernel)) ggX7_freest_X7_firstFor
set_option maxRecDepth 20000 in
theorem ggX7_isTarget_X7_in : GoodIn wsX7_isTarget wsX7_in := goodIn_r _ [4] (by decide +kernel) (by decide +kernel)
set_option maxRecDepth 20000 in
theorem gX7_isTarget_X7_in : GoodIn wsX7_isTarget (va_wsS RX7 99 yX7_in wsX7_in) := goodIn_app (goodIn_of _ (by decide +kernel)) ggX7_isTarget_X7_in
set_option maxRecDepth 20000 in
theorem ggX7_send_X7_in : GoodIn wsX7_send wsX7_in := goodIn_r _ [9] (by decide +kernel) (by decide +kernel)
set_option maxRecDepth 20000 in
theorem gX7_send_X7_in : GoodIn wsX7_send (va_wsS RX7 99 yX7_in wsX7_in) := goodIn_app (goodIn_of _ (by decide +kernel)) ggX7_send_X7_in
set_option maxRecDepth 20000 in
theorem ggX7_send_X7_firstFor : GoodIn wsX7_send wsX7_firstFor := goodIn_r _ [12] (by decide +kernel) (by decide +kernel)
set_option maxRecDepth 20000 in
theorem gX7_send_X7_firstFor : GoodIn wsX7_send (va_wsS RX7 120 yX7_firstFor wsX7_firstFor) := goodIn_app (goodIn_of _ (by decide +kernel)) ggX7_send_X7_firstFor
set_option maxRecDepth 20000 in
theorem ggX7_send_X7_isBox : GoodIn wsX7_send wsX7_isBox := goodIn_r _ [16, 17, 6, 7, 8, 9, 32, 33, 34, 35, 36, 37, 38, 39, 40, 41, 42, 43, 44, 45, 46, 47, 48, 49, 50, 51, 52, 53, 54, 55, 56, 57, 58, 59, 60, 61, 62, 63, 64, 65, 66] (by decide +kernel) (by decide +kernel)
set_option maxRecDepth 20000 in
theorem gX7_send_X7_isBox : GoodIn wsX7_send (wsV RX7 124 RX7 yX7_isBox wsX7_isBox) := goodIn_app (goodIn_of _ (by decide +kernel)) ggX7_send_X7_isBox
set_option maxRecDepth 20000 in
theorem ggX7_send_X7_isTarget : GoodIn wsX7_send wsX7_isTarget := goodIn_r _ [20, 6, 7, 8, 9] (by decide +kernel) (by decide +kernel)
set_option maxRecDepth 20000 in
theorem gX7_send_X7_isTarget : GoodIn wsX7_send (va_wsS RX7 127 yX7_isTarget wsX7_isTarget) := goodIn_app (goodIn_of _ (by decide +kernel)) ggX7_send_X7_isTarget
set_option maxRecDepth 20000 in
theorem ggX7_send_X7_freest : GoodIn wsX7_send wsX7_freest := goodIn_r _ [24, 25, 26, 10, 11, 8, 12, 32, 33, 34, 35, 36, 37, 38, 39, 40, 41, 42, 43, 44, 45, 46, 47, 48, 49, 50, 51, 52, 53, 54, 55, 56, 57, 58, 59, 60, 61, 62, 63, 64, 65, 66] (by decide +kernel) (by decide +kernel)
set_option maxRecDepth 20000 in
theorem gX7_send_X7_freest : GoodIn wsX7_send (wsV RX7 133 RX7 yX7_freest wsX7_freest) := goodIn_app (goodIn_of _ (by decide +kernel)) ggX7_send_X7_freest
set_option maxRecDepth 20000 in
theorem ggX7_send_X7_joins : GoodIn wsX7_send wsX7_joins := goodIn_r _ [30, 31, 26, 32, 33, 34, 35, 36, 37, 38, 39, 40, 41, 42, 43, 44, 45, 46, 47, 48, 49, 50, 51, 52, 53, 54, 55, 56, 57, 58, 59, 60, 61, 62, 63, 64, 65, 66] (by decide +kernel) (by decide +kernel)
set_option maxRecDepth 20000 in
theorem gX7_send_X7_joins : GoodIn wsX7_send (wsV RX7 136 RX7 yX7_joins wsX7_joins) := goodIn_app (goodIn_of _ (by decide +kernel)) ggX7_send_X7_joins
set_option maxRecDepth 20000 in
theorem ggX7_acknowledges_X7_quits : GoodIn wsX7_acknowledges wsX7_quits := goodIn_r _ [11, 12, 13, 14, 15, 16, 17, 18, 19, 20, 21, 22, 23, 24, 25, 26, 27, 28, 29, 30, 31, 32, 33, 34, 35, 36, 37, 38, 39, 40, 41, 42, 43, 44, 45, 46, 47, 48] (by decide +kernel) (by decide +kernel)
set_option maxRecDepth 20000 in
theorem gX7_acknowledges_X7_quits : GoodIn wsX7_acknowledges (wsV RX7 140 RX7 yX7_quits wsX7_quits) := goodIn_app (goodIn_of _ (by decide +kernel)) ggX7_acknowledges_X7_quits
set_option maxRecDepth 20000 in
theorem ggX7_lifts_X7_acknowledges : GoodIn wsX7_lifts wsX7_acknowledges := goodIn_r _ [11, 12, 13, 14, 15, 16, 17, 18, 19, 20, 10, 21, 22, 23, 38, 39, 40, 41, 42, 43, 44, 45, 46, 47, 48, 49, 50, 51, 52, 53, 54, 55, 56, 57, 58, 59, 60, 61, 62, 63, 64, 65, 66, 67, 68, 69, 70, 71, 72] (by decide +kernel) (by decide +kernel)
set_option maxRecDepth 20000 in
theorem gX7_lifts_X7_acknowledges : GoodIn wsX7_lifts (wsV RX7 149 RX7 yX7_acknowledges wsX7_acknowledges) := goodIn_app (goodIn_of _ (by decide +kernel)) ggX7_lifts_X7_acknowledges
set_option maxRecDepth 20000 in
theorem ggX7_lifts_X7_canGo : GoodIn wsX7_lifts wsX7_canGo := goodIn_r _ [27, 4, 38, 39, 40, 41, 42, 43, 44, 45, 46, 47, 48, 49, 50, 51, 52, 53, 54, 55, 56, 57, 58, 59, 60, 61, 62, 63, 64, 65, 66, 67, 68, 69, 70, 71, 72] (by decide +kernel) (by decide +kernel)
set_option maxRecDepth 20000 in
theorem gX7_lifts_X7_canGo : GoodIn wsX7_lifts (wsV RX7 153 RX7 yX7_canGo wsX7_canGo) := goodIn_app (goodIn_of _ (by decide +kernel)) ggX7_lifts_X7_canGo
set_option maxRecDepth 20000 in
theorem ggX7_lifts_X7_isTaken : GoodIn wsX7_lifts wsX7_isTaken := goodIn_r _ [31, 32, 2, 3, 38, 39, 40, 41, 42, 43, 44, 45, 46, 47, 48, 49, 50, 51, 52, 53, 54, 55, 56, 57, 58, 59, 60, 61, 62, 63, 64, 65, 66, 67, 68, 69, 70, 71, 72] (by decide +kernel) (by decide +kernel)
set_option maxRecDepth 20000 in
theorem gX7_lifts_X7_isTaken : GoodIn wsX7_lifts (wsV RX7 156 RX7 yX7_isTaken wsX7_isTaken) := goodIn_app (goodIn_of _ (by decide +kernel)) ggX7_lifts_X7_isTaken
set_option maxRecDepth 20000 in
theorem ggX7_lifts_X7_makes : GoodIn wsX7_lifts wsX7_makes := goodIn_r _ [36, 37, 14, 38, 39, 40, 41, 42, 43, 44, 45, 46, 47, 48, 49, 50, 51, 52, 53, 54, 55, 56, 57, 58, 59, 60, 61, 62, 63, 64, 65, 66, 67, 68, 69, 70, 71, 72] (by decide +kernel) (by decide +kernel)
set_option maxRecDepth 20000 in
theorem gX7_lifts_X7_makes : GoodIn wsX7_lifts (wsV RX7 159 RX7 yX7_makes wsX7_makes) := goodIn_app (goodIn_of _ (by decide +kernel)) ggX7_lifts_X7_makes
set_option maxRecDepth 20000 in
theorem ggX7_deliver_X7_isWorker : GoodIn wsX7_deliver wsX7_isWorker := goodIn_r _ [12, 13, 14, 11, 15] (by decide +kernel) (by decide +kernel)
set_option maxRecDepth 20000 in
theorem gX7_deliver_X7_isWorker : GoodIn wsX7_deliver (va_wsS RX7 163 yX7_isWorker wsX7_isWorker) := goodIn_app (goodIn_of _ (by decide +kernel)) ggX7_deliver_X7_isWorker
set_option maxRecDepth 20000 in
theorem ggX7_deliver_X7_quits : GoodIn wsX7_deliver wsX7_quits := goodIn_r _ [19, 2, 3, 60, 61, 62, 63, 64, 65, 66, 67, 68, 69, 70, 71, 72, 73, 74, 75, 76, 77, 78, 79, 80, 81, 82, 83, 84, 85, 86, 87, 88, 89, 90, 91, 92, 93, 94] (by decide +kernel) (by decide +kernel)
set_option maxRecDepth 20000 in
theorem gX7_deliver_X7_quits : GoodIn wsX7_deliver (wsV RX7 140 RX7 yX7_quits wsX7_quits) := goodIn_app (goodIn_of _ (by decide +kernel)) ggX7_deliver_X7_quits
set_option maxRecDepth 20000 in
theorem ggX7_deliver_X7_joins : GoodIn wsX7_deliver wsX7_joins := goodIn_r _ [23, 3, 2, 60, 61, 62, 63, 64, 65, 66, 67, 68, 69, 70, 71, 72, 73, 74, 75, 76, 77, 78, 79, 80, 81, 82, 83, 84, 85, 86, 87, 88, 89, 90, 91, 92, 93, 94] (by decide +kernel) (by decide +kernel)
set_option maxRecDepth 20000 in
theorem gX7_deliver_X7_joins : GoodIn wsX7_deliver (wsV RX7 136 RX7 yX7_joins wsX7_joins) := goodIn_app (goodIn_of _ (by decide +kernel)) ggX7_deliver_X7_joins
set_option maxRecDepth 20000 in
theorem ggX7_deliver_X7_acknowledges : GoodIn wsX7_deliver wsX7_acknowledges := goodIn_r _ [27, 28, 29, 30, 31, 32, 33, 16, 17, 18, 11, 19, 2, 3, 60, 61, 62, 63, 64, 65, 66, 67, 68, 69, 70, 71, 72, 73, 74, 75, 76, 77, 78, 79, 80, 81, 82, 83, 84, 85, 86, 87, 88, 89, 90, 91, 92, 93, 94] (by decide +kernel) (by decide +kernel)
set_option maxRecDepth 20000 in
theorem gX7_deliver_X7_acknowledges : GoodIn wsX7_deliver (wsV RX7 149 RX7 yX7_acknowledges wsX7_acknowledges) := goodIn_app (goodIn_of _ (by decide +kernel)) ggX7_deliver_X7_acknowledges
set_option maxRecDepth 20000 in
theorem ggX7_deliver_X7_isCrane : GoodIn wsX7_deliver wsX7_isCrane := goodIn_r _ [36, 13, 14, 11, 15] (by decide +kernel) (by decide +kernel)
set_option maxRecDepth 20000 in
theorem gX7_deliver_X7_isCrane : GoodIn wsX7_deliver (va_wsS RX7 166 yX7_isCrane wsX7_isCrane) := goodIn_app (goodIn_of _ (by decide +kernel)) ggX7_deliver_X7_isCrane
set_option maxRecDepth 20000 in
theorem ggX7_deliver_X7_lifts : GoodIn wsX7_deliver wsX7_lifts := goodIn_r _ [40, 41, 42, 43, 44, 45, 7, 24, 25, 26, 11, 27, 28, 29, 30, 31, 32, 33, 16, 17, 18, 19, 2, 3, 46, 47, 48, 49, 50, 51, 52, 53, 54, 55, 56, 57, 58, 59, 60, 61, 62, 63, 64, 65, 66, 67, 68, 69, 70, 71, 72, 73, 74, 75, 76, 77, 78, 79, 80, 81, 82, 83, 84, 85, 86, 87, 88, 89, 90, 91, 92, 93, 94] (by decide +kernel) (by decide +kernel)
set_option maxRecDepth 20000 in
theorem gX7_deliver_X7_lifts : GoodIn wsX7_deliver (wsV RX7 169 RX7 yX7_lifts wsX7_lifts) := goodIn_app (goodIn_of _ (by decide +kernel)) ggX7_deliver_X7_lifts
set_option maxRecDepth 20000 in
theorem ggX7_finishes_X7_acknowledges : GoodIn wsX7_finishes wsX7_acknowledges := goodIn_r _ [7, 8, 9, 10, 11, 12, 13, 14, 15, 16, 6, 17, 18, 19, 20, 21, 22, 23, 24, 25, 26, 27, 28, 29, 30, 31, 32, 33, 34, 35, 36, 37, 38, 39, 40, 41, 42, 43, 44, 45, 46, 47, 48, 49, 50, 51, 52, 53, 54] (by decide +kernel) (by decide +kernel)
set_option maxRecDepth 20000 in
theorem gX7_finishes_X7_acknowledges : GoodIn wsX7_finishes (wsV RX7 149 RX7 yX7_acknowledges wsX7_acknowledges) := goodIn_app (goodIn_of _ (by decide +kernel)) ggX7_finishes_X7_acknowledges
set_option maxRecDepth 20000 in
theorem ggX7_puts_X7_makes : GoodIn wsX7_puts wsX7_makes := goodIn_r _ [15, 16, 17, 18, 19, 20, 21, 22, 23, 24, 25, 26, 27, 28, 29, 30, 31, 32, 33, 34, 35, 36, 37, 38, 39, 40, 41, 42, 43, 44, 45, 46, 47, 48, 49, 50, 51, 52] (by decide +kernel) (by decide +kernel)
set_option maxRecDepth 20000 in
theorem gX7_puts_X7_makes : GoodIn wsX7_puts (wsV RX7 159 RX7 yX7_makes wsX7_makes) := goodIn_app (goodIn_of _ (by decide +kernel)) ggX7_puts_X7_makes
set_option maxRecDepth 20000 in
theorem ggX7_act_X7_in : GoodIn wsX7_act wsX7_in := goodIn_r _ [12] (by decide +kernel) (by decide +kernel)
set_option maxRecDepth 20000 in
theorem gX7_act_X7_in : GoodIn wsX7_act (va_wsS RX7 99 yX7_in wsX7_in) := goodIn_app (goodIn_of _ (by decide +kernel)) ggX7_act_X7_in
set_option maxRecDepth 20000 in
theorem ggX7_act_X7_finishes : GoodIn wsX7_act wsX7_finishes := goodIn_r _ [16, 17, 2, 18, 19, 20, 11, 21, 22, 23, 24, 25, 26, 27, 28, 29, 30, 31, 32, 33, 56, 57, 58, 59, 60, 61, 62, 63, 64, 65, 66, 67, 68, 69, 70, 71, 72, 73, 74, 75, 76, 77, 78, 79, 80, 81, 82, 83, 84, 85, 86, 87, 88, 89, 90] (by decide +kernel) (by decide +kernel)
set_option maxRecDepth 20000 in
theorem gX7_act_X7_finishes : GoodIn wsX7_act (wsV RX7 175 RX7 yX7_finishes wsX7_finishes) := goodIn_app (goodIn_of _ (by decide +kernel)) ggX7_act_X7_finishes
set_option maxRecDepth 20000 in
theorem ggX7_act_X7_puts : GoodIn wsX7_act wsX7_puts := goodIn_r _ [37, 3, 5, 8, 7, 4, 6, 38, 39, 40, 41, 42, 43, 44, 11, 45, 46, 24, 56, 57, 58, 59, 60, 61, 62, 63, 64, 65, 66, 67, 68, 69, 70, 71, 72, 73, 74, 75, 76, 77, 78, 79, 80, 81, 82, 83, 84, 85, 86, 87, 88, 89, 90] (by decide +kernel) (by decide +kernel)
set_option maxRecDepth 20000 in
theorem gX7_act_X7_puts : GoodIn wsX7_act (wsV RX7 178 RX7 yX7_puts wsX7_puts) := goodIn_app (goodIn_of _ (by decide +kernel)) ggX7_act_X7_puts
set_option maxRecDepth 20000 in
theorem ggX7_act_X7_isEmpty : GoodIn wsX7_act wsX7_isEmpty := goodIn_r _ [50, 51, 4, 6, 56, 57, 58, 59, 60, 61, 62, 63, 64, 65, 66, 67, 68, 69, 70, 71, 72, 73, 74, 75, 76, 77, 78, 79, 80, 81, 82, 83, 84, 85, 86, 87, 88, 89, 90] (by decide +kernel) (by decide +kernel)
set_option maxRecDepth 20000 in
theorem gX7_act_X7_isEmpty : GoodIn wsX7_act (wsV RX7 181 RX7 yX7_isEmpty wsX7_isEmpty) := goodIn_app (goodIn_of _ (by decide +kernel)) ggX7_act_X7_isEmpty
set_option maxRecDepth 20000 in
theorem ggX7_act_X7_isUppermost : GoodIn wsX7_act wsX7_isUppermost := goodIn_r _ [55, 4, 38, 8, 6, 56, 57, 58, 59, 60, 61, 62, 63, 64, 65, 66, 67, 68, 69, 70, 71, 72, 73, 74, 75, 76, 77, 78, 79, 80, 81, 82, 83, 84, 85, 86, 87, 88, 89, 90] (by decide +kernel) (by decide +kernel)
set_option maxRecDepth 20000 in
theorem gX7_act_X7_isUppermost : GoodIn wsX7_act (wsV RX7 184 RX7 yX7_isUppermost wsX7_isUppermost) := goodIn_app (goodIn_of _ (by decide +kernel)) ggX7_act_X7_isUppermost
set_option maxRecDepth 20000 in
theorem ggX7_lose_X7_isWorker : GoodIn wsX7_lose wsX7_isWorker := goodIn_r _ [7, 8, 9, 6, 10] (by decide +kernel) (by decide +kernel)
set_option maxRecDepth 20000 in
theorem gX7_lose_X7_isWorker : GoodIn wsX7_lose (va_wsS RX7 163 yX7_isWorker wsX7_isWorker) := goodIn_app (goodIn_of _ (by decide +kernel)) ggX7_lose_X7_isWorker
set_option maxRecDepth 20000 in
theorem ggX7_lose_X7_in : GoodIn wsX7_lose wsX7_in := goodIn_r _ [10] (by decide +kernel) (by decide +kernel)
set_option maxRecDepth 20000 in
theorem gX7_lose_X7_in : GoodIn wsX7_lose (va_wsS RX7 99 yX7_in wsX7_in) := goodIn_app (goodIn_of _ (by decide +kernel)) ggX7_lose_X7_in
set_option maxRecDepth 20000 in
theorem ggX7_repeat_X7_isWorker : GoodIn wsX7_repeat wsX7_isWorker := goodIn_r _ [6, 7, 8, 5, 9] (by decide +kernel) (by decide +kernel)
set_option maxRecDepth 20000 in
theorem gX7_repeat_X7_isWorker : GoodIn wsX7_repeat (va_wsS RX7 163 yX7_isWorker wsX7_isWorker) := goodIn_app (goodIn_of _ (by decide +kernel)) ggX7_repeat_X7_isWorker
set_option maxRecDepth 20000 in
theorem ggX7_repeat_X7_isIn : GoodIn wsX7_repeat wsX7_isIn := goodIn_r _ [13, 14, 15, 20, 21, 22, 23, 24, 25, 26, 27, 28, 29, 30, 31, 32, 33, 34, 35, 36, 37, 38, 39, 40, 41, 42, 43, 44, 45, 46, 47, 48, 49, 50, 51, 52, 53, 54] (by decide +kernel) (by decide +kernel)
set_option maxRecDepth 20000 in
theorem gX7_repeat_X7_isIn : GoodIn wsX7_repeat (wsV RX7 187 RX7 yX7_isIn wsX7_isIn) := goodIn_app (goodIn_of _ (by decide +kernel)) ggX7_repeat_X7_isIn
set_option maxRecDepth 20000 in
theorem ggX7_repeat_X7_joins : GoodIn wsX7_repeat wsX7_joins := goodIn_r _ [19, 15, 14, 20, 21, 22, 23, 24, 25, 26, 27, 28, 29, 30, 31, 32, 33, 34, 35, 36, 37, 38, 39, 40, 41, 42, 43, 44, 45, 46, 47, 48, 49, 50, 51, 52, 53, 54] (by decide +kernel) (by decide +kernel)
set_option maxRecDepth 20000 in
theorem gX7_repeat_X7_joins : GoodIn wsX7_repeat (wsV RX7 136 RX7 yX7_joins wsX7_joins) := goodIn_app (goodIn_of _ (by decide +kernel)) ggX7_repeat_X7_joins
set_option maxRecDepth 20000 in
theorem ggX7_silence_X7_isCrane : GoodIn wsX7_silence wsX7_isCrane := goodIn_r _ [6, 7, 8, 5, 9] (by decide +kernel) (by decide +kernel)
set_option maxRecDepth 20000 in
theorem gX7_silence_X7_isCrane : GoodIn wsX7_silence (va_wsS RX7 166 yX7_isCrane wsX7_isCrane) := goodIn_app (goodIn_of _ (by decide +kernel)) ggX7_silence_X7_isCrane
set_option maxRecDepth 20000 in
theorem ggX7_giveAway_X7_isCrane : GoodIn wsX7_giveAway wsX7_isCrane := goodIn_r _ [8, 9, 10, 7, 11] (by decide +kernel) (by decide +kernel)
set_option maxRecDepth 20000 in
theorem gX7_giveAway_X7_isCrane : GoodIn wsX7_giveAway (va_wsS RX7 166 yX7_isCrane wsX7_isCrane) := goodIn_app (goodIn_of _ (by decide +kernel)) ggX7_giveAway_X7_isCrane
set_option maxRecDepth 20000 in
theorem ggX7_giveAway_X7_joins : GoodIn wsX7_giveAway wsX7_joins := goodIn_r _ [15, 4, 3, 16, 17, 18, 19, 20, 21, 22, 23, 24, 25, 26, 27, 28, 29, 30, 31, 32, 33, 34, 35, 36, 37, 38, 39, 40, 41, 42, 43, 44, 45, 46, 47, 48, 49, 50] (by decide +kernel) (by decide +kernel)
set_option maxRecDepth 20000 in
theorem gX7_giveAway_X7_joins : GoodIn wsX7_giveAway (wsV RX7 136 RX7 yX7_joins wsX7_joins) := goodIn_app (goodIn_of _ (by decide +kernel)) ggX7_giveAway_X7_joins
set_option maxRecDepth 20000 in
theorem ggX7_park_X7_isCrane : GoodIn wsX7_park wsX7_isCrane := goodIn_r _ [7, 8, 9, 6, 10] (by decide +kernel) (by decide +kernel)
set_option maxRecDepth 20000 in
theorem gX7_park_X7_isCrane : GoodIn wsX7_park (va_wsS RX7 166 yX7_isCrane wsX7_isCrane) := goodIn_app (goodIn_of _ (by decide +kernel)) ggX7_park_X7_isCrane
set_option maxRecDepth 20000 in
theorem ggX7_park_X7_isPlace : GoodIn wsX7_park wsX7_isPlace := goodIn_r _ [13, 8, 9, 6, 10] (by decide +kernel) (by decide +kernel)
set_option maxRecDepth 20000 in
theorem gX7_park_X7_isPlace : GoodIn wsX7_park (va_wsS RX7 109 yX7_isPlace wsX7_isPlace) := goodIn_app (goodIn_of _ (by decide +kernel)) ggX7_park_X7_isPlace
set_option maxRecDepth 20000 in
theorem ggX7_park_X7_canGo : GoodIn wsX7_park wsX7_canGo := goodIn_r _ [17, 3, 18, 19, 20, 21, 22, 23, 24, 25, 26, 27, 28, 29, 30, 31, 32, 33, 34, 35, 36, 37, 38, 39, 40, 41, 42, 43, 44, 45, 46, 47, 48, 49, 50, 51, 52] (by decide +kernel) (by decide +kernel)
set_option maxRecDepth 20000 in
theorem gX7_park_X7_canGo : GoodIn wsX7_park (wsV RX7 153 RX7 yX7_canGo wsX7_canGo) := goodIn_app (goodIn_of _ (by decide +kernel)) ggX7_park_X7_canGo
set_option maxRecDepth 20000 in
theorem ggX7_canBook_X7_slotsFor : GoodIn wsX7_canBook wsX7_slotsFor := goodIn_r _ [10, 3, 2, 11, 15, 16, 17, 18, 19, 20, 21, 22, 23, 24, 25, 26, 27, 28, 29, 30, 31, 32, 33, 34, 35, 36, 37, 38, 39, 40, 41, 42, 43, 44, 45, 46, 47, 48, 49] (by decide +kernel) (by decide +kernel)
set_option maxRecDepth 20000 in
theorem gX7_canBook_X7_slotsFor : GoodIn wsX7_canBook (wsV RX7 190 RX7 yX7_slotsFor wsX7_slotsFor) := goodIn_app (goodIn_of _ (by decide +kernel)) ggX7_canBook_X7_slotsFor
set_option maxRecDepth 20000 in
theorem ggX7_canBook_X7_in : GoodIn wsX7_canBook wsX7_in := goodIn_r _ [14] (by decide +kernel) (by decide +kernel)
set_option maxRecDepth 20000 in
theorem gX7_canBook_X7_in : GoodIn wsX7_canBook (va_wsS RX7 99 yX7_in wsX7_in) := goodIn_app (goodIn_of _ (by decide +kernel)) ggX7_canBook_X7_in
set_option maxRecDepth 20000 in
theorem ggX7_book_X7_in : GoodIn wsX7_book wsX7_in := goodIn_r _ [8] (by decide +kernel) (by decide +kernel)
set_option maxRecDepth 20000 in
theorem gX7_book_X7_in : GoodIn wsX7_book (va_wsS RX7 99 yX7_in wsX7_in) := goodIn_app (goodIn_of _ (by decide +kernel)) ggX7_book_X7_in
set_option maxRecDepth 20000 in
theorem ggX7_book_X7_isBox : GoodIn wsX7_book wsX7_isBox := goodIn_r _ [12, 13, 5, 6, 7, 8, 25, 26, 27, 28, 29, 30, 31, 32, 33, 34, 35, 36, 37, 38, 39, 40, 41, 42, 43, 44, 45, 46, 47, 48, 49, 50, 51, 52, 53, 54, 55, 56, 57, 58, 59] (by decide +kernel) (by decide +kernel)
set_option maxRecDepth 20000 in
theorem gX7_book_X7_isBox : GoodIn wsX7_book (wsV RX7 124 RX7 yX7_isBox wsX7_isBox) := goodIn_app (goodIn_of _ (by decide +kernel)) ggX7_book_X7_isBox
set_option maxRecDepth 20000 in
theorem ggX7_book_X7_canBook : GoodIn wsX7_book wsX7_canBook := goodIn_r _ [17, 18, 3, 13, 19, 20, 21, 22, 23, 7, 24, 4, 5, 6, 8, 25, 26, 27, 28, 29, 30, 31, 32, 33, 34, 35, 36, 37, 38, 39, 40, 41, 42, 43, 44, 45, 46, 47, 48, 49, 50, 51, 52, 53, 54, 55, 56, 57, 58, 59] (by decide +kernel) (by decide +kernel)
set_option maxRecDepth 20000 in
theorem gX7_book_X7_canBook : GoodIn wsX7_book (wsV RX7 193 RX7 yX7_canBook wsX7_canBook) := goodIn_app (goodIn_of _ (by decide +kernel)) ggX7_book_X7_canBook
set_option maxRecDepth 20000 in
theorem ggX7_book_X7_slotsFor : GoodIn wsX7_book wsX7_slotsFor := goodIn_r _ [24, 13, 3, 4, 25, 26, 27, 28, 29, 30, 31, 32, 33, 34, 35, 36, 37, 38, 39, 40, 41, 42, 43, 44, 45, 46, 47, 48, 49, 50, 51, 52, 53, 54, 55, 56, 57, 58, 59] (by decide +kernel) (by decide +kernel)
set_option maxRecDepth 20000 in
theorem gX7_book_X7_slotsFor : GoodIn wsX7_book (wsV RX7 190 RX7 yX7_slotsFor wsX7_slotsFor) := goodIn_app (goodIn_of _ (by decide +kernel)) ggX7_book_X7_slotsFor
set_option maxRecDepth 20000 in
theorem ggX7_unbook_X7_isBox : GoodIn wsX7_unbook wsX7_isBox := goodIn_r _ [7, 8, 9, 10, 6, 11, 12, 13, 14, 15, 16, 17, 18, 19, 20, 21, 22, 23, 24, 25, 26, 27, 28, 29, 30, 31, 32, 33, 34, 35, 36, 37, 38, 39, 40, 41, 42, 43, 44, 45, 46] (by decide +kernel) (by decide +kernel)
set_option maxRecDepth 20000 in
theorem gX7_unbook_X7_isBox : GoodIn wsX7_unbook (wsV RX7 124 RX7 yX7_isBox wsX7_isBox) := goodIn_app (goodIn_of _ (by decide +kernel)) ggX7_unbook_X7_isBox
set_option maxRecDepth 20000 in
theorem ggX7_advance_X7_in : GoodIn wsX7_advance wsX7_in := goodIn_r _ [8] (by decide +kernel) (by decide +kernel)
set_option maxRecDepth 20000 in
theorem gX7_advance_X7_in : GoodIn wsX7_advance (va_wsS RX7 99 yX7_in wsX7_in) := goodIn_app (goodIn_of _ (by decide +kernel)) ggX7_advance_X7_in
set_option maxRecDepth 20000 in
theorem ggX7_asksBox_X7_isBox : GoodIn wsX7_asksBox wsX7_isBox := goodIn_r _ [6, 7, 8, 9, 5, 10, 11, 12, 13, 14, 15, 16, 17, 18, 19, 20, 21, 22, 23, 24, 25, 26, 27, 28, 29, 30, 31, 32, 33, 34, 35, 36, 37, 38, 39, 40, 41, 42, 43, 44, 45] (by decide +kernel) (by decide +kernel)
set_option maxRecDepth 20000 in
theorem gX7_asksBox_X7_isBox : GoodIn wsX7_asksBox (wsV RX7 124 RX7 yX7_isBox wsX7_isBox) := goodIn_app (goodIn_of _ (by decide +kernel)) ggX7_asksBox_X7_isBox
set_option maxRecDepth 20000 in
theorem ggX7_whereIs_X7_asksBox : GoodIn wsX7_whereIs wsX7_asksBox := goodIn_r _ [9, 10, 11, 12, 13, 8, 14, 15, 16, 17, 18, 19, 20, 21, 22, 23, 24, 25, 26, 27, 28, 29, 30, 31, 32, 33, 34, 35, 36, 37, 38, 39, 40, 41, 42, 43, 44, 45, 46, 47, 48, 49, 50, 51, 52, 53] (by decide +kernel) (by decide +kernel)
set_option maxRecDepth 20000 in
theorem gX7_whereIs_X7_asksBox : GoodIn wsX7_whereIs (wsV RX7 196 RX7 yX7_asksBox wsX7_asksBox) := goodIn_app (goodIn_of _ (by decide +kernel)) ggX7_whereIs_X7_asksBox
set_option maxRecDepth 20000 in
theorem ggX7_whereByLog_X7_asksBox : GoodIn wsX7_whereByLog wsX7_asksBox := goodIn_r _ [12, 13, 14, 15, 16, 11, 17, 18, 19, 20, 21, 22, 23, 24, 25, 26, 27, 28, 29, 30, 31, 32, 33, 34, 35, 36, 37, 38, 39, 40, 41, 42, 43, 44, 45, 46, 47, 48, 49, 50, 51, 52, 53, 54, 55, 56] (by decide +kernel) (by decide +kernel)
set_option maxRecDepth 20000 in
theorem gX7_whereByLog_X7_asksBox : GoodIn wsX7_whereByLog (wsV RX7 196 RX7 yX7_asksBox wsX7_asksBox) := goodIn_app (goodIn_of _ (by decide +kernel)) ggX7_whereByLog_X7_asksBox
set_option maxRecDepth 20000 in
theorem ggX7_liftedBy_X7_asksBox : GoodIn wsX7_liftedBy wsX7_asksBox := goodIn_r _ [6, 7, 8, 9, 10, 5, 11, 12, 13, 14, 15, 16, 17, 18, 19, 20, 21, 22, 23, 24, 25, 26, 27, 28, 29, 30, 31, 32, 33, 34, 35, 36, 37, 38, 39, 40, 41, 42, 43, 44, 45, 46, 47, 48, 49, 50] (by decide +kernel) (by decide +kernel)
set_option maxRecDepth 20000 in
theorem gX7_liftedBy_X7_asksBox : GoodIn wsX7_liftedBy (wsV RX7 196 RX7 yX7_asksBox wsX7_asksBox) := goodIn_app (goodIn_of _ (by decide +kernel)) ggX7_liftedBy_X7_asksBox
set_option maxRecDepth 20000 in
theorem ggX7_bookedFor_X7_asksBox : GoodIn wsX7_bookedFor wsX7_asksBox := goodIn_r _ [6, 7, 8, 9, 10, 5, 11, 12, 13, 14, 15, 16, 17, 18, 19, 20, 21, 22, 23, 24, 25, 26, 27, 28, 29, 30, 31, 32, 33, 34, 35, 36, 37, 38, 39, 40, 41, 42, 43, 44, 45, 46, 47, 48, 49, 50] (by decide +kernel) (by decide +kernel)
set_option maxRecDepth 20000 in
theorem gX7_bookedFor_X7_asksBox : GoodIn wsX7_bookedFor (wsV RX7 196 RX7 yX7_asksBox wsX7_asksBox) := goodIn_app (goodIn_of _ (by decide +kernel)) ggX7_bookedFor_X7_asksBox
set_option maxRecDepth 20000 in
theorem ggX7_placeOf_X7_isCrane : GoodIn wsX7_placeOf wsX7_isCrane := goodIn_r _ [6, 7, 8, 5, 9] (by decide +kernel) (by decide +kernel)
set_option maxRecDepth 20000 in
theorem gX7_placeOf_X7_isCrane : GoodIn wsX7_placeOf (va_wsS RX7 166 yX7_isCrane wsX7_isCrane) := goodIn_app (goodIn_of _ (by decide +kernel)) ggX7_placeOf_X7_isCrane
set_option maxRecDepth 20000 in
theorem ggX7_height_X7_in : GoodIn wsX7_height wsX7_in := goodIn_r _ [6] (by decide +kernel) (by decide +kernel)
set_option maxRecDepth 20000 in
theorem gX7_height_X7_in : GoodIn wsX7_height (va_wsS RX7 99 yX7_in wsX7_in) := goodIn_app (goodIn_of _ (by decide +kernel)) ggX7_height_X7_in
set_option maxRecDepth 20000 in
theorem ggX7_queue_X7_isWorker : GoodIn wsX7_queue wsX7_isWorker := goodIn_r _ [6, 7, 8, 5, 9] (by decide +kernel) (by decide +kernel)
set_option maxRecDepth 20000 in
theorem gX7_queue_X7_isWorker : GoodIn wsX7_queue (va_wsS RX7 163 yX7_isWorker wsX7_isWorker) := goodIn_app (goodIn_of _ (by decide +kernel)) ggX7_queue_X7_isWorker
set_option maxRecDepth 20000 in
theorem ggX7_queued_X7_isWorker : GoodIn wsX7_queued wsX7_isWorker := goodIn_r _ [7, 8, 9, 6, 10] (by decide +kernel) (by decide +kernel)
set_option maxRecDepth 20000 in
theorem gX7_queued_X7_isWorker : GoodIn wsX7_queued (va_wsS RX7 163 yX7_isWorker wsX7_isWorker) := goodIn_app (goodIn_of _ (by decide +kernel)) ggX7_queued_X7_isWorker
set_option maxRecDepth 20000 in
theorem ggX7_queued_X7_in : GoodIn wsX7_queued wsX7_in := goodIn_r _ [10] (by decide +kernel) (by decide +kernel)
set_option maxRecDepth 20000 in
theorem gX7_queued_X7_in : GoodIn wsX7_queued (va_wsS RX7 99 yX7_in wsX7_in) := goodIn_app (goodIn_of _ (by decide +kernel)) ggX7_queued_X7_in
set_option maxRecDepth 20000 in
theorem ggX7_seen_X7_in : GoodIn wsX7_seen wsX7_in := goodIn_r _ [6] (by decide +kernel) (by decide +kernel)
set_option maxRecDepth 20000 in
theorem gX7_seen_X7_in : GoodIn wsX7_seen (va_wsS RX7 99 yX7_in wsX7_in) := goodIn_app (goodIn_of _ (by decide +kernel)) ggX7_seen_X7_in
set_option maxRecDepth 20000 in
theorem ggX7_asksMessage_X7_in : GoodIn wsX7_asksMessage wsX7_in := goodIn_r _ [6] (by decide +kernel) (by decide +kernel)
set_option maxRecDepth 20000 in
theorem gX7_asksMessage_X7_in : GoodIn wsX7_asksMessage (va_wsS RX7 99 yX7_in wsX7_in) := goodIn_app (goodIn_of _ (by decide +kernel)) ggX7_asksMessage_X7_in
set_option maxRecDepth 20000 in
theorem ggX7_handed_X7_asksMessage : GoodIn wsX7_handed wsX7_asksMessage := goodIn_r _ [6, 7, 8, 9, 10, 5, 11, 12, 13, 14, 15, 16, 17, 18, 19, 20, 21, 22, 23, 24, 25, 26, 27, 28, 29, 30, 31, 32, 33, 34, 35, 36, 37, 38, 39, 40, 41, 42, 43, 44, 45, 46] (by decide +kernel) (by decide +kernel)
set_option maxRecDepth 20000 in
theorem gX7_handed_X7_asksMessage : GoodIn wsX7_handed (wsV RX7 199 RX7 yX7_asksMessage wsX7_asksMessage) := goodIn_app (goodIn_of _ (by decide +kernel)) ggX7_handed_X7_asksMessage
set_option maxRecDepth 20000 in
theorem ggX7_isDone_X7_asksMessage : GoodIn wsX7_isDone wsX7_asksMessage := goodIn_r _ [6, 7, 8, 9, 10, 5, 11, 12, 13, 14, 15, 16, 17, 18, 19, 20, 21, 22, 23, 24, 25, 26, 27, 28, 29, 30, 31, 32, 33, 34, 35, 36, 37, 38, 39, 40, 41, 42, 43, 44, 45, 46] (by decide +kernel) (by decide +kernel)
set_option maxRecDepth 20000 in
theorem gX7_isDone_X7_asksMessage : GoodIn wsX7_isDone (wsV RX7 199 RX7 yX7_asksMessage wsX7_asksMessage) := goodIn_app (goodIn_of _ (by decide +kernel)) ggX7_isDone_X7_asksMessage
set_option maxRecDepth 20000 in
theorem ggX7_moveAt_X7_in : GoodIn wsX7_moveAt wsX7_in := goodIn_r _ [7] (by decide +kernel) (by decide +kernel)
set_option maxRecDepth 20000 in
theorem gX7_moveAt_X7_in : GoodIn wsX7_moveAt (va_wsS RX7 99 yX7_in wsX7_in) := goodIn_app (goodIn_of _ (by decide +kernel)) ggX7_moveAt_X7_in
set_option maxRecDepth 20000 in
theorem ggJxc12de_init_da8c8_Jxa1e45_init_da8c8 : GoodIn wsJxc12de_init_da8c8 wsJxa1e45_init_da8c8 := goodIn_r _ [5, 6, 7, 8] (by decide +kernel) (by decide +kernel)
set_option maxRecDepth 20000 in
theorem gJxc12de_init_da8c8_Jxa1e45_init_da8c8 : GoodIn wsJxc12de_init_da8c8 (wsJxa1e45_init_da8c8) := ggJxc12de_init_da8c8_Jxa1e45_init_da8c8
set_option maxRecDepth 20000 in
theorem ggJx4a65c_init_da8c8_Jxc12de_init_da8c8 : GoodIn wsJx4a65c_init_da8c8 wsJxc12de_init_da8c8 := goodIn_r _ [6, 7, 8, 9, 10, 11, 12, 13, 14, 15, 16, 17] (by decide +kernel) (by decide +kernel)
set_option maxRecDepth 20000 in
theorem gJx4a65c_init_da8c8_Jxc12de_init_da8c8 : GoodIn wsJx4a65c_init_da8c8 (wsJxc12de_init_da8c8) := ggJx4a65c_init_da8c8_Jxc12de_init_da8c8
set_option maxRecDepth 20000 in
theorem ggJx4a65c_grow_92f84_J8_newLength_cabcc : GoodIn wsJx4a65c_grow_92f84 wsJ8_newLength_cabcc := goodIn_r _ [11, 12, 4, 5, 6, 13, 14, 15, 10, 16] (by decide +kernel) (by decide +kernel)
set_option maxRecDepth 20000 in
theorem gJx4a65c_grow_92f84_J8_newLength_cabcc : GoodIn wsJx4a65c_grow_92f84 (va_wsS RJx4a65c 73 yJ8_newLength_cabcc wsJ8_newLength_cabcc) := goodIn_app (goodIn_of _ (by decide +kernel)) ggJx4a65c_grow_92f84_J8_newLength_cabcc
set_option maxRecDepth 20000 in
theorem ggJx4a65c_grow_92f84_J7_copyOf_1904c : GoodIn wsJx4a65c_grow_92f84 wsJ7_copyOf_1904c := goodIn_r _ [20, 21, 22, 23, 24, 25, 26, 19, 27, 28, 29, 30, 31, 5, 32, 33, 34, 35, 36] (by decide +kernel) (by decide +kernel)
set_option maxRecDepth 20000 in
theorem gJx4a65c_grow_92f84_J7_copyOf_1904c : GoodIn wsJx4a65c_grow_92f84 (va_wsS RJx4a65c 66 yJ7_copyOf_1904c wsJ7_copyOf_1904c) := goodIn_app (goodIn_of _ (by decide +kernel)) ggJx4a65c_grow_92f84_J7_copyOf_1904c
set_option maxRecDepth 20000 in
theorem ggJx4a65c_grow_d5877_Jx4a65c_grow_92f84 : GoodIn wsJx4a65c_grow_d5877 wsJx4a65c_grow_92f84 := goodIn_r _ [6, 7, 8, 9, 10, 11, 12, 13, 14, 15, 16, 17, 18, 19, 20, 21, 22, 23, 24, 25, 26, 27, 28, 29, 30, 31, 32, 33, 34, 35, 36, 37, 38, 39, 40, 41, 42, 43, 44, 45] (by decide +kernel) (by decide +kernel)
set_option maxRecDepth 20000 in
theorem gJx4a65c_grow_d5877_Jx4a65c_grow_92f84 : GoodIn wsJx4a65c_grow_d5877 (wsV RJx4a65c 69 RJx4a65c yJx4a65c_grow_92f84 wsJx4a65c_grow_92f84) := goodIn_app (goodIn_of _ (by decide +kernel)) ggJx4a65c_grow_d5877_Jx4a65c_grow_92f84
set_option maxRecDepth 20000 in
theorem ggJx4a65c_get_915e3_J15_checkIndex_7cf53 : GoodIn wsJx4a65c_get_915e3 wsJ15_checkIndex_7cf53 := goodIn_r _ [5, 6, 7, 8, 9] (by decide +kernel) (by decide +kernel)
set_option maxRecDepth 20000 in
theorem gJx4a65c_get_915e3_J15_checkIndex_7cf53 : GoodIn wsJx4a65c_get_915e3 (va_wsS RJx4a65c 118 yJ15_checkIndex_7cf53 wsJ15_checkIndex_7cf53) := goodIn_app (goodIn_of _ (by decide +kernel)) ggJx4a65c_get_915e3_J15_checkIndex_7cf53
set_option maxRecDepth 20000 in
theorem ggJx4a65c_get_915e3_Jx4a65c_elementData_915e3 : GoodIn wsJx4a65c_get_915e3 wsJx4a65c_elementData_915e3 := goodIn_r _ [14, 15, 16, 17, 18] (by decide +kernel) (by decide +kernel)
set_option maxRecDepth 20000 in
theorem gJx4a65c_get_915e3_Jx4a65c_elementData_915e3 : GoodIn wsJx4a65c_get_915e3 (wsV RJx4a65c 123 RJx4a65c yJx4a65c_elementData_915e3 wsJx4a65c_elementData_915e3) := goodIn_app (goodIn_of _ (by decide +kernel)) ggJx4a65c_get_915e3_Jx4a65c_elementData_915e3
set_option maxRecDepth 20000 in
theorem ggJx4a65c_add_72be8_Jx4a65c_grow_d5877 : GoodIn wsJx4a65c_add_72be8 wsJx4a65c_grow_d5877 := goodIn_r _ [6, 1, 7, 8, 9, 5, 10, 11, 12, 13, 14, 15, 16, 17, 18, 19, 20, 21, 22, 23, 24, 25, 26, 27, 28, 29, 30, 31, 32, 33, 34, 35, 36, 37, 38, 39, 40, 41, 42, 43, 44, 45, 46, 47, 48, 49] (by decide +kernel) (by decide +kernel)
set_option maxRecDepth 20000 in
theorem gJx4a65c_add_72be8_Jx4a65c_grow_d5877 : GoodIn wsJx4a65c_add_72be8 (wsV RJx4a65c 129 RJx4a65c yJx4a65c_grow_d5877 wsJx4a65c_grow_d5877) := goodIn_app (goodIn_of _ (by decide +kernel)) ggJx4a65c_add_72be8_Jx4a65c_grow_d5877
set_option maxRecDepth 20000 in
theorem ggJx4a65c_add_9ea2d_Jx4a65c_add_72be8 : GoodIn wsJx4a65c_add_9ea2d wsJx4a65c_add_72be8 := goodIn_r _ [9, 4, 10, 11, 12, 8, 13, 14, 15, 16, 17, 3, 18, 19, 20, 21, 22, 23, 24, 25, 26, 27, 28, 29, 30, 31, 32, 33, 34, 35, 36, 37, 38, 39, 40, 41, 42, 43, 44, 45, 46, 47, 48, 49, 50, 51, 52, 53, 54, 55] (by decide +kernel) (by decide +kernel)
set_option maxRecDepth 20000 in
theorem gJx4a65c_add_9ea2d_Jx4a65c_add_72be8 : GoodIn wsJx4a65c_add_9ea2d (wsV RJx4a65c 131 RJx4a65c yJx4a65c_add_72be8 wsJx4a65c_add_72be8) := goodIn_app (goodIn_of _ (by decide +kernel)) ggJx4a65c_add_9ea2d_Jx4a65c_add_72be8
set_option maxRecDepth 20000 in
theorem ggJx4a65c_remove_915e3_J15_checkIndex_7cf53 : GoodIn wsJx4a65c_remove_915e3 wsJ15_checkIndex_7cf53 := goodIn_r _ [6, 7, 8, 9, 10] (by decide +kernel) (by decide +kernel)
set_option maxRecDepth 20000 in
theorem gJx4a65c_remove_915e3_J15_checkIndex_7cf53 : GoodIn wsJx4a65c_remove_915e3 (va_wsS RJx4a65c 118 yJ15_checkIndex_7cf53 wsJ15_checkIndex_7cf53) := goodIn_app (goodIn_of _ (by decide +kernel)) ggJx4a65c_remove_915e3_J15_checkIndex_7cf53
set_option maxRecDepth 20000 in
theorem ggJx4a65c_remove_915e3_Jx4a65c_fastRemove_b59b0 : GoodIn wsJx4a65c_remove_915e3 wsJx4a65c_fastRemove_b59b0 := goodIn_r _ [15, 16, 17, 1, 18, 19, 20, 21, 22, 23, 24] (by decide +kernel) (by decide +kernel)
set_option maxRecDepth 20000 in
theorem gJx4a65c_remove_915e3_Jx4a65c_fastRemove_b59b0 : GoodIn wsJx4a65c_remove_915e3 (wsV RJx4a65c 144 RJx4a65c yJx4a65c_fastRemove_b59b0 wsJx4a65c_fastRemove_b59b0) := goodIn_app (goodIn_of _ (by decide +kernel)) ggJx4a65c_remove_915e3_Jx4a65c_fastRemove_b59b0
set_option maxRecDepth 20000 in
theorem ggJ7_copyOf_1904c_J7_copyOf_6403c : GoodIn wsJ7_copyOf_1904c wsJ7_copyOf_6403c := goodIn_r _ [8, 9, 10, 11, 12, 13, 14, 15, 16, 17, 18] (by decide +kernel) (by decide +kernel)
set_option maxRecDepth 20000 in
theorem gJ7_copyOf_1904c_J7_copyOf_6403c : GoodIn wsJ7_copyOf_1904c (va_wsS RJ7 300 yJ7_copyOf_6403c wsJ7_copyOf_6403c) := goodIn_app (goodIn_of _ (by decide +kernel)) ggJ7_copyOf_1904c_J7_copyOf_6403c
set_option maxRecDepth 20000 in
theorem ggJ15_checkIndex_7cf53_J3_checkIndex_8e157 : GoodIn wsJ15_checkIndex_7cf53 wsJ3_checkIndex_8e157 := goodIn_r _ [4] (by decide +kernel) (by decide +kernel)
set_option maxRecDepth 20000 in
theorem gJ15_checkIndex_7cf53_J3_checkIndex_8e157 : GoodIn wsJ15_checkIndex_7cf53 (va_wsS RJ15 105 yJ3_checkIndex_8e157 wsJ3_checkIndex_8e157) := goodIn_app (goodIn_of _ (by decide +kernel)) ggJ15_checkIndex_7cf53_J3_checkIndex_8e157
set_option maxRecDepth 20000 in
theorem ggJ8_newLength_cabcc_J8_hugeLength_7cf53 : GoodIn wsJ8_newLength_cabcc wsJ8_hugeLength_7cf53 := goodIn_r _ [9, 5] (by decide +kernel) (by decide +kernel)
set_option maxRecDepth 20000 in
theorem gJ8_newLength_cabcc_J8_hugeLength_7cf53 : GoodIn wsJ8_newLength_cabcc (va_wsS RJ8 201 yJ8_hugeLength_7cf53 wsJ8_hugeLength_7cf53) := goodIn_app (goodIn_of _ (by decide +kernel)) ggJ8_newLength_cabcc_J8_hugeLength_7cf53
end
section
theorem dX0_init_0 : decode cX0_init 0 = .ok (.aload_n 0, 1) := by decide +kernel
theorem dX0_init_1 : decode cX0_init 1 = .ok (.invokespecial 3, 3) := by decide +kernel
theorem dX0_init_4 : decode cX0_init 4 = .ok (.aload_n 0, 1) := by decide +kernel
theorem dX0_init_5 : decode cX0_init 5 = .ok (.iconst 0, 1) := by decide +kernel
theorem dX0_init_6 : decode cX0_init 6 = .ok (.putfield 9, 3) := by decide +kernel
theorem dX0_init_9 : decode cX0_init 9 = .ok (.aload_n 0, 1) := by decide +kernel
theorem dX0_init_10 : decode cX0_init 10 = .ok (.iconst 0, 1) := by decide +kernel
theorem dX0_init_11 : decode cX0_init 11 = .ok (.putfield 15, 3) := by decide +kernel
theorem dX0_init_14 : decode cX0_init 14 = .ok (.aload_n 0, 1) := by decide +kernel
theorem dX0_init_15 : decode cX0_init 15 = .ok (.iconst (-1), 1) := by decide +kernel
theorem dX0_init_16 : decode cX0_init 16 = .ok (.putfield 18, 3) := by decide +kernel
theorem dX0_init_19 : decode cX0_init 19 = .ok (.aload_n 0, 1) := by decide +kernel
theorem dX0_init_20 : decode cX0_init 20 = .ok (.iconst (-1), 1) := by decide +kernel
theorem dX0_init_21 : decode cX0_init 21 = .ok (.putfield 21, 3) := by decide +kernel
theorem dX0_init_24 : decode cX0_init 24 = .ok (.aload_n 0, 1) := by decide +kernel
theorem dX0_init_25 : decode cX0_init 25 = .ok (.iconst (-1), 1) := by decide +kernel
theorem dX0_init_26 : decode cX0_init 26 = .ok (.putfield 24, 3) := by decide +kernel
theorem dX0_init_29 : decode cX0_init 29 = .ok (.aload_n 0, 1) := by decide +kernel
theorem dX0_init_30 : decode cX0_init 30 = .ok (.aload_n 1, 1) := by decide +kernel
theorem dX0_init_31 : decode cX0_init 31 = .ok (.putfield 27, 3) := by decide +kernel
theorem dX0_init_34 : decode cX0_init 34 = .ok (.aload_n 0, 1) := by decide +kernel
theorem dX0_init_35 : decode cX0_init 35 = .ok (.iload_n 2, 1) := by decide +kernel
theorem dX0_init_36 : decode cX0_init 36 = .ok (.putfield 31, 3) := by decide +kernel
theorem dX0_init_39 : decode cX0_init 39 = .ok (.aload_n 0, 1) := by decide +kernel
theorem dX0_init_40 : decode cX0_init 40 = .ok (.iload_n 2, 1) := by decide +kernel
theorem dX0_init_41 : decode cX0_init 41 = .ok (.putfield 34, 3) := by decide +kernel
theorem dX0_init_44 : decode cX0_init 44 = .ok (.return_, 1) := by decide +kernel
theorem dX0_bring_0 : decode cX0_bring 0 = .ok (.aload_n 0, 1) := by decide +kernel
theorem dX0_bring_1 : decode cX0_bring 1 = .ok (.iload_n 1, 1) := by decide +kernel
theorem dX0_bring_2 : decode cX0_bring 2 = .ok (.putfield 9, 3) := by decide +kernel
theorem dX0_bring_5 : decode cX0_bring 5 = .ok (.aload_n 0, 1) := by decide +kernel
theorem dX0_bring_6 : decode cX0_bring 6 = .ok (.iload_n 2, 1) := by decide +kernel
theorem dX0_bring_7 : decode cX0_bring 7 = .ok (.putfield 34, 3) := by decide +kernel
theorem dX0_bring_10 : decode cX0_bring 10 = .ok (.return_, 1) := by decide +kernel
theorem dX0_isAt_0 : decode cX0_isAt 0 = .ok (.aload_n 0, 1) := by decide +kernel
theorem dX0_isAt_1 : decode cX0_isAt 1 = .ok (.getfield 9, 3) := by decide +kernel
theorem dX0_isAt_4 : decode cX0_isAt 4 = .ok (.iload_n 1, 1) := by decide +kernel
theorem dX0_isAt_5 : decode cX0_isAt 5 = .ok (.if_icmp .ne 15, 3) := by decide +kernel
theorem dX0_isAt_8 : decode cX0_isAt 8 = .ok (.aload_n 0, 1) := by decide +kernel
theorem dX0_isAt_9 : decode cX0_isAt 9 = .ok (.getfield 34, 3) := by decide +kernel
theorem dX0_isAt_12 : decode cX0_isAt 12 = .ok (.iload_n 2, 1) := by decide +kernel
theorem dX0_isAt_13 : decode cX0_isAt 13 = .ok (.if_icmp .ne 7, 3) := by decide +kernel
theorem dX0_isAt_16 : decode cX0_isAt 16 = .ok (.iconst 1, 1) := by decide +kernel
theorem dX0_isAt_17 : decode cX0_isAt 17 = .ok (.goto 4, 3) := by decide +kernel
theorem dX0_isAt_20 : decode cX0_isAt 20 = .ok (.iconst 0, 1) := by decide +kernel
theorem dX0_isAt_21 : decode cX0_isAt 21 = .ok (.ireturn, 1) := by decide +kernel
theorem dX0_isBooked_0 : decode cX0_isBooked 0 = .ok (.aload_n 0, 1) := by decide +kernel
theorem dX0_isBooked_1 : decode cX0_isBooked 1 = .ok (.getfield 24, 3) := by decide +kernel
theorem dX0_isBooked_4 : decode cX0_isBooked 4 = .ok (.iconst (-1), 1) := by decide +kernel
theorem dX0_isBooked_5 : decode cX0_isBooked 5 = .ok (.if_icmp .eq 7, 3) := by decide +kernel
theorem dX0_isBooked_8 : decode cX0_isBooked 8 = .ok (.iconst 1, 1) := by decide +kernel
theorem dX0_isBooked_9 : decode cX0_isBooked 9 = .ok (.goto 4, 3) := by decide +kernel
theorem dX0_isBooked_12 : decode cX0_isBooked 12 = .ok (.iconst 0, 1) := by decide +kernel
theorem dX0_isBooked_13 : decode cX0_isBooked 13 = .ok (.ireturn, 1) := by decide +kernel
theorem dX0_isBookedAt_0 : decode cX0_isBookedAt 0 = .ok (.aload_n 0, 1) := by decide +kernel
theorem dX0_isBookedAt_1 : decode cX0_isBookedAt 1 = .ok (.getfield 21, 3) := by decide +kernel
theorem dX0_isBookedAt_4 : decode cX0_isBookedAt 4 = .ok (.iload_n 1, 1) := by decide +kernel
theorem dX0_isBookedAt_5 : decode cX0_isBookedAt 5 = .ok (.if_icmp .ne 15, 3) := by decide +kernel
theorem dX0_isBookedAt_8 : decode cX0_isBookedAt 8 = .ok (.aload_n 0, 1) := by decide +kernel
theorem dX0_isBookedAt_9 : decode cX0_isBookedAt 9 = .ok (.getfield 24, 3) := by decide +kernel
theorem dX0_isBookedAt_12 : decode cX0_isBookedAt 12 = .ok (.iload_n 2, 1) := by decide +kernel
theorem dX0_isBookedAt_13 : decode cX0_isBookedAt 13 = .ok (.if_icmp .ne 7, 3) := by decide +kernel
theorem dX0_isBookedAt_16 : decode cX0_isBookedAt 16 = .ok (.iconst 1, 1) := by decide +kernel
theorem dX0_isBookedAt_17 : decode cX0_isBookedAt 17 = .ok (.goto 4, 3) := by decide +kernel
theorem dX0_isBookedAt_20 : decode cX0_isBookedAt 20 = .ok (.iconst 0, 1) := by decide +kernel
theorem dX0_isBookedAt_21 : decode cX0_isBookedAt 21 = .ok (.ireturn, 1) := by decide +kernel
theorem dX0_dropBooking_0 : decode cX0_dropBooking 0 = .ok (.aload_n 0, 1) := by decide +kernel
theorem dX0_dropBooking_1 : decode cX0_dropBooking 1 = .ok (.iconst (-1), 1) := by decide +kernel
theorem dX0_dropBooking_2 : decode cX0_dropBooking 2 = .ok (.putfield 21, 3) := by decide +kernel
theorem dX0_dropBooking_5 : decode cX0_dropBooking 5 = .ok (.aload_n 0, 1) := by decide +kernel
theorem dX0_dropBooking_6 : decode cX0_dropBooking 6 = .ok (.iconst (-1), 1) := by decide +kernel
theorem dX0_dropBooking_7 : decode cX0_dropBooking 7 = .ok (.putfield 24, 3) := by decide +kernel
theorem dX0_dropBooking_10 : decode cX0_dropBooking 10 = .ok (.return_, 1) := by decide +kernel
theorem dX1_init_0 : decode cX1_init 0 = .ok (.aload_n 0, 1) := by decide +kernel
theorem dX1_init_1 : decode cX1_init 1 = .ok (.iload_n 1, 1) := by decide +kernel
theorem dX1_init_2 : decode cX1_init 2 = .ok (.invokespecial 1, 3) := by decide +kernel
theorem dX1_init_5 : decode cX1_init 5 = .ok (.aload_n 0, 1) := by decide +kernel
theorem dX1_init_6 : decode cX1_init 6 = .ok (.iload_n 2, 1) := by decide +kernel
theorem dX1_init_7 : decode cX1_init 7 = .ok (.putfield 7, 3) := by decide +kernel
theorem dX1_init_10 : decode cX1_init 10 = .ok (.return_, 1) := by decide +kernel
theorem dX2_init_0 : decode cX2_init 0 = .ok (.aload_n 0, 1) := by decide +kernel
theorem dX2_init_1 : decode cX2_init 1 = .ok (.invokespecial 3, 3) := by decide +kernel
theorem dX2_init_4 : decode cX2_init 4 = .ok (.aload_n 0, 1) := by decide +kernel
theorem dX2_init_5 : decode cX2_init 5 = .ok (.iconst 0, 1) := by decide +kernel
theorem dX2_init_6 : decode cX2_init 6 = .ok (.putfield 9, 3) := by decide +kernel
theorem dX2_init_9 : decode cX2_init 9 = .ok (.aload_n 0, 1) := by decide +kernel
theorem dX2_init_10 : decode cX2_init 10 = .ok (.iconst (-1), 1) := by decide +kernel
theorem dX2_init_11 : decode cX2_init 11 = .ok (.putfield 15, 3) := by decide +kernel
theorem dX2_init_14 : decode cX2_init 14 = .ok (.aload_n 0, 1) := by decide +kernel
theorem dX2_init_15 : decode cX2_init 15 = .ok (.iconst 0, 1) := by decide +kernel
theorem dX2_init_16 : decode cX2_init 16 = .ok (.putfield 18, 3) := by decide +kernel
theorem dX2_init_19 : decode cX2_init 19 = .ok (.aload_n 0, 1) := by decide +kernel
theorem dX2_init_20 : decode cX2_init 20 = .ok (.iload_n 1, 1) := by decide +kernel
theorem dX2_init_21 : decode cX2_init 21 = .ok (.putfield 22, 3) := by decide +kernel
theorem dX2_init_24 : decode cX2_init 24 = .ok (.aload_n 0, 1) := by decide +kernel
theorem dX2_init_25 : decode cX2_init 25 = .ok (.iload_n 2, 1) := by decide +kernel
theorem dX2_init_26 : decode cX2_init 26 = .ok (.putfield 25, 3) := by decide +kernel
theorem dX2_init_29 : decode cX2_init 29 = .ok (.aload_n 0, 1) := by decide +kernel
theorem dX2_init_30 : decode cX2_init 30 = .ok (.aload_n 3, 1) := by decide +kernel
theorem dX2_init_31 : decode cX2_init 31 = .ok (.putfield 28, 3) := by decide +kernel
theorem dX2_init_34 : decode cX2_init 34 = .ok (.aload_n 0, 1) := by decide +kernel
theorem dX2_init_35 : decode cX2_init 35 = .ok (.iload 4, 2) := by decide +kernel
theorem dX2_init_37 : decode cX2_init 37 = .ok (.putfield 32, 3) := by decide +kernel
theorem dX2_init_40 : decode cX2_init 40 = .ok (.return_, 1) := by decide +kernel
theorem dX2_isMoveMade_0 : decode cX2_isMoveMade 0 = .ok (.aload_n 0, 1) := by decide +kernel
theorem dX2_isMoveMade_1 : decode cX2_isMoveMade 1 = .ok (.getfield 15, 3) := by decide +kernel
theorem dX2_isMoveMade_4 : decode cX2_isMoveMade 4 = .ok (.iconst (-1), 1) := by decide +kernel
theorem dX2_isMoveMade_5 : decode cX2_isMoveMade 5 = .ok (.if_icmp .eq 7, 3) := by decide +kernel
theorem dX2_isMoveMade_8 : decode cX2_isMoveMade 8 = .ok (.iconst 1, 1) := by decide +kernel
theorem dX2_isMoveMade_9 : decode cX2_isMoveMade 9 = .ok (.goto 4, 3) := by decide +kernel
theorem dX2_isMoveMade_12 : decode cX2_isMoveMade 12 = .ok (.iconst 0, 1) := by decide +kernel
theorem dX2_isMoveMade_13 : decode cX2_isMoveMade 13 = .ok (.ireturn, 1) := by decide +kernel
theorem dX3_init_0 : decode cX3_init 0 = .ok (.aload_n 0, 1) := by decide +kernel
theorem dX3_init_1 : decode cX3_init 1 = .ok (.invokespecial 1, 3) := by decide +kernel
theorem dX3_init_4 : decode cX3_init 4 = .ok (.aload_n 0, 1) := by decide +kernel
theorem dX3_init_5 : decode cX3_init 5 = .ok (.iconst 0, 1) := by decide +kernel
theorem dX3_init_6 : decode cX3_init 6 = .ok (.putfield 7, 3) := by decide +kernel
theorem dX3_init_9 : decode cX3_init 9 = .ok (.aload_n 0, 1) := by decide +kernel
theorem dX3_init_10 : decode cX3_init 10 = .ok (.iload_n 1, 1) := by decide +kernel
theorem dX3_init_11 : decode cX3_init 11 = .ok (.putfield 13, 3) := by decide +kernel
theorem dX3_init_14 : decode cX3_init 14 = .ok (.aload_n 0, 1) := by decide +kernel
theorem dX3_init_15 : decode cX3_init 15 = .ok (.iload_n 2, 1) := by decide +kernel
theorem dX3_init_16 : decode cX3_init 16 = .ok (.putfield 17, 3) := by decide +kernel
theorem dX3_init_19 : decode cX3_init 19 = .ok (.return_, 1) := by decide +kernel
theorem dX4_init_0 : decode cX4_init 0 = .ok (.aload_n 0, 1) := by decide +kernel
theorem dX4_init_1 : decode cX4_init 1 = .ok (.iload_n 1, 1) := by decide +kernel
theorem dX4_init_2 : decode cX4_init 2 = .ok (.invokespecial 1, 3) := by decide +kernel
theorem dX4_init_5 : decode cX4_init 5 = .ok (.aload_n 0, 1) := by decide +kernel
theorem dX4_init_6 : decode cX4_init 6 = .ok (.aconst_null, 1) := by decide +kernel
theorem dX4_init_7 : decode cX4_init 7 = .ok (.putfield 7, 3) := by decide +kernel
theorem dX4_init_10 : decode cX4_init 10 = .ok (.return_, 1) := by decide +kernel
theorem dX5_init_0 : decode cX5_init 0 = .ok (.aload_n 0, 1) := by decide +kernel
theorem dX5_init_1 : decode cX5_init 1 = .ok (.invokespecial 3, 3) := by decide +kernel
theorem dX5_init_4 : decode cX5_init 4 = .ok (.aload_n 0, 1) := by decide +kernel
theorem dX5_init_5 : decode cX5_init 5 = .ok (.new 9, 3) := by decide +kernel
theorem dX5_init_8 : decode cX5_init 8 = .ok (.dup, 1) := by decide +kernel
theorem dX5_init_9 : decode cX5_init 9 = .ok (.invokespecial 11, 3) := by decide +kernel
theorem dX5_init_12 : decode cX5_init 12 = .ok (.putfield 12, 3) := by decide +kernel
theorem dX5_init_15 : decode cX5_init 15 = .ok (.aload_n 0, 1) := by decide +kernel
theorem dX5_init_16 : decode cX5_init 16 = .ok (.new 9, 3) := by decide +kernel
theorem dX5_init_19 : decode cX5_init 19 = .ok (.dup, 1) := by decide +kernel
theorem dX5_init_20 : decode cX5_init 20 = .ok (.invokespecial 11, 3) := by decide +kernel
theorem dX5_init_23 : decode cX5_init 23 = .ok (.putfield 18, 3) := by decide +kernel
theorem dX5_init_26 : decode cX5_init 26 = .ok (.aload_n 0, 1) := by decide +kernel
theorem dX5_init_27 : decode cX5_init 27 = .ok (.iconst 0, 1) := by decide +kernel
theorem dX5_init_28 : decode cX5_init 28 = .ok (.putfield 21, 3) := by decide +kernel
theorem dX5_init_31 : decode cX5_init 31 = .ok (.aload_n 0, 1) := by decide +kernel
theorem dX5_init_32 : decode cX5_init 32 = .ok (.iconst 0, 1) := by decide +kernel
theorem dX5_init_33 : decode cX5_init 33 = .ok (.putfield 25, 3) := by decide +kernel
theorem dX5_init_36 : decode cX5_init 36 = .ok (.aload_n 0, 1) := by decide +kernel
theorem dX5_init_37 : decode cX5_init 37 = .ok (.iconst 0, 1) := by decide +kernel
theorem dX5_init_38 : decode cX5_init 38 = .ok (.putfield 28, 3) := by decide +kernel
theorem dX5_init_41 : decode cX5_init 41 = .ok (.aload_n 0, 1) := by decide +kernel
theorem dX5_init_42 : decode cX5_init 42 = .ok (.aconst_null, 1) := by decide +kernel
theorem dX5_init_43 : decode cX5_init 43 = .ok (.putfield 32, 3) := by decide +kernel
theorem dX5_init_46 : decode cX5_init 46 = .ok (.aload_n 0, 1) := by decide +kernel
theorem dX5_init_47 : decode cX5_init 47 = .ok (.iload_n 1, 1) := by decide +kernel
theorem dX5_init_48 : decode cX5_init 48 = .ok (.putfield 36, 3) := by decide +kernel
theorem dX5_init_51 : decode cX5_init 51 = .ok (.return_, 1) := by decide +kernel
theorem dX5_takeOut_0 : decode cX5_takeOut 0 = .ok (.aload_n 1, 1) := by decide +kernel
theorem dX5_takeOut_1 : decode cX5_takeOut 1 = .ok (.aload_n 0, 1) := by decide +kernel
theorem dX5_takeOut_2 : decode cX5_takeOut 2 = .ok (.getfield 12, 3) := by decide +kernel
theorem dX5_takeOut_5 : decode cX5_takeOut 5 = .ok (.invokestatic 39, 3) := by decide +kernel
theorem dX5_takeOut_8 : decode cX5_takeOut 8 = .ok (.istore_n 2, 1) := by decide +kernel
theorem dX5_takeOut_9 : decode cX5_takeOut 9 = .ok (.iload_n 2, 1) := by decide +kernel
theorem dX5_takeOut_10 : decode cX5_takeOut 10 = .ok (.iconst (-1), 1) := by decide +kernel
theorem dX5_takeOut_11 : decode cX5_takeOut 11 = .ok (.if_icmp .eq 12, 3) := by decide +kernel
theorem dX5_takeOut_14 : decode cX5_takeOut 14 = .ok (.aload_n 0, 1) := by decide +kernel
theorem dX5_takeOut_15 : decode cX5_takeOut 15 = .ok (.getfield 12, 3) := by decide +kernel
theorem dX5_takeOut_18 : decode cX5_takeOut 18 = .ok (.iload_n 2, 1) := by decide +kernel
theorem dX5_takeOut_19 : decode cX5_takeOut 19 = .ok (.invokevirtual 43, 3) := by decide +kernel
theorem dX5_takeOut_22 : decode cX5_takeOut 22 = .ok (.pop, 1) := by decide +kernel
theorem dX5_takeOut_23 : decode cX5_takeOut 23 = .ok (.return_, 1) := by decide +kernel
theorem dX5_putLast_0 : decode cX5_putLast 0 = .ok (.aload_n 0, 1) := by decide +kernel
theorem dX5_putLast_1 : decode cX5_putLast 1 = .ok (.aload_n 1, 1) := by decide +kernel
theorem dX5_putLast_2 : decode cX5_putLast 2 = .ok (.invokevirtual 47, 3) := by decide +kernel
theorem dX5_putLast_5 : decode cX5_putLast 5 = .ok (.aload_n 0, 1) := by decide +kernel
theorem dX5_putLast_6 : decode cX5_putLast 6 = .ok (.getfield 12, 3) := by decide +kernel
theorem dX5_putLast_9 : decode cX5_putLast 9 = .ok (.aload_n 1, 1) := by decide +kernel
theorem dX5_putLast_10 : decode cX5_putLast 10 = .ok (.invokevirtual 51, 3) := by decide +kernel
theorem dX5_putLast_13 : decode cX5_putLast 13 = .ok (.pop, 1) := by decide +kernel
theorem dX5_putLast_14 : decode cX5_putLast 14 = .ok (.return_, 1) := by decide +kernel
theorem dX6_init_0 : decode cX6_init 0 = .ok (.aload_n 0, 1) := by decide +kernel
theorem dX6_init_1 : decode cX6_init 1 = .ok (.invokespecial 3, 3) := by decide +kernel
theorem dX6_init_4 : decode cX6_init 4 = .ok (.aload_n 0, 1) := by decide +kernel
theorem dX6_init_5 : decode cX6_init 5 = .ok (.new 9, 3) := by decide +kernel
theorem dX6_init_8 : decode cX6_init 8 = .ok (.dup, 1) := by decide +kernel
theorem dX6_init_9 : decode cX6_init 9 = .ok (.invokespecial 11, 3) := by decide +kernel
theorem dX6_init_12 : decode cX6_init 12 = .ok (.putfield 12, 3) := by decide +kernel
theorem dX6_init_15 : decode cX6_init 15 = .ok (.aload_n 0, 1) := by decide +kernel
theorem dX6_init_16 : decode cX6_init 16 = .ok (.new 9, 3) := by decide +kernel
theorem dX6_init_19 : decode cX6_init 19 = .ok (.dup, 1) := by decide +kernel
theorem dX6_init_20 : decode cX6_init 20 = .ok (.invokespecial 11, 3) := by decide +kernel
theorem dX6_init_23 : decode cX6_init 23 = .ok (.putfield 16, 3) := by decide +kernel
theorem dX6_init_26 : decode cX6_init 26 = .ok (.aload_n 0, 1) := by decide +kernel
theorem dX6_init_27 : decode cX6_init 27 = .ok (.new 9, 3) := by decide +kernel
theorem dX6_init_30 : decode cX6_init 30 = .ok (.dup, 1) := by decide +kernel
theorem dX6_init_31 : decode cX6_init 31 = .ok (.invokespecial 11, 3) := by decide +kernel
theorem dX6_init_34 : decode cX6_init 34 = .ok (.putfield 19, 3) := by decide +kernel
theorem dX6_init_37 : decode cX6_init 37 = .ok (.aload_n 0, 1) := by decide +kernel
theorem dX6_init_38 : decode cX6_init 38 = .ok (.new 9, 3) := by decide +kernel
theorem dX6_init_41 : decode cX6_init 41 = .ok (.dup, 1) := by decide +kernel
theorem dX6_init_42 : decode cX6_init 42 = .ok (.invokespecial 11, 3) := by decide +kernel
theorem dX6_init_45 : decode cX6_init 45 = .ok (.putfield 22, 3) := by decide +kernel
theorem dX6_init_48 : decode cX6_init 48 = .ok (.aload_n 0, 1) := by decide +kernel
theorem dX6_init_49 : decode cX6_init 49 = .ok (.new 9, 3) := by decide +kernel
theorem dX6_init_52 : decode cX6_init 52 = .ok (.dup, 1) := by decide +kernel
theorem dX6_init_53 : decode cX6_init 53 = .ok (.invokespecial 11, 3) := by decide +kernel
theorem dX6_init_56 : decode cX6_init 56 = .ok (.putfield 25, 3) := by decide +kernel
theorem dX6_init_59 : decode cX6_init 59 = .ok (.aload_n 0, 1) := by decide +kernel
theorem dX6_init_60 : decode cX6_init 60 = .ok (.new 9, 3) := by decide +kernel
theorem dX6_init_63 : decode cX6_init 63 = .ok (.dup, 1) := by decide +kernel
theorem dX6_init_64 : decode cX6_init 64 = .ok (.invokespecial 11, 3) := by decide +kernel
theorem dX6_init_67 : decode cX6_init 67 = .ok (.putfield 28, 3) := by decide +kernel
theorem dX6_init_70 : decode cX6_init 70 = .ok (.aload_n 0, 1) := by decide +kernel
theorem dX6_init_71 : decode cX6_init 71 = .ok (.iconst 0, 1) := by decide +kernel
theorem dX6_init_72 : decode cX6_init 72 = .ok (.putfield 31, 3) := by decide +kernel
theorem dX6_init_75 : decode cX6_init 75 = .ok (.aload_n 0, 1) := by decide +kernel
theorem dX6_init_76 : decode cX6_init 76 = .ok (.iconst 0, 1) := by decide +kernel
theorem dX6_init_77 : decode cX6_init 77 = .ok (.putfield 35, 3) := by decide +kernel
theorem dX6_init_80 : decode cX6_init 80 = .ok (.iconst 0, 1) := by decide +kernel
theorem dX6_init_81 : decode cX6_init 81 = .ok (.istore_n 1, 1) := by decide +kernel
theorem dX6_init_82 : decode cX6_init 82 = .ok (.iload_n 1, 1) := by decide +kernel
theorem dX6_init_83 : decode cX6_init 83 = .ok (.iconst 4, 1) := by decide +kernel
theorem dX6_init_84 : decode cX6_init 84 = .ok (.if_icmp .ge 28, 3) := by decide +kernel
theorem dX6_init_87 : decode cX6_init 87 = .ok (.aload_n 0, 1) := by decide +kernel
theorem dX6_init_88 : decode cX6_init 88 = .ok (.getfield 25, 3) := by decide +kernel
theorem dX6_init_91 : decode cX6_init 91 = .ok (.new 38, 3) := by decide +kernel
theorem dX6_init_94 : decode cX6_init 94 = .ok (.dup, 1) := by decide +kernel
theorem dX6_init_95 : decode cX6_init 95 = .ok (.iload_n 1, 1) := by decide +kernel
theorem dX6_init_96 : decode cX6_init 96 = .ok (.iload_n 1, 1) := by decide +kernel
theorem dX6_init_97 : decode cX6_init 97 = .ok (.iconst 5, 1) := by decide +kernel
theorem dX6_init_98 : decode cX6_init 98 = .ok (.imul, 1) := by decide +kernel
theorem dX6_init_99 : decode cX6_init 99 = .ok (.invokespecial 40, 3) := by decide +kernel
theorem dX6_init_102 : decode cX6_init 102 = .ok (.invokevirtual 43, 3) := by decide +kernel
theorem dX6_init_105 : decode cX6_init 105 = .ok (.pop, 1) := by decide +kernel
theorem dX6_init_106 : decode cX6_init 106 = .ok (.iinc 1 1, 3) := by decide +kernel
theorem dX6_init_109 : decode cX6_init 109 = .ok (.goto (-27), 3) := by decide +kernel
theorem dX6_init_112 : decode cX6_init 112 = .ok (.iconst 0, 1) := by decide +kernel
theorem dX6_init_113 : decode cX6_init 113 = .ok (.istore_n 1, 1) := by decide +kernel
theorem dX6_init_114 : decode cX6_init 114 = .ok (.iload_n 1, 1) := by decide +kernel
theorem dX6_init_115 : decode cX6_init 115 = .ok (.iconst 4, 1) := by decide +kernel
theorem dX6_init_116 : decode cX6_init 116 = .ok (.if_icmp .ge 27, 3) := by decide +kernel
theorem dX6_init_119 : decode cX6_init 119 = .ok (.aload_n 0, 1) := by decide +kernel
theorem dX6_init_120 : decode cX6_init 120 = .ok (.getfield 28, 3) := by decide +kernel
theorem dX6_init_123 : decode cX6_init 123 = .ok (.new 47, 3) := by decide +kernel
theorem dX6_init_126 : decode cX6_init 126 = .ok (.dup, 1) := by decide +kernel
theorem dX6_init_127 : decode cX6_init 127 = .ok (.iconst 4, 1) := by decide +kernel
theorem dX6_init_128 : decode cX6_init 128 = .ok (.iload_n 1, 1) := by decide +kernel
theorem dX6_init_129 : decode cX6_init 129 = .ok (.iadd, 1) := by decide +kernel
theorem dX6_init_130 : decode cX6_init 130 = .ok (.invokespecial 49, 3) := by decide +kernel
theorem dX6_init_133 : decode cX6_init 133 = .ok (.invokevirtual 43, 3) := by decide +kernel
theorem dX6_init_136 : decode cX6_init 136 = .ok (.pop, 1) := by decide +kernel
theorem dX6_init_137 : decode cX6_init 137 = .ok (.iinc 1 1, 3) := by decide +kernel
theorem dX6_init_140 : decode cX6_init 140 = .ok (.goto (-26), 3) := by decide +kernel
theorem dX6_init_143 : decode cX6_init 143 = .ok (.return_, 1) := by decide +kernel
theorem dX6_berth_0 : decode cX6_berth 0 = .ok (.iload_n 1, 1) := by decide +kernel
theorem dX6_berth_1 : decode cX6_berth 1 = .ok (.bipush 16, 2) := by decide +kernel
theorem dX6_berth_3 : decode cX6_berth 3 = .ok (.invokestatic 52, 3) := by decide +kernel
theorem dX6_berth_6 : decode cX6_berth 6 = .ok (.iload_n 2, 1) := by decide +kernel
theorem dX6_berth_7 : decode cX6_berth 7 = .ok (.iconst 1, 1) := by decide +kernel
theorem dX6_berth_8 : decode cX6_berth 8 = .ok (.if_icmp .lt 17, 3) := by decide +kernel
theorem dX6_berth_11 : decode cX6_berth 11 = .ok (.iload_n 2, 1) := by decide +kernel
theorem dX6_berth_12 : decode cX6_berth 12 = .ok (.bipush 8, 2) := by decide +kernel
theorem dX6_berth_14 : decode cX6_berth 14 = .ok (.if_icmp .gt 11, 3) := by decide +kernel
theorem dX6_berth_17 : decode cX6_berth 17 = .ok (.iload_n 1, 1) := by decide +kernel
theorem dX6_berth_18 : decode cX6_berth 18 = .ok (.iload_n 2, 1) := by decide +kernel
theorem dX6_berth_19 : decode cX6_berth 19 = .ok (.iadd, 1) := by decide +kernel
theorem dX6_berth_20 : decode cX6_berth 20 = .ok (.bipush 16, 2) := by decide +kernel
theorem dX6_berth_22 : decode cX6_berth 22 = .ok (.if_icmp .le 13, 3) := by decide +kernel
theorem dX6_berth_25 : decode cX6_berth 25 = .ok (.new 55, 3) := by decide +kernel
theorem dX6_berth_28 : decode cX6_berth 28 = .ok (.dup, 1) := by decide +kernel
theorem dX6_berth_29 : decode cX6_berth 29 = .ok (.ldc 57, 2) := by decide +kernel
theorem dX6_berth_31 : decode cX6_berth 31 = .ok (.invokespecial 59, 3) := by decide +kernel
theorem dX6_berth_34 : decode cX6_berth 34 = .ok (.athrow, 1) := by decide +kernel
theorem dX6_berth_35 : decode cX6_berth 35 = .ok (.aload_n 0, 1) := by decide +kernel
theorem dX6_berth_36 : decode cX6_berth 36 = .ok (.getfield 12, 3) := by decide +kernel
theorem dX6_berth_39 : decode cX6_berth 39 = .ok (.invokevirtual 62, 3) := by decide +kernel
theorem dX6_berth_42 : decode cX6_berth 42 = .ok (.bipush 10, 2) := by decide +kernel
theorem dX6_berth_44 : decode cX6_berth 44 = .ok (.if_icmp .ge 14, 3) := by decide +kernel
theorem dX6_berth_47 : decode cX6_berth 47 = .ok (.aload_n 0, 1) := by decide +kernel
theorem dX6_berth_48 : decode cX6_berth 48 = .ok (.iload_n 1, 1) := by decide +kernel
theorem dX6_berth_49 : decode cX6_berth 49 = .ok (.iload_n 1, 1) := by decide +kernel
theorem dX6_berth_50 : decode cX6_berth 50 = .ok (.iload_n 2, 1) := by decide +kernel
theorem dX6_berth_51 : decode cX6_berth 51 = .ok (.iadd, 1) := by decide +kernel
theorem dX6_berth_52 : decode cX6_berth 52 = .ok (.invokevirtual 66, 3) := by decide +kernel
theorem dX6_berth_55 : decode cX6_berth 55 = .ok (.ifCond .eq 13, 3) := by decide +kernel
theorem dX6_berth_58 : decode cX6_berth 58 = .ok (.new 70, 3) := by decide +kernel
theorem dX6_berth_61 : decode cX6_berth 61 = .ok (.dup, 1) := by decide +kernel
theorem dX6_berth_62 : decode cX6_berth 62 = .ok (.ldc 72, 2) := by decide +kernel
theorem dX6_berth_64 : decode cX6_berth 64 = .ok (.invokespecial 74, 3) := by decide +kernel
theorem dX6_berth_67 : decode cX6_berth 67 = .ok (.athrow, 1) := by decide +kernel
theorem dX6_berth_68 : decode cX6_berth 68 = .ok (.aload_n 0, 1) := by decide +kernel
theorem dX6_berth_69 : decode cX6_berth 69 = .ok (.getfield 12, 3) := by decide +kernel
theorem dX6_berth_72 : decode cX6_berth 72 = .ok (.new 75, 3) := by decide +kernel
theorem dX6_berth_75 : decode cX6_berth 75 = .ok (.dup, 1) := by decide +kernel
theorem dX6_berth_76 : decode cX6_berth 76 = .ok (.iload_n 1, 1) := by decide +kernel
theorem dX6_berth_77 : decode cX6_berth 77 = .ok (.iload_n 1, 1) := by decide +kernel
theorem dX6_berth_78 : decode cX6_berth 78 = .ok (.iload_n 2, 1) := by decide +kernel
theorem dX6_berth_79 : decode cX6_berth 79 = .ok (.iadd, 1) := by decide +kernel
theorem dX6_berth_80 : decode cX6_berth 80 = .ok (.invokespecial 77, 3) := by decide +kernel
theorem dX6_berth_83 : decode cX6_berth 83 = .ok (.invokevirtual 43, 3) := by decide +kernel
theorem dX6_berth_86 : decode cX6_berth 86 = .ok (.pop, 1) := by decide +kernel
theorem dX6_berth_87 : decode cX6_berth 87 = .ok (.aload_n 0, 1) := by decide +kernel
theorem dX6_berth_88 : decode cX6_berth 88 = .ok (.getfield 12, 3) := by decide +kernel
theorem dX6_berth_91 : decode cX6_berth 91 = .ok (.invokevirtual 62, 3) := by decide +kernel
theorem dX6_berth_94 : decode cX6_berth 94 = .ok (.iconst 1, 1) := by decide +kernel
theorem dX6_berth_95 : decode cX6_berth 95 = .ok (.isub, 1) := by decide +kernel
theorem dX6_berth_96 : decode cX6_berth 96 = .ok (.ireturn, 1) := by decide +kernel
theorem dX6_box_0 : decode cX6_box 0 = .ok (.aload_n 0, 1) := by decide +kernel
theorem dX6_box_1 : decode cX6_box 1 = .ok (.iload_n 1, 1) := by decide +kernel
theorem dX6_box_2 : decode cX6_box 2 = .ok (.invokevirtual 78, 3) := by decide +kernel
theorem dX6_box_5 : decode cX6_box 5 = .ok (.astore_n 3, 1) := by decide +kernel
theorem dX6_box_6 : decode cX6_box 6 = .ok (.iload_n 2, 1) := by decide +kernel
theorem dX6_box_7 : decode cX6_box 7 = .ok (.aload_n 3, 1) := by decide +kernel
theorem dX6_box_8 : decode cX6_box 8 = .ok (.getfield 82, 3) := by decide +kernel
theorem dX6_box_11 : decode cX6_box 11 = .ok (.if_icmp .lt 11, 3) := by decide +kernel
theorem dX6_box_14 : decode cX6_box 14 = .ok (.iload_n 2, 1) := by decide +kernel
theorem dX6_box_15 : decode cX6_box 15 = .ok (.aload_n 3, 1) := by decide +kernel
theorem dX6_box_16 : decode cX6_box 16 = .ok (.getfield 85, 3) := by decide +kernel
theorem dX6_box_19 : decode cX6_box 19 = .ok (.if_icmp .lt 13, 3) := by decide +kernel
theorem dX6_box_22 : decode cX6_box 22 = .ok (.new 55, 3) := by decide +kernel
theorem dX6_box_25 : decode cX6_box 25 = .ok (.dup, 1) := by decide +kernel
theorem dX6_box_26 : decode cX6_box 26 = .ok (.ldc 88, 2) := by decide +kernel
theorem dX6_box_28 : decode cX6_box 28 = .ok (.invokespecial 59, 3) := by decide +kernel
theorem dX6_box_31 : decode cX6_box 31 = .ok (.athrow, 1) := by decide +kernel
theorem dX6_box_32 : decode cX6_box 32 = .ok (.aload_n 0, 1) := by decide +kernel
theorem dX6_box_33 : decode cX6_box 33 = .ok (.getfield 16, 3) := by decide +kernel
theorem dX6_box_36 : decode cX6_box 36 = .ok (.invokevirtual 62, 3) := by decide +kernel
theorem dX6_box_39 : decode cX6_box 39 = .ok (.bipush 24, 2) := by decide +kernel
theorem dX6_box_41 : decode cX6_box 41 = .ok (.if_icmp .lt 13, 3) := by decide +kernel
theorem dX6_box_44 : decode cX6_box 44 = .ok (.new 70, 3) := by decide +kernel
theorem dX6_box_47 : decode cX6_box 47 = .ok (.dup, 1) := by decide +kernel
theorem dX6_box_48 : decode cX6_box 48 = .ok (.ldc 90, 2) := by decide +kernel
theorem dX6_box_50 : decode cX6_box 50 = .ok (.invokespecial 74, 3) := by decide +kernel
theorem dX6_box_53 : decode cX6_box 53 = .ok (.athrow, 1) := by decide +kernel
theorem dX6_box_54 : decode cX6_box 54 = .ok (.aload_n 0, 1) := by decide +kernel
theorem dX6_box_55 : decode cX6_box 55 = .ok (.getfield 16, 3) := by decide +kernel
theorem dX6_box_58 : decode cX6_box 58 = .ok (.new 92, 3) := by decide +kernel
theorem dX6_box_61 : decode cX6_box 61 = .ok (.dup, 1) := by decide +kernel
theorem dX6_box_62 : decode cX6_box 62 = .ok (.aload_n 3, 1) := by decide +kernel
theorem dX6_box_63 : decode cX6_box 63 = .ok (.iload_n 2, 1) := by decide +kernel
theorem dX6_box_64 : decode cX6_box 64 = .ok (.invokespecial 94, 3) := by decide +kernel
theorem dX6_box_67 : decode cX6_box 67 = .ok (.invokevirtual 43, 3) := by decide +kernel
theorem dX6_box_70 : decode cX6_box 70 = .ok (.pop, 1) := by decide +kernel
theorem dX6_box_71 : decode cX6_box 71 = .ok (.aload_n 0, 1) := by decide +kernel
theorem dX6_box_72 : decode cX6_box 72 = .ok (.getfield 16, 3) := by decide +kernel
theorem dX6_box_75 : decode cX6_box 75 = .ok (.invokevirtual 62, 3) := by decide +kernel
theorem dX6_box_78 : decode cX6_box 78 = .ok (.iconst 1, 1) := by decide +kernel
theorem dX6_box_79 : decode cX6_box 79 = .ok (.isub, 1) := by decide +kernel
theorem dX6_box_80 : decode cX6_box 80 = .ok (.ireturn, 1) := by decide +kernel
theorem dX6_leave_0 : decode cX6_leave 0 = .ok (.aload_n 0, 1) := by decide +kernel
theorem dX6_leave_1 : decode cX6_leave 1 = .ok (.iload_n 1, 1) := by decide +kernel
theorem dX6_leave_2 : decode cX6_leave 2 = .ok (.invokevirtual 78, 3) := by decide +kernel
theorem dX6_leave_5 : decode cX6_leave 5 = .ok (.astore_n 2, 1) := by decide +kernel
theorem dX6_leave_6 : decode cX6_leave 6 = .ok (.iconst 0, 1) := by decide +kernel
theorem dX6_leave_7 : decode cX6_leave 7 = .ok (.istore_n 3, 1) := by decide +kernel
theorem dX6_leave_8 : decode cX6_leave 8 = .ok (.iconst 0, 1) := by decide +kernel
theorem dX6_leave_9 : decode cX6_leave 9 = .ok (.istore 4, 2) := by decide +kernel
theorem dX6_leave_11 : decode cX6_leave 11 = .ok (.iload 4, 2) := by decide +kernel
theorem dX6_leave_13 : decode cX6_leave 13 = .ok (.aload_n 0, 1) := by decide +kernel
theorem dX6_leave_14 : decode cX6_leave 14 = .ok (.getfield 16, 3) := by decide +kernel
theorem dX6_leave_17 : decode cX6_leave 17 = .ok (.invokevirtual 62, 3) := by decide +kernel
theorem dX6_leave_20 : decode cX6_leave 20 = .ok (.if_icmp .ge 53, 3) := by decide +kernel
theorem dX6_leave_23 : decode cX6_leave 23 = .ok (.aload_n 0, 1) := by decide +kernel
theorem dX6_leave_24 : decode cX6_leave 24 = .ok (.getfield 16, 3) := by decide +kernel
theorem dX6_leave_27 : decode cX6_leave 27 = .ok (.iload 4, 2) := by decide +kernel
theorem dX6_leave_29 : decode cX6_leave 29 = .ok (.invokevirtual 97, 3) := by decide +kernel
theorem dX6_leave_32 : decode cX6_leave 32 = .ok (.checkcast 92, 3) := by decide +kernel
theorem dX6_leave_35 : decode cX6_leave 35 = .ok (.astore 5, 2) := by decide +kernel
theorem dX6_leave_37 : decode cX6_leave 37 = .ok (.aload 5, 2) := by decide +kernel
theorem dX6_leave_39 : decode cX6_leave 39 = .ok (.getfield 101, 3) := by decide +kernel
theorem dX6_leave_42 : decode cX6_leave 42 = .ok (.aload_n 2, 1) := by decide +kernel
theorem dX6_leave_43 : decode cX6_leave 43 = .ok (.if_acmp .ne 24, 3) := by decide +kernel
theorem dX6_leave_46 : decode cX6_leave 46 = .ok (.aload 5, 2) := by decide +kernel
theorem dX6_leave_48 : decode cX6_leave 48 = .ok (.getfield 105, 3) := by decide +kernel
theorem dX6_leave_51 : decode cX6_leave 51 = .ok (.ifCond .ne 13, 3) := by decide +kernel
theorem dX6_leave_54 : decode cX6_leave 54 = .ok (.new 70, 3) := by decide +kernel
theorem dX6_leave_57 : decode cX6_leave 57 = .ok (.dup, 1) := by decide +kernel
theorem dX6_leave_58 : decode cX6_leave 58 = .ok (.ldc 108, 2) := by decide +kernel
theorem dX6_leave_60 : decode cX6_leave 60 = .ok (.invokespecial 74, 3) := by decide +kernel
theorem dX6_leave_63 : decode cX6_leave 63 = .ok (.athrow, 1) := by decide +kernel
theorem dX6_leave_64 : decode cX6_leave 64 = .ok (.iinc 3 1, 3) := by decide +kernel
theorem dX6_leave_67 : decode cX6_leave 67 = .ok (.iinc 4 1, 3) := by decide +kernel
theorem dX6_leave_70 : decode cX6_leave 70 = .ok (.goto (-59), 3) := by decide +kernel
theorem dX6_leave_73 : decode cX6_leave 73 = .ok (.aload_n 2, 1) := by decide +kernel
theorem dX6_leave_74 : decode cX6_leave 74 = .ok (.iconst 1, 1) := by decide +kernel
theorem dX6_leave_75 : decode cX6_leave 75 = .ok (.putfield 110, 3) := by decide +kernel
theorem dX6_leave_78 : decode cX6_leave 78 = .ok (.iload_n 3, 1) := by decide +kernel
theorem dX6_leave_79 : decode cX6_leave 79 = .ok (.ireturn, 1) := by decide +kernel
theorem dX6_isTaken_0 : decode cX6_isTaken 0 = .ok (.iconst 0, 1) := by decide +kernel
theorem dX6_isTaken_1 : decode cX6_isTaken 1 = .ok (.istore_n 3, 1) := by decide +kernel
theorem dX6_isTaken_2 : decode cX6_isTaken 2 = .ok (.iload_n 3, 1) := by decide +kernel
theorem dX6_isTaken_3 : decode cX6_isTaken 3 = .ok (.aload_n 0, 1) := by decide +kernel
theorem dX6_isTaken_4 : decode cX6_isTaken 4 = .ok (.getfield 12, 3) := by decide +kernel
theorem dX6_isTaken_7 : decode cX6_isTaken 7 = .ok (.invokevirtual 62, 3) := by decide +kernel
theorem dX6_isTaken_10 : decode cX6_isTaken 10 = .ok (.if_icmp .ge 50, 3) := by decide +kernel
theorem dX6_isTaken_13 : decode cX6_isTaken 13 = .ok (.aload_n 0, 1) := by decide +kernel
theorem dX6_isTaken_14 : decode cX6_isTaken 14 = .ok (.getfield 12, 3) := by decide +kernel
theorem dX6_isTaken_17 : decode cX6_isTaken 17 = .ok (.iload_n 3, 1) := by decide +kernel
theorem dX6_isTaken_18 : decode cX6_isTaken 18 = .ok (.invokevirtual 97, 3) := by decide +kernel
theorem dX6_isTaken_21 : decode cX6_isTaken 21 = .ok (.checkcast 75, 3) := by decide +kernel
theorem dX6_isTaken_24 : decode cX6_isTaken 24 = .ok (.astore 4, 2) := by decide +kernel
theorem dX6_isTaken_26 : decode cX6_isTaken 26 = .ok (.aload 4, 2) := by decide +kernel
theorem dX6_isTaken_28 : decode cX6_isTaken 28 = .ok (.getfield 110, 3) := by decide +kernel
theorem dX6_isTaken_31 : decode cX6_isTaken 31 = .ok (.ifCond .ne 23, 3) := by decide +kernel
theorem dX6_isTaken_34 : decode cX6_isTaken 34 = .ok (.aload 4, 2) := by decide +kernel
theorem dX6_isTaken_36 : decode cX6_isTaken 36 = .ok (.getfield 82, 3) := by decide +kernel
theorem dX6_isTaken_39 : decode cX6_isTaken 39 = .ok (.iload_n 2, 1) := by decide +kernel
theorem dX6_isTaken_40 : decode cX6_isTaken 40 = .ok (.if_icmp .ge 14, 3) := by decide +kernel
theorem dX6_isTaken_43 : decode cX6_isTaken 43 = .ok (.iload_n 1, 1) := by decide +kernel
theorem dX6_isTaken_44 : decode cX6_isTaken 44 = .ok (.aload 4, 2) := by decide +kernel
theorem dX6_isTaken_46 : decode cX6_isTaken 46 = .ok (.getfield 85, 3) := by decide +kernel
theorem dX6_isTaken_49 : decode cX6_isTaken 49 = .ok (.if_icmp .ge 5, 3) := by decide +kernel
theorem dX6_isTaken_52 : decode cX6_isTaken 52 = .ok (.iconst 1, 1) := by decide +kernel
theorem dX6_isTaken_53 : decode cX6_isTaken 53 = .ok (.ireturn, 1) := by decide +kernel
theorem dX6_isTaken_54 : decode cX6_isTaken 54 = .ok (.iinc 3 1, 3) := by decide +kernel
theorem dX6_isTaken_57 : decode cX6_isTaken 57 = .ok (.goto (-55), 3) := by decide +kernel
theorem dX6_isTaken_60 : decode cX6_isTaken 60 = .ok (.iconst 0, 1) := by decide +kernel
theorem dX6_isTaken_61 : decode cX6_isTaken 61 = .ok (.ireturn, 1) := by decide +kernel
theorem dX6_send_0 : decode cX6_send 0 = .ok (.iload_n 1, 1) := by decide +kernel
theorem dX6_send_1 : decode cX6_send 1 = .ok (.ifCond .lt 8, 3) := by decide +kernel
theorem dX6_send_4 : decode cX6_send 4 = .ok (.iload_n 1, 1) := by decide +kernel
theorem dX6_send_5 : decode cX6_send 5 = .ok (.iconst 2, 1) := by decide +kernel
theorem dX6_send_6 : decode cX6_send 6 = .ok (.if_icmp .le 13, 3) := by decide +kernel
theorem dX6_send_9 : decode cX6_send 9 = .ok (.new 55, 3) := by decide +kernel
theorem dX6_send_12 : decode cX6_send 12 = .ok (.dup, 1) := by decide +kernel
theorem dX6_send_13 : decode cX6_send 13 = .ok (.ldc 114, 2) := by decide +kernel
theorem dX6_send_15 : decode cX6_send 15 = .ok (.invokespecial 59, 3) := by decide +kernel
theorem dX6_send_18 : decode cX6_send 18 = .ok (.athrow, 1) := by decide +kernel
theorem dX6_send_19 : decode cX6_send 19 = .ok (.aload_n 0, 1) := by decide +kernel
theorem dX6_send_20 : decode cX6_send 20 = .ok (.iload_n 2, 1) := by decide +kernel
theorem dX6_send_21 : decode cX6_send 21 = .ok (.invokevirtual 116, 3) := by decide +kernel
theorem dX6_send_24 : decode cX6_send 24 = .ok (.astore 5, 2) := by decide +kernel
theorem dX6_send_26 : decode cX6_send 26 = .ok (.iload_n 3, 1) := by decide +kernel
theorem dX6_send_27 : decode cX6_send 27 = .ok (.iload_n 1, 1) := by decide +kernel
theorem dX6_send_28 : decode cX6_send 28 = .ok (.invokestatic 120, 3) := by decide +kernel
theorem dX6_send_31 : decode cX6_send 31 = .ok (.invokestatic 52, 3) := by decide +kernel
theorem dX6_send_34 : decode cX6_send 34 = .ok (.iload 4, 2) := by decide +kernel
theorem dX6_send_36 : decode cX6_send 36 = .ok (.iconst (-1), 1) := by decide +kernel
theorem dX6_send_37 : decode cX6_send 37 = .ok (.if_icmp .eq 22, 3) := by decide +kernel
theorem dX6_send_40 : decode cX6_send 40 = .ok (.iload_n 1, 1) := by decide +kernel
theorem dX6_send_41 : decode cX6_send 41 = .ok (.iload 4, 2) := by decide +kernel
theorem dX6_send_43 : decode cX6_send 43 = .ok (.invokestatic 124, 3) := by decide +kernel
theorem dX6_send_46 : decode cX6_send 46 = .ok (.ifCond .ne 13, 3) := by decide +kernel
theorem dX6_send_49 : decode cX6_send 49 = .ok (.new 127, 3) := by decide +kernel
theorem dX6_send_52 : decode cX6_send 52 = .ok (.dup, 1) := by decide +kernel
theorem dX6_send_53 : decode cX6_send 53 = .ok (.ldc 129, 2) := by decide +kernel
theorem dX6_send_55 : decode cX6_send 55 = .ok (.invokespecial 131, 3) := by decide +kernel
theorem dX6_send_58 : decode cX6_send 58 = .ok (.athrow, 1) := by decide +kernel
theorem dX6_send_59 : decode cX6_send 59 = .ok (.iload 4, 2) := by decide +kernel
theorem dX6_send_61 : decode cX6_send 61 = .ok (.iconst (-1), 1) := by decide +kernel
theorem dX6_send_62 : decode cX6_send 62 = .ok (.if_icmp .ne 11, 3) := by decide +kernel
theorem dX6_send_65 : decode cX6_send 65 = .ok (.aload_n 0, 1) := by decide +kernel
theorem dX6_send_66 : decode cX6_send 66 = .ok (.iload_n 1, 1) := by decide +kernel
theorem dX6_send_67 : decode cX6_send 67 = .ok (.invokevirtual 132, 3) := by decide +kernel
theorem dX6_send_70 : decode cX6_send 70 = .ok (.goto 9, 3) := by decide +kernel
theorem dX6_send_73 : decode cX6_send 73 = .ok (.aload_n 0, 1) := by decide +kernel
theorem dX6_send_74 : decode cX6_send 74 = .ok (.iload 4, 2) := by decide +kernel
theorem dX6_send_76 : decode cX6_send 76 = .ok (.invokevirtual 136, 3) := by decide +kernel
theorem dX6_send_79 : decode cX6_send 79 = .ok (.astore 6, 2) := by decide +kernel
theorem dX6_send_81 : decode cX6_send 81 = .ok (.aload_n 0, 1) := by decide +kernel
theorem dX6_send_82 : decode cX6_send 82 = .ok (.getfield 19, 3) := by decide +kernel
theorem dX6_send_85 : decode cX6_send 85 = .ok (.invokevirtual 62, 3) := by decide +kernel
theorem dX6_send_88 : decode cX6_send 88 = .ok (.bipush 80, 2) := by decide +kernel
theorem dX6_send_90 : decode cX6_send 90 = .ok (.if_icmp .ge 8, 3) := by decide +kernel
theorem dX6_send_93 : decode cX6_send 93 = .ok (.aload 6, 2) := by decide +kernel
theorem dX6_send_95 : decode cX6_send 95 = .ok (.ifnonnull 13, 3) := by decide +kernel
theorem dX6_send_98 : decode cX6_send 98 = .ok (.new 70, 3) := by decide +kernel
theorem dX6_send_101 : decode cX6_send 101 = .ok (.dup, 1) := by decide +kernel
theorem dX6_send_102 : decode cX6_send 102 = .ok (.ldc 139, 2) := by decide +kernel
theorem dX6_send_104 : decode cX6_send 104 = .ok (.invokespecial 74, 3) := by decide +kernel
theorem dX6_send_107 : decode cX6_send 107 = .ok (.athrow, 1) := by decide +kernel
theorem dX6_send_108 : decode cX6_send 108 = .ok (.new 141, 3) := by decide +kernel
theorem dX6_send_111 : decode cX6_send 111 = .ok (.dup, 1) := by decide +kernel
theorem dX6_send_112 : decode cX6_send 112 = .ok (.aload_n 0, 1) := by decide +kernel
theorem dX6_send_113 : decode cX6_send 113 = .ok (.getfield 19, 3) := by decide +kernel
theorem dX6_send_116 : decode cX6_send 116 = .ok (.invokevirtual 62, 3) := by decide +kernel
theorem dX6_send_119 : decode cX6_send 119 = .ok (.iload_n 1, 1) := by decide +kernel
theorem dX6_send_120 : decode cX6_send 120 = .ok (.aload 5, 2) := by decide +kernel
theorem dX6_send_122 : decode cX6_send 122 = .ok (.iload_n 3, 1) := by decide +kernel
theorem dX6_send_123 : decode cX6_send 123 = .ok (.invokespecial 143, 3) := by decide +kernel
theorem dX6_send_126 : decode cX6_send 126 = .ok (.astore 7, 2) := by decide +kernel
theorem dX6_send_128 : decode cX6_send 128 = .ok (.aload_n 0, 1) := by decide +kernel
theorem dX6_send_129 : decode cX6_send 129 = .ok (.getfield 19, 3) := by decide +kernel
theorem dX6_send_132 : decode cX6_send 132 = .ok (.aload 7, 2) := by decide +kernel
theorem dX6_send_134 : decode cX6_send 134 = .ok (.invokevirtual 43, 3) := by decide +kernel
theorem dX6_send_137 : decode cX6_send 137 = .ok (.pop, 1) := by decide +kernel
theorem dX6_send_138 : decode cX6_send 138 = .ok (.aload 6, 2) := by decide +kernel
theorem dX6_send_140 : decode cX6_send 140 = .ok (.getfield 146, 3) := by decide +kernel
theorem dX6_send_143 : decode cX6_send 143 = .ok (.aload 7, 2) := by decide +kernel
theorem dX6_send_145 : decode cX6_send 145 = .ok (.invokevirtual 43, 3) := by decide +kernel
theorem dX6_send_148 : decode cX6_send 148 = .ok (.pop, 1) := by decide +kernel
theorem dX6_send_149 : decode cX6_send 149 = .ok (.aload 7, 2) := by decide +kernel
theorem dX6_send_151 : decode cX6_send 151 = .ok (.getfield 151, 3) := by decide +kernel
theorem dX6_send_154 : decode cX6_send 154 = .ok (.ireturn, 1) := by decide +kernel
theorem dX6_deliver_0 : decode cX6_deliver 0 = .ok (.aload_n 0, 1) := by decide +kernel
theorem dX6_deliver_1 : decode cX6_deliver 1 = .ok (.iload_n 1, 1) := by decide +kernel
theorem dX6_deliver_2 : decode cX6_deliver 2 = .ok (.invokevirtual 136, 3) := by decide +kernel
theorem dX6_deliver_5 : decode cX6_deliver 5 = .ok (.astore_n 2, 1) := by decide +kernel
theorem dX6_deliver_6 : decode cX6_deliver 6 = .ok (.aload_n 2, 1) := by decide +kernel
theorem dX6_deliver_7 : decode cX6_deliver 7 = .ok (.getfield 146, 3) := by decide +kernel
theorem dX6_deliver_10 : decode cX6_deliver 10 = .ok (.invokevirtual 154, 3) := by decide +kernel
theorem dX6_deliver_13 : decode cX6_deliver 13 = .ok (.ifCond .eq 5, 3) := by decide +kernel
theorem dX6_deliver_16 : decode cX6_deliver 16 = .ok (.iconst 0, 1) := by decide +kernel
theorem dX6_deliver_17 : decode cX6_deliver 17 = .ok (.ireturn, 1) := by decide +kernel
theorem dX6_deliver_18 : decode cX6_deliver 18 = .ok (.aload_n 2, 1) := by decide +kernel
theorem dX6_deliver_19 : decode cX6_deliver 19 = .ok (.getfield 146, 3) := by decide +kernel
theorem dX6_deliver_22 : decode cX6_deliver 22 = .ok (.iconst 0, 1) := by decide +kernel
theorem dX6_deliver_23 : decode cX6_deliver 23 = .ok (.invokevirtual 97, 3) := by decide +kernel
theorem dX6_deliver_26 : decode cX6_deliver 26 = .ok (.checkcast 141, 3) := by decide +kernel
theorem dX6_deliver_29 : decode cX6_deliver 29 = .ok (.astore_n 3, 1) := by decide +kernel
theorem dX6_deliver_30 : decode cX6_deliver 30 = .ok (.aload_n 3, 1) := by decide +kernel
theorem dX6_deliver_31 : decode cX6_deliver 31 = .ok (.dup, 1) := by decide +kernel
theorem dX6_deliver_32 : decode cX6_deliver 32 = .ok (.getfield 158, 3) := by decide +kernel
theorem dX6_deliver_35 : decode cX6_deliver 35 = .ok (.iconst 1, 1) := by decide +kernel
theorem dX6_deliver_36 : decode cX6_deliver 36 = .ok (.iadd, 1) := by decide +kernel
theorem dX6_deliver_37 : decode cX6_deliver 37 = .ok (.putfield 158, 3) := by decide +kernel
theorem dX6_deliver_40 : decode cX6_deliver 40 = .ok (.aload_n 0, 1) := by decide +kernel
theorem dX6_deliver_41 : decode cX6_deliver 41 = .ok (.aload_n 2, 1) := by decide +kernel
theorem dX6_deliver_42 : decode cX6_deliver 42 = .ok (.aload_n 3, 1) := by decide +kernel
theorem dX6_deliver_43 : decode cX6_deliver 43 = .ok (.invokevirtual 161, 3) := by decide +kernel
theorem dX6_deliver_46 : decode cX6_deliver 46 = .ok (.istore 4, 2) := by decide +kernel
theorem dX6_deliver_48 : decode cX6_deliver 48 = .ok (.iload 4, 2) := by decide +kernel
theorem dX6_deliver_50 : decode cX6_deliver 50 = .ok (.iconst 4, 1) := by decide +kernel
theorem dX6_deliver_51 : decode cX6_deliver 51 = .ok (.if_icmp .eq 8, 3) := by decide +kernel
theorem dX6_deliver_54 : decode cX6_deliver 54 = .ok (.aload_n 2, 1) := by decide +kernel
theorem dX6_deliver_55 : decode cX6_deliver 55 = .ok (.aload_n 3, 1) := by decide +kernel
theorem dX6_deliver_56 : decode cX6_deliver 56 = .ok (.invokevirtual 165, 3) := by decide +kernel
theorem dX6_deliver_59 : decode cX6_deliver 59 = .ok (.iload 4, 2) := by decide +kernel
theorem dX6_deliver_61 : decode cX6_deliver 61 = .ok (.ireturn, 1) := by decide +kernel
theorem dX6_act_0 : decode cX6_act 0 = .ok (.aload_n 0, 1) := by decide +kernel
theorem dX6_act_1 : decode cX6_act 1 = .ok (.iload_n 1, 1) := by decide +kernel
theorem dX6_act_2 : decode cX6_act 2 = .ok (.invokevirtual 169, 3) := by decide +kernel
theorem dX6_act_5 : decode cX6_act 5 = .ok (.astore_n 2, 1) := by decide +kernel
theorem dX6_act_6 : decode cX6_act 6 = .ok (.aload_n 2, 1) := by decide +kernel
theorem dX6_act_7 : decode cX6_act 7 = .ok (.getfield 173, 3) := by decide +kernel
theorem dX6_act_10 : decode cX6_act 10 = .ok (.astore_n 3, 1) := by decide +kernel
theorem dX6_act_11 : decode cX6_act 11 = .ok (.aload_n 3, 1) := by decide +kernel
theorem dX6_act_12 : decode cX6_act 12 = .ok (.ifnonnull 5, 3) := by decide +kernel
theorem dX6_act_15 : decode cX6_act 15 = .ok (.iconst 0, 1) := by decide +kernel
theorem dX6_act_16 : decode cX6_act 16 = .ok (.ireturn, 1) := by decide +kernel
theorem dX6_act_17 : decode cX6_act 17 = .ok (.aload_n 3, 1) := by decide +kernel
theorem dX6_act_18 : decode cX6_act 18 = .ok (.invokestatic 177, 3) := by decide +kernel
theorem dX6_act_21 : decode cX6_act 21 = .ok (.ifCond .eq 10, 3) := by decide +kernel
theorem dX6_act_24 : decode cX6_act 24 = .ok (.aload_n 0, 1) := by decide +kernel
theorem dX6_act_25 : decode cX6_act 25 = .ok (.aload_n 2, 1) := by decide +kernel
theorem dX6_act_26 : decode cX6_act 26 = .ok (.aload_n 3, 1) := by decide +kernel
theorem dX6_act_27 : decode cX6_act 27 = .ok (.invokevirtual 181, 3) := by decide +kernel
theorem dX6_act_30 : decode cX6_act 30 = .ok (.ireturn, 1) := by decide +kernel
theorem dX6_act_31 : decode cX6_act 31 = .ok (.aload_n 3, 1) := by decide +kernel
theorem dX6_act_32 : decode cX6_act 32 = .ok (.getfield 185, 3) := by decide +kernel
theorem dX6_act_35 : decode cX6_act 35 = .ok (.iconst 2, 1) := by decide +kernel
theorem dX6_act_36 : decode cX6_act 36 = .ok (.iload_n 1, 1) := by decide +kernel
theorem dX6_act_37 : decode cX6_act 37 = .ok (.invokevirtual 189, 3) := by decide +kernel
theorem dX6_act_40 : decode cX6_act 40 = .ok (.ifCond .eq 25, 3) := by decide +kernel
theorem dX6_act_43 : decode cX6_act 43 = .ok (.aload_n 0, 1) := by decide +kernel
theorem dX6_act_44 : decode cX6_act 44 = .ok (.aload_n 3, 1) := by decide +kernel
theorem dX6_act_45 : decode cX6_act 45 = .ok (.invokevirtual 192, 3) := by decide +kernel
theorem dX6_act_48 : decode cX6_act 48 = .ok (.ifCond .ne 5, 3) := by decide +kernel
theorem dX6_act_51 : decode cX6_act 51 = .ok (.iconst 3, 1) := by decide +kernel
theorem dX6_act_52 : decode cX6_act 52 = .ok (.ireturn, 1) := by decide +kernel
theorem dX6_act_53 : decode cX6_act 53 = .ok (.aload_n 0, 1) := by decide +kernel
theorem dX6_act_54 : decode cX6_act 54 = .ok (.aload_n 3, 1) := by decide +kernel
theorem dX6_act_55 : decode cX6_act 55 = .ok (.invokevirtual 195, 3) := by decide +kernel
theorem dX6_act_58 : decode cX6_act 58 = .ok (.aload_n 0, 1) := by decide +kernel
theorem dX6_act_59 : decode cX6_act 59 = .ok (.aload_n 2, 1) := by decide +kernel
theorem dX6_act_60 : decode cX6_act 60 = .ok (.aload_n 3, 1) := by decide +kernel
theorem dX6_act_61 : decode cX6_act 61 = .ok (.invokevirtual 181, 3) := by decide +kernel
theorem dX6_act_64 : decode cX6_act 64 = .ok (.ireturn, 1) := by decide +kernel
theorem dX6_act_65 : decode cX6_act 65 = .ok (.aload_n 0, 1) := by decide +kernel
theorem dX6_act_66 : decode cX6_act 66 = .ok (.iload_n 1, 1) := by decide +kernel
theorem dX6_act_67 : decode cX6_act 67 = .ok (.aload_n 3, 1) := by decide +kernel
theorem dX6_act_68 : decode cX6_act 68 = .ok (.getfield 185, 3) := by decide +kernel
theorem dX6_act_71 : decode cX6_act 71 = .ok (.invokevirtual 198, 3) := by decide +kernel
theorem dX6_act_74 : decode cX6_act 74 = .ok (.ifCond .ne 5, 3) := by decide +kernel
theorem dX6_act_77 : decode cX6_act 77 = .ok (.iconst 3, 1) := by decide +kernel
theorem dX6_act_78 : decode cX6_act 78 = .ok (.ireturn, 1) := by decide +kernel
theorem dX6_act_79 : decode cX6_act 79 = .ok (.aload_n 3, 1) := by decide +kernel
theorem dX6_act_80 : decode cX6_act 80 = .ok (.getfield 185, 3) := by decide +kernel
theorem dX6_act_83 : decode cX6_act 83 = .ok (.iconst 2, 1) := by decide +kernel
theorem dX6_act_84 : decode cX6_act 84 = .ok (.iload_n 1, 1) := by decide +kernel
theorem dX6_act_85 : decode cX6_act 85 = .ok (.invokevirtual 202, 3) := by decide +kernel
theorem dX6_act_88 : decode cX6_act 88 = .ok (.bipush 7, 2) := by decide +kernel
theorem dX6_act_90 : decode cX6_act 90 = .ok (.ireturn, 1) := by decide +kernel
theorem dX6_lose_0 : decode cX6_lose 0 = .ok (.aload_n 0, 1) := by decide +kernel
theorem dX6_lose_1 : decode cX6_lose 1 = .ok (.iload_n 1, 1) := by decide +kernel
theorem dX6_lose_2 : decode cX6_lose 2 = .ok (.invokevirtual 136, 3) := by decide +kernel
theorem dX6_lose_5 : decode cX6_lose 5 = .ok (.astore 4, 2) := by decide +kernel
theorem dX6_lose_7 : decode cX6_lose 7 = .ok (.iload_n 2, 1) := by decide +kernel
theorem dX6_lose_8 : decode cX6_lose 8 = .ok (.iconst 1, 1) := by decide +kernel
theorem dX6_lose_9 : decode cX6_lose 9 = .ok (.if_icmp .lt 9, 3) := by decide +kernel
theorem dX6_lose_12 : decode cX6_lose 12 = .ok (.iload_n 2, 1) := by decide +kernel
theorem dX6_lose_13 : decode cX6_lose 13 = .ok (.bipush 9, 2) := by decide +kernel
theorem dX6_lose_15 : decode cX6_lose 15 = .ok (.if_icmp .le 13, 3) := by decide +kernel
theorem dX6_lose_18 : decode cX6_lose 18 = .ok (.new 55, 3) := by decide +kernel
theorem dX6_lose_21 : decode cX6_lose 21 = .ok (.dup, 1) := by decide +kernel
theorem dX6_lose_22 : decode cX6_lose 22 = .ok (.ldc 205, 2) := by decide +kernel
theorem dX6_lose_24 : decode cX6_lose 24 = .ok (.invokespecial 59, 3) := by decide +kernel
theorem dX6_lose_27 : decode cX6_lose 27 = .ok (.athrow, 1) := by decide +kernel
theorem dX6_lose_28 : decode cX6_lose 28 = .ok (.iload_n 3, 1) := by decide +kernel
theorem dX6_lose_29 : decode cX6_lose 29 = .ok (.ifCond .eq 20, 3) := by decide +kernel
theorem dX6_lose_32 : decode cX6_lose 32 = .ok (.aload 4, 2) := by decide +kernel
theorem dX6_lose_34 : decode cX6_lose 34 = .ok (.dup, 1) := by decide +kernel
theorem dX6_lose_35 : decode cX6_lose 35 = .ok (.getfield 207, 3) := by decide +kernel
theorem dX6_lose_38 : decode cX6_lose 38 = .ok (.iload_n 2, 1) := by decide +kernel
theorem dX6_lose_39 : decode cX6_lose 39 = .ok (.iadd, 1) := by decide +kernel
theorem dX6_lose_40 : decode cX6_lose 40 = .ok (.putfield 207, 3) := by decide +kernel
theorem dX6_lose_43 : decode cX6_lose 43 = .ok (.aload 4, 2) := by decide +kernel
theorem dX6_lose_45 : decode cX6_lose 45 = .ok (.getfield 207, 3) := by decide +kernel
theorem dX6_lose_48 : decode cX6_lose 48 = .ok (.ireturn, 1) := by decide +kernel
theorem dX6_lose_49 : decode cX6_lose 49 = .ok (.aload 4, 2) := by decide +kernel
theorem dX6_lose_51 : decode cX6_lose 51 = .ok (.dup, 1) := by decide +kernel
theorem dX6_lose_52 : decode cX6_lose 52 = .ok (.getfield 210, 3) := by decide +kernel
theorem dX6_lose_55 : decode cX6_lose 55 = .ok (.iload_n 2, 1) := by decide +kernel
theorem dX6_lose_56 : decode cX6_lose 56 = .ok (.iadd, 1) := by decide +kernel
theorem dX6_lose_57 : decode cX6_lose 57 = .ok (.putfield 210, 3) := by decide +kernel
theorem dX6_lose_60 : decode cX6_lose 60 = .ok (.aload 4, 2) := by decide +kernel
theorem dX6_lose_62 : decode cX6_lose 62 = .ok (.getfield 210, 3) := by decide +kernel
theorem dX6_lose_65 : decode cX6_lose 65 = .ok (.ireturn, 1) := by decide +kernel
theorem dX6_repeat_0 : decode cX6_repeat 0 = .ok (.aload_n 0, 1) := by decide +kernel
theorem dX6_repeat_1 : decode cX6_repeat 1 = .ok (.iload_n 1, 1) := by decide +kernel
theorem dX6_repeat_2 : decode cX6_repeat 2 = .ok (.invokevirtual 136, 3) := by decide +kernel
theorem dX6_repeat_5 : decode cX6_repeat 5 = .ok (.astore_n 2, 1) := by decide +kernel
theorem dX6_repeat_6 : decode cX6_repeat 6 = .ok (.aload_n 2, 1) := by decide +kernel
theorem dX6_repeat_7 : decode cX6_repeat 7 = .ok (.getfield 213, 3) := by decide +kernel
theorem dX6_repeat_10 : decode cX6_repeat 10 = .ok (.astore_n 3, 1) := by decide +kernel
theorem dX6_repeat_11 : decode cX6_repeat 11 = .ok (.aload_n 3, 1) := by decide +kernel
theorem dX6_repeat_12 : decode cX6_repeat 12 = .ok (.ifnull 11, 3) := by decide +kernel
theorem dX6_repeat_15 : decode cX6_repeat 15 = .ok (.aload_n 0, 1) := by decide +kernel
theorem dX6_repeat_16 : decode cX6_repeat 16 = .ok (.aload_n 3, 1) := by decide +kernel
theorem dX6_repeat_17 : decode cX6_repeat 17 = .ok (.invokevirtual 216, 3) := by decide +kernel
theorem dX6_repeat_20 : decode cX6_repeat 20 = .ok (.ifCond .eq 13, 3) := by decide +kernel
theorem dX6_repeat_23 : decode cX6_repeat 23 = .ok (.new 70, 3) := by decide +kernel
theorem dX6_repeat_26 : decode cX6_repeat 26 = .ok (.dup, 1) := by decide +kernel
theorem dX6_repeat_27 : decode cX6_repeat 27 = .ok (.ldc 219, 2) := by decide +kernel
theorem dX6_repeat_29 : decode cX6_repeat 29 = .ok (.invokespecial 74, 3) := by decide +kernel
theorem dX6_repeat_32 : decode cX6_repeat 32 = .ok (.athrow, 1) := by decide +kernel
theorem dX6_repeat_33 : decode cX6_repeat 33 = .ok (.aload_n 2, 1) := by decide +kernel
theorem dX6_repeat_34 : decode cX6_repeat 34 = .ok (.getfield 146, 3) := by decide +kernel
theorem dX6_repeat_37 : decode cX6_repeat 37 = .ok (.aload_n 3, 1) := by decide +kernel
theorem dX6_repeat_38 : decode cX6_repeat 38 = .ok (.invokevirtual 43, 3) := by decide +kernel
theorem dX6_repeat_41 : decode cX6_repeat 41 = .ok (.pop, 1) := by decide +kernel
theorem dX6_repeat_42 : decode cX6_repeat 42 = .ok (.aload_n 3, 1) := by decide +kernel
theorem dX6_repeat_43 : decode cX6_repeat 43 = .ok (.getfield 151, 3) := by decide +kernel
theorem dX6_repeat_46 : decode cX6_repeat 46 = .ok (.ireturn, 1) := by decide +kernel
theorem dX6_silence_0 : decode cX6_silence 0 = .ok (.aload_n 0, 1) := by decide +kernel
theorem dX6_silence_1 : decode cX6_silence 1 = .ok (.iload_n 1, 1) := by decide +kernel
theorem dX6_silence_2 : decode cX6_silence 2 = .ok (.invokevirtual 221, 3) := by decide +kernel
theorem dX6_silence_5 : decode cX6_silence 5 = .ok (.astore_n 3, 1) := by decide +kernel
theorem dX6_silence_6 : decode cX6_silence 6 = .ok (.aload_n 3, 1) := by decide +kernel
theorem dX6_silence_7 : decode cX6_silence 7 = .ok (.getfield 225, 3) := by decide +kernel
theorem dX6_silence_10 : decode cX6_silence 10 = .ok (.istore 4, 2) := by decide +kernel
theorem dX6_silence_12 : decode cX6_silence 12 = .ok (.aload_n 3, 1) := by decide +kernel
theorem dX6_silence_13 : decode cX6_silence 13 = .ok (.iload_n 2, 1) := by decide +kernel
theorem dX6_silence_14 : decode cX6_silence 14 = .ok (.putfield 225, 3) := by decide +kernel
theorem dX6_silence_17 : decode cX6_silence 17 = .ok (.iload 4, 2) := by decide +kernel
theorem dX6_silence_19 : decode cX6_silence 19 = .ok (.ireturn, 1) := by decide +kernel
theorem dX6_giveAway_0 : decode cX6_giveAway 0 = .ok (.aload_n 0, 1) := by decide +kernel
theorem dX6_giveAway_1 : decode cX6_giveAway 1 = .ok (.iload_n 1, 1) := by decide +kernel
theorem dX6_giveAway_2 : decode cX6_giveAway 2 = .ok (.invokevirtual 221, 3) := by decide +kernel
theorem dX6_giveAway_5 : decode cX6_giveAway 5 = .ok (.astore_n 3, 1) := by decide +kernel
theorem dX6_giveAway_6 : decode cX6_giveAway 6 = .ok (.aload_n 0, 1) := by decide +kernel
theorem dX6_giveAway_7 : decode cX6_giveAway 7 = .ok (.iload_n 2, 1) := by decide +kernel
theorem dX6_giveAway_8 : decode cX6_giveAway 8 = .ok (.invokevirtual 221, 3) := by decide +kernel
theorem dX6_giveAway_11 : decode cX6_giveAway 11 = .ok (.astore 4, 2) := by decide +kernel
theorem dX6_giveAway_13 : decode cX6_giveAway 13 = .ok (.aload_n 3, 1) := by decide +kernel
theorem dX6_giveAway_14 : decode cX6_giveAway 14 = .ok (.getfield 225, 3) := by decide +kernel
theorem dX6_giveAway_17 : decode cX6_giveAway 17 = .ok (.ifCond .eq 9, 3) := by decide +kernel
theorem dX6_giveAway_20 : decode cX6_giveAway 20 = .ok (.aload_n 3, 1) := by decide +kernel
theorem dX6_giveAway_21 : decode cX6_giveAway 21 = .ok (.aload 4, 2) := by decide +kernel
theorem dX6_giveAway_23 : decode cX6_giveAway 23 = .ok (.if_acmp .ne 13, 3) := by decide +kernel
theorem dX6_giveAway_26 : decode cX6_giveAway 26 = .ok (.new 70, 3) := by decide +kernel
theorem dX6_giveAway_29 : decode cX6_giveAway 29 = .ok (.dup, 1) := by decide +kernel
theorem dX6_giveAway_30 : decode cX6_giveAway 30 = .ok (.ldc 228, 2) := by decide +kernel
theorem dX6_giveAway_32 : decode cX6_giveAway 32 = .ok (.invokespecial 74, 3) := by decide +kernel
theorem dX6_giveAway_35 : decode cX6_giveAway 35 = .ok (.athrow, 1) := by decide +kernel
theorem dX6_giveAway_36 : decode cX6_giveAway 36 = .ok (.aload_n 3, 1) := by decide +kernel
theorem dX6_giveAway_37 : decode cX6_giveAway 37 = .ok (.getfield 230, 3) := by decide +kernel
theorem dX6_giveAway_40 : decode cX6_giveAway 40 = .ok (.invokevirtual 62, 3) := by decide +kernel
theorem dX6_giveAway_43 : decode cX6_giveAway 43 = .ok (.istore 5, 2) := by decide +kernel
theorem dX6_giveAway_45 : decode cX6_giveAway 45 = .ok (.iconst 0, 1) := by decide +kernel
theorem dX6_giveAway_46 : decode cX6_giveAway 46 = .ok (.istore 6, 2) := by decide +kernel
theorem dX6_giveAway_48 : decode cX6_giveAway 48 = .ok (.iload 6, 2) := by decide +kernel
theorem dX6_giveAway_50 : decode cX6_giveAway 50 = .ok (.iload 5, 2) := by decide +kernel
theorem dX6_giveAway_52 : decode cX6_giveAway 52 = .ok (.if_icmp .ge 30, 3) := by decide +kernel
theorem dX6_giveAway_55 : decode cX6_giveAway 55 = .ok (.aload 4, 2) := by decide +kernel
theorem dX6_giveAway_57 : decode cX6_giveAway 57 = .ok (.getfield 230, 3) := by decide +kernel
theorem dX6_giveAway_60 : decode cX6_giveAway 60 = .ok (.aload_n 3, 1) := by decide +kernel
theorem dX6_giveAway_61 : decode cX6_giveAway 61 = .ok (.getfield 230, 3) := by decide +kernel
theorem dX6_giveAway_64 : decode cX6_giveAway 64 = .ok (.iload 6, 2) := by decide +kernel
theorem dX6_giveAway_66 : decode cX6_giveAway 66 = .ok (.invokevirtual 97, 3) := by decide +kernel
theorem dX6_giveAway_69 : decode cX6_giveAway 69 = .ok (.checkcast 141, 3) := by decide +kernel
theorem dX6_giveAway_72 : decode cX6_giveAway 72 = .ok (.invokevirtual 43, 3) := by decide +kernel
theorem dX6_giveAway_75 : decode cX6_giveAway 75 = .ok (.pop, 1) := by decide +kernel
theorem dX6_giveAway_76 : decode cX6_giveAway 76 = .ok (.iinc 6 1, 3) := by decide +kernel
theorem dX6_giveAway_79 : decode cX6_giveAway 79 = .ok (.goto (-31), 3) := by decide +kernel
theorem dX6_giveAway_82 : decode cX6_giveAway 82 = .ok (.aload_n 3, 1) := by decide +kernel
theorem dX6_giveAway_83 : decode cX6_giveAway 83 = .ok (.getfield 230, 3) := by decide +kernel
theorem dX6_giveAway_86 : decode cX6_giveAway 86 = .ok (.invokevirtual 231, 3) := by decide +kernel
theorem dX6_giveAway_89 : decode cX6_giveAway 89 = .ok (.iload 5, 2) := by decide +kernel
theorem dX6_giveAway_91 : decode cX6_giveAway 91 = .ok (.ireturn, 1) := by decide +kernel
theorem dX6_park_0 : decode cX6_park 0 = .ok (.aload_n 0, 1) := by decide +kernel
theorem dX6_park_1 : decode cX6_park 1 = .ok (.iload_n 1, 1) := by decide +kernel
theorem dX6_park_2 : decode cX6_park 2 = .ok (.invokevirtual 221, 3) := by decide +kernel
theorem dX6_park_5 : decode cX6_park 5 = .ok (.astore_n 3, 1) := by decide +kernel
theorem dX6_park_6 : decode cX6_park 6 = .ok (.iload_n 2, 1) := by decide +kernel
theorem dX6_park_7 : decode cX6_park 7 = .ok (.bipush 16, 2) := by decide +kernel
theorem dX6_park_9 : decode cX6_park 9 = .ok (.invokestatic 52, 3) := by decide +kernel
theorem dX6_park_12 : decode cX6_park 12 = .ok (.aload_n 3, 1) := by decide +kernel
theorem dX6_park_13 : decode cX6_park 13 = .ok (.getfield 225, 3) := by decide +kernel
theorem dX6_park_16 : decode cX6_park 16 = .ok (.ifCond .ne 12, 3) := by decide +kernel
theorem dX6_park_19 : decode cX6_park 19 = .ok (.aload_n 0, 1) := by decide +kernel
theorem dX6_park_20 : decode cX6_park 20 = .ok (.iload_n 1, 1) := by decide +kernel
theorem dX6_park_21 : decode cX6_park 21 = .ok (.iload_n 2, 1) := by decide +kernel
theorem dX6_park_22 : decode cX6_park 22 = .ok (.invokevirtual 234, 3) := by decide +kernel
theorem dX6_park_25 : decode cX6_park 25 = .ok (.ifCond .ne 13, 3) := by decide +kernel
theorem dX6_park_28 : decode cX6_park 28 = .ok (.new 70, 3) := by decide +kernel
theorem dX6_park_31 : decode cX6_park 31 = .ok (.dup, 1) := by decide +kernel
theorem dX6_park_32 : decode cX6_park 32 = .ok (.ldc 237, 2) := by decide +kernel
theorem dX6_park_34 : decode cX6_park 34 = .ok (.invokespecial 74, 3) := by decide +kernel
theorem dX6_park_37 : decode cX6_park 37 = .ok (.athrow, 1) := by decide +kernel
theorem dX6_park_38 : decode cX6_park 38 = .ok (.aload_n 3, 1) := by decide +kernel
theorem dX6_park_39 : decode cX6_park 39 = .ok (.getfield 239, 3) := by decide +kernel
theorem dX6_park_42 : decode cX6_park 42 = .ok (.istore 4, 2) := by decide +kernel
theorem dX6_park_44 : decode cX6_park 44 = .ok (.aload_n 3, 1) := by decide +kernel
theorem dX6_park_45 : decode cX6_park 45 = .ok (.iload_n 2, 1) := by decide +kernel
theorem dX6_park_46 : decode cX6_park 46 = .ok (.putfield 239, 3) := by decide +kernel
theorem dX6_park_49 : decode cX6_park 49 = .ok (.iload 4, 2) := by decide +kernel
theorem dX6_park_51 : decode cX6_park 51 = .ok (.ireturn, 1) := by decide +kernel
theorem dX6_targetsOf_0 : decode cX6_targetsOf 0 = .ok (.iload_n 0, 1) := by decide +kernel
theorem dX6_targetsOf_1 : decode cX6_targetsOf 1 = .ok (.ifCond .ne 5, 3) := by decide +kernel
theorem dX6_targetsOf_4 : decode cX6_targetsOf 4 = .ok (.iconst 1, 1) := by decide +kernel
theorem dX6_targetsOf_5 : decode cX6_targetsOf 5 = .ok (.ireturn, 1) := by decide +kernel
theorem dX6_targetsOf_6 : decode cX6_targetsOf 6 = .ok (.iload_n 0, 1) := by decide +kernel
theorem dX6_targetsOf_7 : decode cX6_targetsOf 7 = .ok (.iconst 1, 1) := by decide +kernel
theorem dX6_targetsOf_8 : decode cX6_targetsOf 8 = .ok (.if_icmp .ne 8, 3) := by decide +kernel
theorem dX6_targetsOf_11 : decode cX6_targetsOf 11 = .ok (.bipush 6, 2) := by decide +kernel
theorem dX6_targetsOf_13 : decode cX6_targetsOf 13 = .ok (.goto 4, 3) := by decide +kernel
theorem dX6_targetsOf_16 : decode cX6_targetsOf 16 = .ok (.iconst 2, 1) := by decide +kernel
theorem dX6_targetsOf_17 : decode cX6_targetsOf 17 = .ok (.ireturn, 1) := by decide +kernel
theorem dX6_isFor_0 : decode cX6_isFor 0 = .ok (.iload_n 0, 1) := by decide +kernel
theorem dX6_isFor_1 : decode cX6_isFor 1 = .ok (.ifCond .ne 18, 3) := by decide +kernel
theorem dX6_isFor_4 : decode cX6_isFor 4 = .ok (.iload_n 1, 1) := by decide +kernel
theorem dX6_isFor_5 : decode cX6_isFor 5 = .ok (.ifCond .lt 12, 3) := by decide +kernel
theorem dX6_isFor_8 : decode cX6_isFor 8 = .ok (.iload_n 1, 1) := by decide +kernel
theorem dX6_isFor_9 : decode cX6_isFor 9 = .ok (.iconst 4, 1) := by decide +kernel
theorem dX6_isFor_10 : decode cX6_isFor 10 = .ok (.if_icmp .ge 7, 3) := by decide +kernel
theorem dX6_isFor_13 : decode cX6_isFor 13 = .ok (.iconst 1, 1) := by decide +kernel
theorem dX6_isFor_14 : decode cX6_isFor 14 = .ok (.goto 4, 3) := by decide +kernel
theorem dX6_isFor_17 : decode cX6_isFor 17 = .ok (.iconst 0, 1) := by decide +kernel
theorem dX6_isFor_18 : decode cX6_isFor 18 = .ok (.ireturn, 1) := by decide +kernel
theorem dX6_isFor_19 : decode cX6_isFor 19 = .ok (.iload_n 1, 1) := by decide +kernel
theorem dX6_isFor_20 : decode cX6_isFor 20 = .ok (.iconst 4, 1) := by decide +kernel
theorem dX6_isFor_21 : decode cX6_isFor 21 = .ok (.if_icmp .lt 13, 3) := by decide +kernel
theorem dX6_isFor_24 : decode cX6_isFor 24 = .ok (.iload_n 1, 1) := by decide +kernel
theorem dX6_isFor_25 : decode cX6_isFor 25 = .ok (.bipush 8, 2) := by decide +kernel
theorem dX6_isFor_27 : decode cX6_isFor 27 = .ok (.if_icmp .ge 7, 3) := by decide +kernel
theorem dX6_isFor_30 : decode cX6_isFor 30 = .ok (.iconst 1, 1) := by decide +kernel
theorem dX6_isFor_31 : decode cX6_isFor 31 = .ok (.goto 4, 3) := by decide +kernel
theorem dX6_isFor_34 : decode cX6_isFor 34 = .ok (.iconst 0, 1) := by decide +kernel
theorem dX6_isFor_35 : decode cX6_isFor 35 = .ok (.ireturn, 1) := by decide +kernel
theorem dX6_leastBusyFor_0 : decode cX6_leastBusyFor 0 = .ok (.aconst_null, 1) := by decide +kernel
theorem dX6_leastBusyFor_1 : decode cX6_leastBusyFor 1 = .ok (.astore_n 2, 1) := by decide +kernel
theorem dX6_leastBusyFor_2 : decode cX6_leastBusyFor 2 = .ok (.iconst 0, 1) := by decide +kernel
theorem dX6_leastBusyFor_3 : decode cX6_leastBusyFor 3 = .ok (.istore_n 3, 1) := by decide +kernel
theorem dX6_leastBusyFor_4 : decode cX6_leastBusyFor 4 = .ok (.iload_n 3, 1) := by decide +kernel
theorem dX6_leastBusyFor_5 : decode cX6_leastBusyFor 5 = .ok (.bipush 8, 2) := by decide +kernel
theorem dX6_leastBusyFor_7 : decode cX6_leastBusyFor 7 = .ok (.if_icmp .ge 57, 3) := by decide +kernel
theorem dX6_leastBusyFor_10 : decode cX6_leastBusyFor 10 = .ok (.aload_n 0, 1) := by decide +kernel
theorem dX6_leastBusyFor_11 : decode cX6_leastBusyFor 11 = .ok (.iload_n 3, 1) := by decide +kernel
theorem dX6_leastBusyFor_12 : decode cX6_leastBusyFor 12 = .ok (.invokevirtual 136, 3) := by decide +kernel
theorem dX6_leastBusyFor_15 : decode cX6_leastBusyFor 15 = .ok (.astore 4, 2) := by decide +kernel
theorem dX6_leastBusyFor_17 : decode cX6_leastBusyFor 17 = .ok (.iload_n 1, 1) := by decide +kernel
theorem dX6_leastBusyFor_18 : decode cX6_leastBusyFor 18 = .ok (.iload_n 3, 1) := by decide +kernel
theorem dX6_leastBusyFor_19 : decode cX6_leastBusyFor 19 = .ok (.invokestatic 124, 3) := by decide +kernel
theorem dX6_leastBusyFor_22 : decode cX6_leastBusyFor 22 = .ok (.ifCond .eq 36, 3) := by decide +kernel
theorem dX6_leastBusyFor_25 : decode cX6_leastBusyFor 25 = .ok (.aload 4, 2) := by decide +kernel
theorem dX6_leastBusyFor_27 : decode cX6_leastBusyFor 27 = .ok (.getfield 242, 3) := by decide +kernel
theorem dX6_leastBusyFor_30 : decode cX6_leastBusyFor 30 = .ok (.ifCond .ne 28, 3) := by decide +kernel
theorem dX6_leastBusyFor_33 : decode cX6_leastBusyFor 33 = .ok (.aload_n 2, 1) := by decide +kernel
theorem dX6_leastBusyFor_34 : decode cX6_leastBusyFor 34 = .ok (.ifnull 21, 3) := by decide +kernel
theorem dX6_leastBusyFor_37 : decode cX6_leastBusyFor 37 = .ok (.aload 4, 2) := by decide +kernel
theorem dX6_leastBusyFor_39 : decode cX6_leastBusyFor 39 = .ok (.getfield 146, 3) := by decide +kernel
theorem dX6_leastBusyFor_42 : decode cX6_leastBusyFor 42 = .ok (.invokevirtual 62, 3) := by decide +kernel
theorem dX6_leastBusyFor_45 : decode cX6_leastBusyFor 45 = .ok (.aload_n 2, 1) := by decide +kernel
theorem dX6_leastBusyFor_46 : decode cX6_leastBusyFor 46 = .ok (.getfield 146, 3) := by decide +kernel
theorem dX6_leastBusyFor_49 : decode cX6_leastBusyFor 49 = .ok (.invokevirtual 62, 3) := by decide +kernel
theorem dX6_leastBusyFor_52 : decode cX6_leastBusyFor 52 = .ok (.if_icmp .ge 6, 3) := by decide +kernel
theorem dX6_leastBusyFor_55 : decode cX6_leastBusyFor 55 = .ok (.aload 4, 2) := by decide +kernel
theorem dX6_leastBusyFor_57 : decode cX6_leastBusyFor 57 = .ok (.astore_n 2, 1) := by decide +kernel
theorem dX6_leastBusyFor_58 : decode cX6_leastBusyFor 58 = .ok (.iinc 3 1, 3) := by decide +kernel
theorem dX6_leastBusyFor_61 : decode cX6_leastBusyFor 61 = .ok (.goto (-57), 3) := by decide +kernel
theorem dX6_leastBusyFor_64 : decode cX6_leastBusyFor 64 = .ok (.aload_n 2, 1) := by decide +kernel
theorem dX6_leastBusyFor_65 : decode cX6_leastBusyFor 65 = .ok (.areturn, 1) := by decide +kernel
theorem dX6_isInAQueue_0 : decode cX6_isInAQueue 0 = .ok (.iconst 0, 1) := by decide +kernel
theorem dX6_isInAQueue_1 : decode cX6_isInAQueue 1 = .ok (.istore_n 2, 1) := by decide +kernel
theorem dX6_isInAQueue_2 : decode cX6_isInAQueue 2 = .ok (.iload_n 2, 1) := by decide +kernel
theorem dX6_isInAQueue_3 : decode cX6_isInAQueue 3 = .ok (.bipush 8, 2) := by decide +kernel
theorem dX6_isInAQueue_5 : decode cX6_isInAQueue 5 = .ok (.if_icmp .ge 27, 3) := by decide +kernel
theorem dX6_isInAQueue_8 : decode cX6_isInAQueue 8 = .ok (.aload_n 1, 1) := by decide +kernel
theorem dX6_isInAQueue_9 : decode cX6_isInAQueue 9 = .ok (.aload_n 0, 1) := by decide +kernel
theorem dX6_isInAQueue_10 : decode cX6_isInAQueue 10 = .ok (.iload_n 2, 1) := by decide +kernel
theorem dX6_isInAQueue_11 : decode cX6_isInAQueue 11 = .ok (.invokevirtual 136, 3) := by decide +kernel
theorem dX6_isInAQueue_14 : decode cX6_isInAQueue 14 = .ok (.getfield 146, 3) := by decide +kernel
theorem dX6_isInAQueue_17 : decode cX6_isInAQueue 17 = .ok (.invokestatic 243, 3) := by decide +kernel
theorem dX6_isInAQueue_20 : decode cX6_isInAQueue 20 = .ok (.iconst (-1), 1) := by decide +kernel
theorem dX6_isInAQueue_21 : decode cX6_isInAQueue 21 = .ok (.if_icmp .eq 5, 3) := by decide +kernel
theorem dX6_isInAQueue_24 : decode cX6_isInAQueue 24 = .ok (.iconst 1, 1) := by decide +kernel
theorem dX6_isInAQueue_25 : decode cX6_isInAQueue 25 = .ok (.ireturn, 1) := by decide +kernel
theorem dX6_isInAQueue_26 : decode cX6_isInAQueue 26 = .ok (.iinc 2 1, 3) := by decide +kernel
theorem dX6_isInAQueue_29 : decode cX6_isInAQueue 29 = .ok (.goto (-27), 3) := by decide +kernel
theorem dX6_isInAQueue_32 : decode cX6_isInAQueue 32 = .ok (.iconst 0, 1) := by decide +kernel
theorem dX6_isInAQueue_33 : decode cX6_isInAQueue 33 = .ok (.ireturn, 1) := by decide +kernel
theorem dX6_handOver_0 : decode cX6_handOver 0 = .ok (.aload_n 1, 1) := by decide +kernel
theorem dX6_handOver_1 : decode cX6_handOver 1 = .ok (.getfield 210, 3) := by decide +kernel
theorem dX6_handOver_4 : decode cX6_handOver 4 = .ok (.ifCond .le 15, 3) := by decide +kernel
theorem dX6_handOver_7 : decode cX6_handOver 7 = .ok (.aload_n 1, 1) := by decide +kernel
theorem dX6_handOver_8 : decode cX6_handOver 8 = .ok (.dup, 1) := by decide +kernel
theorem dX6_handOver_9 : decode cX6_handOver 9 = .ok (.getfield 210, 3) := by decide +kernel
theorem dX6_handOver_12 : decode cX6_handOver 12 = .ok (.iconst 1, 1) := by decide +kernel
theorem dX6_handOver_13 : decode cX6_handOver 13 = .ok (.isub, 1) := by decide +kernel
theorem dX6_handOver_14 : decode cX6_handOver 14 = .ok (.putfield 210, 3) := by decide +kernel
theorem dX6_handOver_17 : decode cX6_handOver 17 = .ok (.iconst 1, 1) := by decide +kernel
theorem dX6_handOver_18 : decode cX6_handOver 18 = .ok (.ireturn, 1) := by decide +kernel
theorem dX6_handOver_19 : decode cX6_handOver 19 = .ok (.aload_n 1, 1) := by decide +kernel
theorem dX6_handOver_20 : decode cX6_handOver 20 = .ok (.getfield 242, 3) := by decide +kernel
theorem dX6_handOver_23 : decode cX6_handOver 23 = .ok (.ifCond .eq 5, 3) := by decide +kernel
theorem dX6_handOver_26 : decode cX6_handOver 26 = .ok (.iconst 2, 1) := by decide +kernel
theorem dX6_handOver_27 : decode cX6_handOver 27 = .ok (.ireturn, 1) := by decide +kernel
theorem dX6_handOver_28 : decode cX6_handOver 28 = .ok (.aload_n 2, 1) := by decide +kernel
theorem dX6_handOver_29 : decode cX6_handOver 29 = .ok (.aload_n 1, 1) := by decide +kernel
theorem dX6_handOver_30 : decode cX6_handOver 30 = .ok (.getfield 247, 3) := by decide +kernel
theorem dX6_handOver_33 : decode cX6_handOver 33 = .ok (.invokestatic 243, 3) := by decide +kernel
theorem dX6_handOver_36 : decode cX6_handOver 36 = .ok (.iconst (-1), 1) := by decide +kernel
theorem dX6_handOver_37 : decode cX6_handOver 37 = .ok (.if_icmp .eq 10, 3) := by decide +kernel
theorem dX6_handOver_40 : decode cX6_handOver 40 = .ok (.aload_n 0, 1) := by decide +kernel
theorem dX6_handOver_41 : decode cX6_handOver 41 = .ok (.aload_n 1, 1) := by decide +kernel
theorem dX6_handOver_42 : decode cX6_handOver 42 = .ok (.aload_n 2, 1) := by decide +kernel
theorem dX6_handOver_43 : decode cX6_handOver 43 = .ok (.invokevirtual 250, 3) := by decide +kernel
theorem dX6_handOver_46 : decode cX6_handOver 46 = .ok (.ireturn, 1) := by decide +kernel
theorem dX6_handOver_47 : decode cX6_handOver 47 = .ok (.aload_n 1, 1) := by decide +kernel
theorem dX6_handOver_48 : decode cX6_handOver 48 = .ok (.getfield 253, 3) := by decide +kernel
theorem dX6_handOver_51 : decode cX6_handOver 51 = .ok (.iconst 4, 1) := by decide +kernel
theorem dX6_handOver_52 : decode cX6_handOver 52 = .ok (.if_icmp .ge 17, 3) := by decide +kernel
theorem dX6_handOver_55 : decode cX6_handOver 55 = .ok (.aload_n 0, 1) := by decide +kernel
theorem dX6_handOver_56 : decode cX6_handOver 56 = .ok (.aload_n 0, 1) := by decide +kernel
theorem dX6_handOver_57 : decode cX6_handOver 57 = .ok (.aload_n 1, 1) := by decide +kernel
theorem dX6_handOver_58 : decode cX6_handOver 58 = .ok (.getfield 253, 3) := by decide +kernel
theorem dX6_handOver_61 : decode cX6_handOver 61 = .ok (.invokevirtual 221, 3) := by decide +kernel
theorem dX6_handOver_64 : decode cX6_handOver 64 = .ok (.aload_n 2, 1) := by decide +kernel
theorem dX6_handOver_65 : decode cX6_handOver 65 = .ok (.invokevirtual 254, 3) := by decide +kernel
theorem dX6_handOver_68 : decode cX6_handOver 68 = .ok (.ireturn, 1) := by decide +kernel
theorem dX6_handOver_69 : decode cX6_handOver 69 = .ok (.aload_n 0, 1) := by decide +kernel
theorem dX6_handOver_70 : decode cX6_handOver 70 = .ok (.aload_n 1, 1) := by decide +kernel
theorem dX6_handOver_71 : decode cX6_handOver 71 = .ok (.getfield 253, 3) := by decide +kernel
theorem dX6_handOver_74 : decode cX6_handOver 74 = .ok (.invokevirtual 169, 3) := by decide +kernel
theorem dX6_handOver_77 : decode cX6_handOver 77 = .ok (.aload_n 2, 1) := by decide +kernel
theorem dX6_handOver_78 : decode cX6_handOver 78 = .ok (.putfield 173, 3) := by decide +kernel
theorem dX6_handOver_81 : decode cX6_handOver 81 = .ok (.bipush 6, 2) := by decide +kernel
theorem dX6_handOver_83 : decode cX6_handOver 83 = .ok (.ireturn, 1) := by decide +kernel
theorem dX6_lift_0 : decode cX6_lift 0 = .ok (.aload_n 2, 1) := by decide +kernel
theorem dX6_lift_1 : decode cX6_lift 1 = .ok (.getfield 185, 3) := by decide +kernel
theorem dX6_lift_4 : decode cX6_lift 4 = .ok (.astore_n 3, 1) := by decide +kernel
theorem dX6_lift_5 : decode cX6_lift 5 = .ok (.aload_n 3, 1) := by decide +kernel
theorem dX6_lift_6 : decode cX6_lift 6 = .ok (.getfield 105, 3) := by decide +kernel
theorem dX6_lift_9 : decode cX6_lift 9 = .ok (.ifCond .eq 10, 3) := by decide +kernel
theorem dX6_lift_12 : decode cX6_lift 12 = .ok (.aload_n 0, 1) := by decide +kernel
theorem dX6_lift_13 : decode cX6_lift 13 = .ok (.aload_n 1, 1) := by decide +kernel
theorem dX6_lift_14 : decode cX6_lift 14 = .ok (.aload_n 2, 1) := by decide +kernel
theorem dX6_lift_15 : decode cX6_lift 15 = .ok (.invokevirtual 250, 3) := by decide +kernel
theorem dX6_lift_18 : decode cX6_lift 18 = .ok (.ireturn, 1) := by decide +kernel
theorem dX6_lift_19 : decode cX6_lift 19 = .ok (.aload_n 0, 1) := by decide +kernel
theorem dX6_lift_20 : decode cX6_lift 20 = .ok (.aload_n 1, 1) := by decide +kernel
theorem dX6_lift_21 : decode cX6_lift 21 = .ok (.getfield 258, 3) := by decide +kernel
theorem dX6_lift_24 : decode cX6_lift 24 = .ok (.aload_n 3, 1) := by decide +kernel
theorem dX6_lift_25 : decode cX6_lift 25 = .ok (.getfield 259, 3) := by decide +kernel
theorem dX6_lift_28 : decode cX6_lift 28 = .ok (.invokevirtual 234, 3) := by decide +kernel
theorem dX6_lift_31 : decode cX6_lift 31 = .ok (.ifCond .eq 15, 3) := by decide +kernel
theorem dX6_lift_34 : decode cX6_lift 34 = .ok (.aload_n 0, 1) := by decide +kernel
theorem dX6_lift_35 : decode cX6_lift 35 = .ok (.iconst 1, 1) := by decide +kernel
theorem dX6_lift_36 : decode cX6_lift 36 = .ok (.aload_n 3, 1) := by decide +kernel
theorem dX6_lift_37 : decode cX6_lift 37 = .ok (.getfield 259, 3) := by decide +kernel
theorem dX6_lift_40 : decode cX6_lift 40 = .ok (.invokevirtual 260, 3) := by decide +kernel
theorem dX6_lift_43 : decode cX6_lift 43 = .ok (.ifCond .le 5, 3) := by decide +kernel
theorem dX6_lift_46 : decode cX6_lift 46 = .ok (.iconst 3, 1) := by decide +kernel
theorem dX6_lift_47 : decode cX6_lift 47 = .ok (.ireturn, 1) := by decide +kernel
theorem dX6_lift_48 : decode cX6_lift 48 = .ok (.aload_n 1, 1) := by decide +kernel
theorem dX6_lift_49 : decode cX6_lift 49 = .ok (.aload_n 3, 1) := by decide +kernel
theorem dX6_lift_50 : decode cX6_lift 50 = .ok (.getfield 259, 3) := by decide +kernel
theorem dX6_lift_53 : decode cX6_lift 53 = .ok (.putfield 239, 3) := by decide +kernel
theorem dX6_lift_56 : decode cX6_lift 56 = .ok (.aload_n 3, 1) := by decide +kernel
theorem dX6_lift_57 : decode cX6_lift 57 = .ok (.iconst 1, 1) := by decide +kernel
theorem dX6_lift_58 : decode cX6_lift 58 = .ok (.aload_n 3, 1) := by decide +kernel
theorem dX6_lift_59 : decode cX6_lift 59 = .ok (.getfield 259, 3) := by decide +kernel
theorem dX6_lift_62 : decode cX6_lift 62 = .ok (.invokevirtual 202, 3) := by decide +kernel
theorem dX6_lift_65 : decode cX6_lift 65 = .ok (.aload_n 3, 1) := by decide +kernel
theorem dX6_lift_66 : decode cX6_lift 66 = .ok (.aload_n 1, 1) := by decide +kernel
theorem dX6_lift_67 : decode cX6_lift 67 = .ok (.getfield 258, 3) := by decide +kernel
theorem dX6_lift_70 : decode cX6_lift 70 = .ok (.putfield 264, 3) := by decide +kernel
theorem dX6_lift_73 : decode cX6_lift 73 = .ok (.aload_n 0, 1) := by decide +kernel
theorem dX6_lift_74 : decode cX6_lift 74 = .ok (.aload_n 2, 1) := by decide +kernel
theorem dX6_lift_75 : decode cX6_lift 75 = .ok (.invokevirtual 267, 3) := by decide +kernel
theorem dX6_lift_78 : decode cX6_lift 78 = .ok (.aload_n 1, 1) := by decide +kernel
theorem dX6_lift_79 : decode cX6_lift 79 = .ok (.getfield 270, 3) := by decide +kernel
theorem dX6_lift_82 : decode cX6_lift 82 = .ok (.aload_n 2, 1) := by decide +kernel
theorem dX6_lift_83 : decode cX6_lift 83 = .ok (.invokevirtual 43, 3) := by decide +kernel
theorem dX6_lift_86 : decode cX6_lift 86 = .ok (.pop, 1) := by decide +kernel
theorem dX6_lift_87 : decode cX6_lift 87 = .ok (.aload_n 0, 1) := by decide +kernel
theorem dX6_lift_88 : decode cX6_lift 88 = .ok (.aload_n 1, 1) := by decide +kernel
theorem dX6_lift_89 : decode cX6_lift 89 = .ok (.aload_n 2, 1) := by decide +kernel
theorem dX6_lift_90 : decode cX6_lift 90 = .ok (.invokevirtual 250, 3) := by decide +kernel
theorem dX6_lift_93 : decode cX6_lift 93 = .ok (.ireturn, 1) := by decide +kernel
theorem dX6_canGo_0 : decode cX6_canGo 0 = .ok (.iload_n 1, 1) := by decide +kernel
theorem dX6_canGo_1 : decode cX6_canGo 1 = .ok (.iconst 1, 1) := by decide +kernel
theorem dX6_canGo_2 : decode cX6_canGo 2 = .ok (.if_icmp .lt 17, 3) := by decide +kernel
theorem dX6_canGo_5 : decode cX6_canGo 5 = .ok (.aload_n 0, 1) := by decide +kernel
theorem dX6_canGo_6 : decode cX6_canGo 6 = .ok (.iload_n 1, 1) := by decide +kernel
theorem dX6_canGo_7 : decode cX6_canGo 7 = .ok (.iconst 1, 1) := by decide +kernel
theorem dX6_canGo_8 : decode cX6_canGo 8 = .ok (.isub, 1) := by decide +kernel
theorem dX6_canGo_9 : decode cX6_canGo 9 = .ok (.invokevirtual 221, 3) := by decide +kernel
theorem dX6_canGo_12 : decode cX6_canGo 12 = .ok (.getfield 239, 3) := by decide +kernel
theorem dX6_canGo_15 : decode cX6_canGo 15 = .ok (.iload_n 2, 1) := by decide +kernel
theorem dX6_canGo_16 : decode cX6_canGo 16 = .ok (.if_icmp .ge 7, 3) := by decide +kernel
theorem dX6_canGo_19 : decode cX6_canGo 19 = .ok (.iconst 1, 1) := by decide +kernel
theorem dX6_canGo_20 : decode cX6_canGo 20 = .ok (.goto 4, 3) := by decide +kernel
theorem dX6_canGo_23 : decode cX6_canGo 23 = .ok (.iconst 0, 1) := by decide +kernel
theorem dX6_canGo_24 : decode cX6_canGo 24 = .ok (.istore_n 3, 1) := by decide +kernel
theorem dX6_canGo_25 : decode cX6_canGo 25 = .ok (.iload_n 1, 1) := by decide +kernel
theorem dX6_canGo_26 : decode cX6_canGo 26 = .ok (.iconst 2, 1) := by decide +kernel
theorem dX6_canGo_27 : decode cX6_canGo 27 = .ok (.if_icmp .gt 17, 3) := by decide +kernel
theorem dX6_canGo_30 : decode cX6_canGo 30 = .ok (.aload_n 0, 1) := by decide +kernel
theorem dX6_canGo_31 : decode cX6_canGo 31 = .ok (.iload_n 1, 1) := by decide +kernel
theorem dX6_canGo_32 : decode cX6_canGo 32 = .ok (.iconst 1, 1) := by decide +kernel
theorem dX6_canGo_33 : decode cX6_canGo 33 = .ok (.iadd, 1) := by decide +kernel
theorem dX6_canGo_34 : decode cX6_canGo 34 = .ok (.invokevirtual 221, 3) := by decide +kernel
theorem dX6_canGo_37 : decode cX6_canGo 37 = .ok (.getfield 239, 3) := by decide +kernel
theorem dX6_canGo_40 : decode cX6_canGo 40 = .ok (.iload_n 2, 1) := by decide +kernel
theorem dX6_canGo_41 : decode cX6_canGo 41 = .ok (.if_icmp .le 7, 3) := by decide +kernel
theorem dX6_canGo_44 : decode cX6_canGo 44 = .ok (.iconst 1, 1) := by decide +kernel
theorem dX6_canGo_45 : decode cX6_canGo 45 = .ok (.goto 4, 3) := by decide +kernel
theorem dX6_canGo_48 : decode cX6_canGo 48 = .ok (.iconst 0, 1) := by decide +kernel
theorem dX6_canGo_49 : decode cX6_canGo 49 = .ok (.istore 4, 2) := by decide +kernel
theorem dX6_canGo_51 : decode cX6_canGo 51 = .ok (.iload_n 3, 1) := by decide +kernel
theorem dX6_canGo_52 : decode cX6_canGo 52 = .ok (.ifCond .eq 12, 3) := by decide +kernel
theorem dX6_canGo_55 : decode cX6_canGo 55 = .ok (.iload 4, 2) := by decide +kernel
theorem dX6_canGo_57 : decode cX6_canGo 57 = .ok (.ifCond .eq 7, 3) := by decide +kernel
theorem dX6_canGo_60 : decode cX6_canGo 60 = .ok (.iconst 1, 1) := by decide +kernel
theorem dX6_canGo_61 : decode cX6_canGo 61 = .ok (.goto 4, 3) := by decide +kernel
theorem dX6_canGo_64 : decode cX6_canGo 64 = .ok (.iconst 0, 1) := by decide +kernel
theorem dX6_canGo_65 : decode cX6_canGo 65 = .ok (.ireturn, 1) := by decide +kernel
theorem dX6_isNothingToDo_0 : decode cX6_isNothingToDo 0 = .ok (.aload_n 0, 1) := by decide +kernel
theorem dX6_isNothingToDo_1 : decode cX6_isNothingToDo 1 = .ok (.getfield 185, 3) := by decide +kernel
theorem dX6_isNothingToDo_4 : decode cX6_isNothingToDo 4 = .ok (.astore_n 1, 1) := by decide +kernel
theorem dX6_isNothingToDo_5 : decode cX6_isNothingToDo 5 = .ok (.aload_n 1, 1) := by decide +kernel
theorem dX6_isNothingToDo_6 : decode cX6_isNothingToDo 6 = .ok (.getfield 105, 3) := by decide +kernel
theorem dX6_isNothingToDo_9 : decode cX6_isNothingToDo 9 = .ok (.iconst 4, 1) := by decide +kernel
theorem dX6_isNothingToDo_10 : decode cX6_isNothingToDo 10 = .ok (.if_icmp .eq 23, 3) := by decide +kernel
theorem dX6_isNothingToDo_13 : decode cX6_isNothingToDo 13 = .ok (.aload_n 0, 1) := by decide +kernel
theorem dX6_isNothingToDo_14 : decode cX6_isNothingToDo 14 = .ok (.getfield 271, 3) := by decide +kernel
theorem dX6_isNothingToDo_17 : decode cX6_isNothingToDo 17 = .ok (.iconst 1, 1) := by decide +kernel
theorem dX6_isNothingToDo_18 : decode cX6_isNothingToDo 18 = .ok (.if_icmp .ne 19, 3) := by decide +kernel
theorem dX6_isNothingToDo_21 : decode cX6_isNothingToDo 21 = .ok (.aload_n 1, 1) := by decide +kernel
theorem dX6_isNothingToDo_22 : decode cX6_isNothingToDo 22 = .ok (.iconst 3, 1) := by decide +kernel
theorem dX6_isNothingToDo_23 : decode cX6_isNothingToDo 23 = .ok (.aload_n 0, 1) := by decide +kernel
theorem dX6_isNothingToDo_24 : decode cX6_isNothingToDo 24 = .ok (.getfield 274, 3) := by decide +kernel
theorem dX6_isNothingToDo_27 : decode cX6_isNothingToDo 27 = .ok (.invokevirtual 189, 3) := by decide +kernel
theorem dX6_isNothingToDo_30 : decode cX6_isNothingToDo 30 = .ok (.ifCond .eq 7, 3) := by decide +kernel
theorem dX6_isNothingToDo_33 : decode cX6_isNothingToDo 33 = .ok (.iconst 1, 1) := by decide +kernel
theorem dX6_isNothingToDo_34 : decode cX6_isNothingToDo 34 = .ok (.goto 4, 3) := by decide +kernel
theorem dX6_isNothingToDo_37 : decode cX6_isNothingToDo 37 = .ok (.iconst 0, 1) := by decide +kernel
theorem dX6_isNothingToDo_38 : decode cX6_isNothingToDo 38 = .ok (.ireturn, 1) := by decide +kernel
theorem dX6_canTake_0 : decode cX6_canTake 0 = .ok (.aload_n 2, 1) := by decide +kernel
theorem dX6_canTake_1 : decode cX6_canTake 1 = .ok (.getfield 105, 3) := by decide +kernel
theorem dX6_canTake_4 : decode cX6_canTake 4 = .ok (.iconst 1, 1) := by decide +kernel
theorem dX6_canTake_5 : decode cX6_canTake 5 = .ok (.if_icmp .eq 19, 3) := by decide +kernel
theorem dX6_canTake_8 : decode cX6_canTake 8 = .ok (.aload_n 2, 1) := by decide +kernel
theorem dX6_canTake_9 : decode cX6_canTake 9 = .ok (.getfield 105, 3) := by decide +kernel
theorem dX6_canTake_12 : decode cX6_canTake 12 = .ok (.iconst 3, 1) := by decide +kernel
theorem dX6_canTake_13 : decode cX6_canTake 13 = .ok (.if_icmp .ne 15, 3) := by decide +kernel
theorem dX6_canTake_16 : decode cX6_canTake 16 = .ok (.aload_n 0, 1) := by decide +kernel
theorem dX6_canTake_17 : decode cX6_canTake 17 = .ok (.aload_n 2, 1) := by decide +kernel
theorem dX6_canTake_18 : decode cX6_canTake 18 = .ok (.invokevirtual 277, 3) := by decide +kernel
theorem dX6_canTake_21 : decode cX6_canTake 21 = .ok (.ifCond .eq 7, 3) := by decide +kernel
theorem dX6_canTake_24 : decode cX6_canTake 24 = .ok (.iconst 1, 1) := by decide +kernel
theorem dX6_canTake_25 : decode cX6_canTake 25 = .ok (.goto 4, 3) := by decide +kernel
theorem dX6_canTake_28 : decode cX6_canTake 28 = .ok (.iconst 0, 1) := by decide +kernel
theorem dX6_canTake_29 : decode cX6_canTake 29 = .ok (.istore_n 3, 1) := by decide +kernel
theorem dX6_canTake_30 : decode cX6_canTake 30 = .ok (.iload_n 3, 1) := by decide +kernel
theorem dX6_canTake_31 : decode cX6_canTake 31 = .ok (.ifCond .eq 16, 3) := by decide +kernel
theorem dX6_canTake_34 : decode cX6_canTake 34 = .ok (.aload_n 0, 1) := by decide +kernel
theorem dX6_canTake_35 : decode cX6_canTake 35 = .ok (.iconst 2, 1) := by decide +kernel
theorem dX6_canTake_36 : decode cX6_canTake 36 = .ok (.iload_n 1, 1) := by decide +kernel
theorem dX6_canTake_37 : decode cX6_canTake 37 = .ok (.invokevirtual 260, 3) := by decide +kernel
theorem dX6_canTake_40 : decode cX6_canTake 40 = .ok (.ifCond .ne 7, 3) := by decide +kernel
theorem dX6_canTake_43 : decode cX6_canTake 43 = .ok (.iconst 1, 1) := by decide +kernel
theorem dX6_canTake_44 : decode cX6_canTake 44 = .ok (.goto 4, 3) := by decide +kernel
theorem dX6_canTake_47 : decode cX6_canTake 47 = .ok (.iconst 0, 1) := by decide +kernel
theorem dX6_canTake_48 : decode cX6_canTake 48 = .ok (.ireturn, 1) := by decide +kernel
theorem dX6_isUppermost_0 : decode cX6_isUppermost 0 = .ok (.aload_n 1, 1) := by decide +kernel
theorem dX6_isUppermost_1 : decode cX6_isUppermost 1 = .ok (.getfield 281, 3) := by decide +kernel
theorem dX6_isUppermost_4 : decode cX6_isUppermost 4 = .ok (.aload_n 0, 1) := by decide +kernel
theorem dX6_isUppermost_5 : decode cX6_isUppermost 5 = .ok (.iconst 3, 1) := by decide +kernel
theorem dX6_isUppermost_6 : decode cX6_isUppermost 6 = .ok (.aload_n 1, 1) := by decide +kernel
theorem dX6_isUppermost_7 : decode cX6_isUppermost 7 = .ok (.getfield 284, 3) := by decide +kernel
theorem dX6_isUppermost_10 : decode cX6_isUppermost 10 = .ok (.invokevirtual 260, 3) := by decide +kernel
theorem dX6_isUppermost_13 : decode cX6_isUppermost 13 = .ok (.iconst 1, 1) := by decide +kernel
theorem dX6_isUppermost_14 : decode cX6_isUppermost 14 = .ok (.isub, 1) := by decide +kernel
theorem dX6_isUppermost_15 : decode cX6_isUppermost 15 = .ok (.if_icmp .ne 7, 3) := by decide +kernel
theorem dX6_isUppermost_18 : decode cX6_isUppermost 18 = .ok (.iconst 1, 1) := by decide +kernel
theorem dX6_isUppermost_19 : decode cX6_isUppermost 19 = .ok (.goto 4, 3) := by decide +kernel
theorem dX6_isUppermost_22 : decode cX6_isUppermost 22 = .ok (.iconst 0, 1) := by decide +kernel
theorem dX6_isUppermost_23 : decode cX6_isUppermost 23 = .ok (.ireturn, 1) := by decide +kernel
theorem dX6_canPutDown_0 : decode cX6_canPutDown 0 = .ok (.aload_n 1, 1) := by decide +kernel
theorem dX6_canPutDown_1 : decode cX6_canPutDown 1 = .ok (.getfield 271, 3) := by decide +kernel
theorem dX6_canPutDown_4 : decode cX6_canPutDown 4 = .ok (.iconst 1, 1) := by decide +kernel
theorem dX6_canPutDown_5 : decode cX6_canPutDown 5 = .ok (.if_icmp .ne 22, 3) := by decide +kernel
theorem dX6_canPutDown_8 : decode cX6_canPutDown 8 = .ok (.aload_n 0, 1) := by decide +kernel
theorem dX6_canPutDown_9 : decode cX6_canPutDown 9 = .ok (.iconst 3, 1) := by decide +kernel
theorem dX6_canPutDown_10 : decode cX6_canPutDown 10 = .ok (.aload_n 1, 1) := by decide +kernel
theorem dX6_canPutDown_11 : decode cX6_canPutDown 11 = .ok (.getfield 274, 3) := by decide +kernel
theorem dX6_canPutDown_14 : decode cX6_canPutDown 14 = .ok (.invokevirtual 260, 3) := by decide +kernel
theorem dX6_canPutDown_17 : decode cX6_canPutDown 17 = .ok (.iconst 4, 1) := by decide +kernel
theorem dX6_canPutDown_18 : decode cX6_canPutDown 18 = .ok (.if_icmp .ge 7, 3) := by decide +kernel
theorem dX6_canPutDown_21 : decode cX6_canPutDown 21 = .ok (.iconst 1, 1) := by decide +kernel
theorem dX6_canPutDown_22 : decode cX6_canPutDown 22 = .ok (.goto 4, 3) := by decide +kernel
theorem dX6_canPutDown_25 : decode cX6_canPutDown 25 = .ok (.iconst 0, 1) := by decide +kernel
theorem dX6_canPutDown_26 : decode cX6_canPutDown 26 = .ok (.ireturn, 1) := by decide +kernel
theorem dX6_canPutDown_27 : decode cX6_canPutDown 27 = .ok (.aload_n 1, 1) := by decide +kernel
theorem dX6_canPutDown_28 : decode cX6_canPutDown 28 = .ok (.getfield 185, 3) := by decide +kernel
theorem dX6_canPutDown_31 : decode cX6_canPutDown 31 = .ok (.aload_n 1, 1) := by decide +kernel
theorem dX6_canPutDown_32 : decode cX6_canPutDown 32 = .ok (.getfield 274, 3) := by decide +kernel
theorem dX6_canPutDown_35 : decode cX6_canPutDown 35 = .ok (.aload_n 0, 1) := by decide +kernel
theorem dX6_canPutDown_36 : decode cX6_canPutDown 36 = .ok (.getfield 31, 3) := by decide +kernel
theorem dX6_canPutDown_39 : decode cX6_canPutDown 39 = .ok (.invokevirtual 287, 3) := by decide +kernel
theorem dX6_canPutDown_42 : decode cX6_canPutDown 42 = .ok (.ireturn, 1) := by decide +kernel
theorem dX6_putDown_0 : decode cX6_putDown 0 = .ok (.aload_n 1, 1) := by decide +kernel
theorem dX6_putDown_1 : decode cX6_putDown 1 = .ok (.getfield 185, 3) := by decide +kernel
theorem dX6_putDown_4 : decode cX6_putDown 4 = .ok (.astore_n 2, 1) := by decide +kernel
theorem dX6_putDown_5 : decode cX6_putDown 5 = .ok (.aload_n 1, 1) := by decide +kernel
theorem dX6_putDown_6 : decode cX6_putDown 6 = .ok (.getfield 271, 3) := by decide +kernel
theorem dX6_putDown_9 : decode cX6_putDown 9 = .ok (.iconst 1, 1) := by decide +kernel
theorem dX6_putDown_10 : decode cX6_putDown 10 = .ok (.if_icmp .ne 28, 3) := by decide +kernel
theorem dX6_putDown_13 : decode cX6_putDown 13 = .ok (.aload_n 2, 1) := by decide +kernel
theorem dX6_putDown_14 : decode cX6_putDown 14 = .ok (.aload_n 0, 1) := by decide +kernel
theorem dX6_putDown_15 : decode cX6_putDown 15 = .ok (.iconst 3, 1) := by decide +kernel
theorem dX6_putDown_16 : decode cX6_putDown 16 = .ok (.aload_n 1, 1) := by decide +kernel
theorem dX6_putDown_17 : decode cX6_putDown 17 = .ok (.getfield 274, 3) := by decide +kernel
theorem dX6_putDown_20 : decode cX6_putDown 20 = .ok (.invokevirtual 260, 3) := by decide +kernel
theorem dX6_putDown_23 : decode cX6_putDown 23 = .ok (.putfield 281, 3) := by decide +kernel
theorem dX6_putDown_26 : decode cX6_putDown 26 = .ok (.aload_n 2, 1) := by decide +kernel
theorem dX6_putDown_27 : decode cX6_putDown 27 = .ok (.iconst 3, 1) := by decide +kernel
theorem dX6_putDown_28 : decode cX6_putDown 28 = .ok (.aload_n 1, 1) := by decide +kernel
theorem dX6_putDown_29 : decode cX6_putDown 29 = .ok (.getfield 274, 3) := by decide +kernel
theorem dX6_putDown_32 : decode cX6_putDown 32 = .ok (.invokevirtual 202, 3) := by decide +kernel
theorem dX6_putDown_35 : decode cX6_putDown 35 = .ok (.goto 16, 3) := by decide +kernel
theorem dX6_putDown_38 : decode cX6_putDown 38 = .ok (.aload_n 2, 1) := by decide +kernel
theorem dX6_putDown_39 : decode cX6_putDown 39 = .ok (.iconst 4, 1) := by decide +kernel
theorem dX6_putDown_40 : decode cX6_putDown 40 = .ok (.aload_n 1, 1) := by decide +kernel
theorem dX6_putDown_41 : decode cX6_putDown 41 = .ok (.getfield 274, 3) := by decide +kernel
theorem dX6_putDown_44 : decode cX6_putDown 44 = .ok (.invokevirtual 202, 3) := by decide +kernel
theorem dX6_putDown_47 : decode cX6_putDown 47 = .ok (.aload_n 2, 1) := by decide +kernel
theorem dX6_putDown_48 : decode cX6_putDown 48 = .ok (.invokevirtual 290, 3) := by decide +kernel
theorem dX6_putDown_51 : decode cX6_putDown 51 = .ok (.aload_n 0, 1) := by decide +kernel
theorem dX6_putDown_52 : decode cX6_putDown 52 = .ok (.aload_n 1, 1) := by decide +kernel
theorem dX6_putDown_53 : decode cX6_putDown 53 = .ok (.invokevirtual 267, 3) := by decide +kernel
theorem dX6_putDown_56 : decode cX6_putDown 56 = .ok (.return_, 1) := by decide +kernel
theorem dX6_noteMove_0 : decode cX6_noteMove 0 = .ok (.aload_n 1, 1) := by decide +kernel
theorem dX6_noteMove_1 : decode cX6_noteMove 1 = .ok (.aload_n 0, 1) := by decide +kernel
theorem dX6_noteMove_2 : decode cX6_noteMove 2 = .ok (.getfield 35, 3) := by decide +kernel
theorem dX6_noteMove_5 : decode cX6_noteMove 5 = .ok (.putfield 293, 3) := by decide +kernel
theorem dX6_noteMove_8 : decode cX6_noteMove 8 = .ok (.aload_n 0, 1) := by decide +kernel
theorem dX6_noteMove_9 : decode cX6_noteMove 9 = .ok (.dup, 1) := by decide +kernel
theorem dX6_noteMove_10 : decode cX6_noteMove 10 = .ok (.getfield 35, 3) := by decide +kernel
theorem dX6_noteMove_13 : decode cX6_noteMove 13 = .ok (.iconst 1, 1) := by decide +kernel
theorem dX6_noteMove_14 : decode cX6_noteMove 14 = .ok (.iadd, 1) := by decide +kernel
theorem dX6_noteMove_15 : decode cX6_noteMove 15 = .ok (.putfield 35, 3) := by decide +kernel
theorem dX6_noteMove_18 : decode cX6_noteMove 18 = .ok (.return_, 1) := by decide +kernel
theorem dX6_finish_0 : decode cX6_finish 0 = .ok (.aload_n 1, 1) := by decide +kernel
theorem dX6_finish_1 : decode cX6_finish 1 = .ok (.getfield 296, 3) := by decide +kernel
theorem dX6_finish_4 : decode cX6_finish 4 = .ok (.aload_n 2, 1) := by decide +kernel
theorem dX6_finish_5 : decode cX6_finish 5 = .ok (.invokevirtual 43, 3) := by decide +kernel
theorem dX6_finish_8 : decode cX6_finish 8 = .ok (.pop, 1) := by decide +kernel
theorem dX6_finish_9 : decode cX6_finish 9 = .ok (.aload_n 1, 1) := by decide +kernel
theorem dX6_finish_10 : decode cX6_finish 10 = .ok (.aconst_null, 1) := by decide +kernel
theorem dX6_finish_11 : decode cX6_finish 11 = .ok (.putfield 173, 3) := by decide +kernel
theorem dX6_finish_14 : decode cX6_finish 14 = .ok (.aload_n 0, 1) := by decide +kernel
theorem dX6_finish_15 : decode cX6_finish 15 = .ok (.aload_n 1, 1) := by decide +kernel
theorem dX6_finish_16 : decode cX6_finish 16 = .ok (.aload_n 2, 1) := by decide +kernel
theorem dX6_finish_17 : decode cX6_finish 17 = .ok (.invokevirtual 250, 3) := by decide +kernel
theorem dX6_finish_20 : decode cX6_finish 20 = .ok (.ireturn, 1) := by decide +kernel
theorem dX6_acknowledge_0 : decode cX6_acknowledge 0 = .ok (.aload_n 1, 1) := by decide +kernel
theorem dX6_acknowledge_1 : decode cX6_acknowledge 1 = .ok (.getfield 207, 3) := by decide +kernel
theorem dX6_acknowledge_4 : decode cX6_acknowledge 4 = .ok (.ifCond .le 15, 3) := by decide +kernel
theorem dX6_acknowledge_7 : decode cX6_acknowledge 7 = .ok (.aload_n 1, 1) := by decide +kernel
theorem dX6_acknowledge_8 : decode cX6_acknowledge 8 = .ok (.dup, 1) := by decide +kernel
theorem dX6_acknowledge_9 : decode cX6_acknowledge 9 = .ok (.getfield 207, 3) := by decide +kernel
theorem dX6_acknowledge_12 : decode cX6_acknowledge 12 = .ok (.iconst 1, 1) := by decide +kernel
theorem dX6_acknowledge_13 : decode cX6_acknowledge 13 = .ok (.isub, 1) := by decide +kernel
theorem dX6_acknowledge_14 : decode cX6_acknowledge 14 = .ok (.putfield 207, 3) := by decide +kernel
theorem dX6_acknowledge_17 : decode cX6_acknowledge 17 = .ok (.iconst 5, 1) := by decide +kernel
theorem dX6_acknowledge_18 : decode cX6_acknowledge 18 = .ok (.ireturn, 1) := by decide +kernel
theorem dX6_acknowledge_19 : decode cX6_acknowledge 19 = .ok (.aload_n 1, 1) := by decide +kernel
theorem dX6_acknowledge_20 : decode cX6_acknowledge 20 = .ok (.aload_n 2, 1) := by decide +kernel
theorem dX6_acknowledge_21 : decode cX6_acknowledge 21 = .ok (.invokevirtual 297, 3) := by decide +kernel
theorem dX6_acknowledge_24 : decode cX6_acknowledge 24 = .ok (.aload_n 1, 1) := by decide +kernel
theorem dX6_acknowledge_25 : decode cX6_acknowledge 25 = .ok (.aload_n 2, 1) := by decide +kernel
theorem dX6_acknowledge_26 : decode cX6_acknowledge 26 = .ok (.putfield 213, 3) := by decide +kernel
theorem dX6_acknowledge_29 : decode cX6_acknowledge 29 = .ok (.aload_n 2, 1) := by decide +kernel
theorem dX6_acknowledge_30 : decode cX6_acknowledge 30 = .ok (.invokevirtual 300, 3) := by decide +kernel
theorem dX6_acknowledge_33 : decode cX6_acknowledge 33 = .ok (.ifCond .eq 24, 3) := by decide +kernel
theorem dX6_acknowledge_36 : decode cX6_acknowledge 36 = .ok (.aload_n 2, 1) := by decide +kernel
theorem dX6_acknowledge_37 : decode cX6_acknowledge 37 = .ok (.getfield 303, 3) := by decide +kernel
theorem dX6_acknowledge_40 : decode cX6_acknowledge 40 = .ok (.ifCond .ne 17, 3) := by decide +kernel
theorem dX6_acknowledge_43 : decode cX6_acknowledge 43 = .ok (.aload_n 2, 1) := by decide +kernel
theorem dX6_acknowledge_44 : decode cX6_acknowledge 44 = .ok (.iconst 1, 1) := by decide +kernel
theorem dX6_acknowledge_45 : decode cX6_acknowledge 45 = .ok (.putfield 303, 3) := by decide +kernel
theorem dX6_acknowledge_48 : decode cX6_acknowledge 48 = .ok (.aload_n 0, 1) := by decide +kernel
theorem dX6_acknowledge_49 : decode cX6_acknowledge 49 = .ok (.getfield 22, 3) := by decide +kernel
theorem dX6_acknowledge_52 : decode cX6_acknowledge 52 = .ok (.aload_n 2, 1) := by decide +kernel
theorem dX6_acknowledge_53 : decode cX6_acknowledge 53 = .ok (.invokevirtual 43, 3) := by decide +kernel
theorem dX6_acknowledge_56 : decode cX6_acknowledge 56 = .ok (.pop, 1) := by decide +kernel
theorem dX6_acknowledge_57 : decode cX6_acknowledge 57 = .ok (.iconst 4, 1) := by decide +kernel
theorem dX6_acknowledge_58 : decode cX6_acknowledge 58 = .ok (.ireturn, 1) := by decide +kernel
theorem dX6_book_0 : decode cX6_book 0 = .ok (.iload_n 1, 1) := by decide +kernel
theorem dX6_book_1 : decode cX6_book 1 = .ok (.iconst 2, 1) := by decide +kernel
theorem dX6_book_2 : decode cX6_book 2 = .ok (.invokestatic 52, 3) := by decide +kernel
theorem dX6_book_5 : decode cX6_book 5 = .ok (.aload_n 0, 1) := by decide +kernel
theorem dX6_book_6 : decode cX6_book 6 = .ok (.iload_n 3, 1) := by decide +kernel
theorem dX6_book_7 : decode cX6_book 7 = .ok (.invokevirtual 116, 3) := by decide +kernel
theorem dX6_book_10 : decode cX6_book 10 = .ok (.astore 4, 2) := by decide +kernel
theorem dX6_book_12 : decode cX6_book 12 = .ok (.iload_n 2, 1) := by decide +kernel
theorem dX6_book_13 : decode cX6_book 13 = .ok (.aload_n 0, 1) := by decide +kernel
theorem dX6_book_14 : decode cX6_book 14 = .ok (.getfield 31, 3) := by decide +kernel
theorem dX6_book_17 : decode cX6_book 17 = .ok (.if_icmp .lt 14, 3) := by decide +kernel
theorem dX6_book_20 : decode cX6_book 20 = .ok (.iload_n 2, 1) := by decide +kernel
theorem dX6_book_21 : decode cX6_book 21 = .ok (.aload_n 0, 1) := by decide +kernel
theorem dX6_book_22 : decode cX6_book 22 = .ok (.getfield 31, 3) := by decide +kernel
theorem dX6_book_25 : decode cX6_book 25 = .ok (.bipush 24, 2) := by decide +kernel
theorem dX6_book_27 : decode cX6_book 27 = .ok (.iadd, 1) := by decide +kernel
theorem dX6_book_28 : decode cX6_book 28 = .ok (.if_icmp .le 14, 3) := by decide +kernel
theorem dX6_book_31 : decode cX6_book 31 = .ok (.new 55, 3) := by decide +kernel
theorem dX6_book_34 : decode cX6_book 34 = .ok (.dup, 1) := by decide +kernel
theorem dX6_book_35 : decode cX6_book 35 = .ok (.ldc_w 306, 3) := by decide +kernel
theorem dX6_book_38 : decode cX6_book 38 = .ok (.invokespecial 59, 3) := by decide +kernel
theorem dX6_book_41 : decode cX6_book 41 = .ok (.athrow, 1) := by decide +kernel
theorem dX6_book_42 : decode cX6_book 42 = .ok (.aload_n 0, 1) := by decide +kernel
theorem dX6_book_43 : decode cX6_book 43 = .ok (.iload_n 1, 1) := by decide +kernel
theorem dX6_book_44 : decode cX6_book 44 = .ok (.iload_n 2, 1) := by decide +kernel
theorem dX6_book_45 : decode cX6_book 45 = .ok (.invokevirtual 308, 3) := by decide +kernel
theorem dX6_book_48 : decode cX6_book 48 = .ok (.istore 5, 2) := by decide +kernel
theorem dX6_book_50 : decode cX6_book 50 = .ok (.aload 4, 2) := by decide +kernel
theorem dX6_book_52 : decode cX6_book 52 = .ok (.getfield 105, 3) := by decide +kernel
theorem dX6_book_55 : decode cX6_book 55 = .ok (.iconst 3, 1) := by decide +kernel
theorem dX6_book_56 : decode cX6_book 56 = .ok (.if_icmp .ne 27, 3) := by decide +kernel
theorem dX6_book_59 : decode cX6_book 59 = .ok (.aload 4, 2) := by decide +kernel
theorem dX6_book_61 : decode cX6_book 61 = .ok (.invokevirtual 311, 3) := by decide +kernel
theorem dX6_book_64 : decode cX6_book 64 = .ok (.ifCond .ne 19, 3) := by decide +kernel
theorem dX6_book_67 : decode cX6_book 67 = .ok (.iload 5, 2) := by decide +kernel
theorem dX6_book_69 : decode cX6_book 69 = .ok (.iconst 1, 1) := by decide +kernel
theorem dX6_book_70 : decode cX6_book 70 = .ok (.if_icmp .lt 13, 3) := by decide +kernel
theorem dX6_book_73 : decode cX6_book 73 = .ok (.aload_n 0, 1) := by decide +kernel
theorem dX6_book_74 : decode cX6_book 74 = .ok (.aload 4, 2) := by decide +kernel
theorem dX6_book_76 : decode cX6_book 76 = .ok (.iload_n 2, 1) := by decide +kernel
theorem dX6_book_77 : decode cX6_book 77 = .ok (.invokevirtual 314, 3) := by decide +kernel
theorem dX6_book_80 : decode cX6_book 80 = .ok (.ifCond .ne 14, 3) := by decide +kernel
theorem dX6_book_83 : decode cX6_book 83 = .ok (.new 70, 3) := by decide +kernel
theorem dX6_book_86 : decode cX6_book 86 = .ok (.dup, 1) := by decide +kernel
theorem dX6_book_87 : decode cX6_book 87 = .ok (.ldc_w 318, 3) := by decide +kernel
theorem dX6_book_90 : decode cX6_book 90 = .ok (.invokespecial 74, 3) := by decide +kernel
theorem dX6_book_93 : decode cX6_book 93 = .ok (.athrow, 1) := by decide +kernel
theorem dX6_book_94 : decode cX6_book 94 = .ok (.aload 4, 2) := by decide +kernel
theorem dX6_book_96 : decode cX6_book 96 = .ok (.iload_n 1, 1) := by decide +kernel
theorem dX6_book_97 : decode cX6_book 97 = .ok (.putfield 320, 3) := by decide +kernel
theorem dX6_book_100 : decode cX6_book 100 = .ok (.aload 4, 2) := by decide +kernel
theorem dX6_book_102 : decode cX6_book 102 = .ok (.iload_n 2, 1) := by decide +kernel
theorem dX6_book_103 : decode cX6_book 103 = .ok (.putfield 323, 3) := by decide +kernel
theorem dX6_book_106 : decode cX6_book 106 = .ok (.iload 5, 2) := by decide +kernel
theorem dX6_book_108 : decode cX6_book 108 = .ok (.iconst 1, 1) := by decide +kernel
theorem dX6_book_109 : decode cX6_book 109 = .ok (.isub, 1) := by decide +kernel
theorem dX6_book_110 : decode cX6_book 110 = .ok (.ireturn, 1) := by decide +kernel
theorem dX6_unbook_0 : decode cX6_unbook 0 = .ok (.aload_n 0, 1) := by decide +kernel
theorem dX6_unbook_1 : decode cX6_unbook 1 = .ok (.iload_n 1, 1) := by decide +kernel
theorem dX6_unbook_2 : decode cX6_unbook 2 = .ok (.invokevirtual 116, 3) := by decide +kernel
theorem dX6_unbook_5 : decode cX6_unbook 5 = .ok (.astore_n 2, 1) := by decide +kernel
theorem dX6_unbook_6 : decode cX6_unbook 6 = .ok (.aload_n 2, 1) := by decide +kernel
theorem dX6_unbook_7 : decode cX6_unbook 7 = .ok (.invokevirtual 311, 3) := by decide +kernel
theorem dX6_unbook_10 : decode cX6_unbook 10 = .ok (.ifCond .ne 14, 3) := by decide +kernel
theorem dX6_unbook_13 : decode cX6_unbook 13 = .ok (.new 70, 3) := by decide +kernel
theorem dX6_unbook_16 : decode cX6_unbook 16 = .ok (.dup, 1) := by decide +kernel
theorem dX6_unbook_17 : decode cX6_unbook 17 = .ok (.ldc_w 326, 3) := by decide +kernel
theorem dX6_unbook_20 : decode cX6_unbook 20 = .ok (.invokespecial 74, 3) := by decide +kernel
theorem dX6_unbook_23 : decode cX6_unbook 23 = .ok (.athrow, 1) := by decide +kernel
theorem dX6_unbook_24 : decode cX6_unbook 24 = .ok (.aload_n 2, 1) := by decide +kernel
theorem dX6_unbook_25 : decode cX6_unbook 25 = .ok (.getfield 323, 3) := by decide +kernel
theorem dX6_unbook_28 : decode cX6_unbook 28 = .ok (.istore_n 3, 1) := by decide +kernel
theorem dX6_unbook_29 : decode cX6_unbook 29 = .ok (.aload_n 2, 1) := by decide +kernel
theorem dX6_unbook_30 : decode cX6_unbook 30 = .ok (.invokevirtual 290, 3) := by decide +kernel
theorem dX6_unbook_33 : decode cX6_unbook 33 = .ok (.iload_n 3, 1) := by decide +kernel
theorem dX6_unbook_34 : decode cX6_unbook 34 = .ok (.ireturn, 1) := by decide +kernel
theorem dX6_advance_0 : decode cX6_advance 0 = .ok (.iload_n 1, 1) := by decide +kernel
theorem dX6_advance_1 : decode cX6_advance 1 = .ok (.iconst 1, 1) := by decide +kernel
theorem dX6_advance_2 : decode cX6_advance 2 = .ok (.if_icmp .lt 9, 3) := by decide +kernel
theorem dX6_advance_5 : decode cX6_advance 5 = .ok (.iload_n 1, 1) := by decide +kernel
theorem dX6_advance_6 : decode cX6_advance 6 = .ok (.bipush 48, 2) := by decide +kernel
theorem dX6_advance_8 : decode cX6_advance 8 = .ok (.if_icmp .le 14, 3) := by decide +kernel
theorem dX6_advance_11 : decode cX6_advance 11 = .ok (.new 55, 3) := by decide +kernel
theorem dX6_advance_14 : decode cX6_advance 14 = .ok (.dup, 1) := by decide +kernel
theorem dX6_advance_15 : decode cX6_advance 15 = .ok (.ldc_w 328, 3) := by decide +kernel
theorem dX6_advance_18 : decode cX6_advance 18 = .ok (.invokespecial 59, 3) := by decide +kernel
theorem dX6_advance_21 : decode cX6_advance 21 = .ok (.athrow, 1) := by decide +kernel
theorem dX6_advance_22 : decode cX6_advance 22 = .ok (.aload_n 0, 1) := by decide +kernel
theorem dX6_advance_23 : decode cX6_advance 23 = .ok (.getfield 31, 3) := by decide +kernel
theorem dX6_advance_26 : decode cX6_advance 26 = .ok (.iload_n 1, 1) := by decide +kernel
theorem dX6_advance_27 : decode cX6_advance 27 = .ok (.iadd, 1) := by decide +kernel
theorem dX6_advance_28 : decode cX6_advance 28 = .ok (.sipush 5000, 3) := by decide +kernel
theorem dX6_advance_31 : decode cX6_advance 31 = .ok (.if_icmp .le 14, 3) := by decide +kernel
theorem dX6_advance_34 : decode cX6_advance 34 = .ok (.new 70, 3) := by decide +kernel
theorem dX6_advance_37 : decode cX6_advance 37 = .ok (.dup, 1) := by decide +kernel
theorem dX6_advance_38 : decode cX6_advance 38 = .ok (.ldc_w 330, 3) := by decide +kernel
theorem dX6_advance_41 : decode cX6_advance 41 = .ok (.invokespecial 74, 3) := by decide +kernel
theorem dX6_advance_44 : decode cX6_advance 44 = .ok (.athrow, 1) := by decide +kernel
theorem dX6_advance_45 : decode cX6_advance 45 = .ok (.aload_n 0, 1) := by decide +kernel
theorem dX6_advance_46 : decode cX6_advance 46 = .ok (.dup, 1) := by decide +kernel
theorem dX6_advance_47 : decode cX6_advance 47 = .ok (.getfield 31, 3) := by decide +kernel
theorem dX6_advance_50 : decode cX6_advance 50 = .ok (.iload_n 1, 1) := by decide +kernel
theorem dX6_advance_51 : decode cX6_advance 51 = .ok (.iadd, 1) := by decide +kernel
theorem dX6_advance_52 : decode cX6_advance 52 = .ok (.putfield 31, 3) := by decide +kernel
theorem dX6_advance_55 : decode cX6_advance 55 = .ok (.iconst 0, 1) := by decide +kernel
theorem dX6_advance_56 : decode cX6_advance 56 = .ok (.istore_n 2, 1) := by decide +kernel
theorem dX6_advance_57 : decode cX6_advance 57 = .ok (.iconst 0, 1) := by decide +kernel
theorem dX6_advance_58 : decode cX6_advance 58 = .ok (.istore_n 3, 1) := by decide +kernel
theorem dX6_advance_59 : decode cX6_advance 59 = .ok (.iload_n 3, 1) := by decide +kernel
theorem dX6_advance_60 : decode cX6_advance 60 = .ok (.aload_n 0, 1) := by decide +kernel
theorem dX6_advance_61 : decode cX6_advance 61 = .ok (.getfield 16, 3) := by decide +kernel
theorem dX6_advance_64 : decode cX6_advance 64 = .ok (.invokevirtual 62, 3) := by decide +kernel
theorem dX6_advance_67 : decode cX6_advance 67 = .ok (.if_icmp .ge 50, 3) := by decide +kernel
theorem dX6_advance_70 : decode cX6_advance 70 = .ok (.aload_n 0, 1) := by decide +kernel
theorem dX6_advance_71 : decode cX6_advance 71 = .ok (.getfield 16, 3) := by decide +kernel
theorem dX6_advance_74 : decode cX6_advance 74 = .ok (.iload_n 3, 1) := by decide +kernel
theorem dX6_advance_75 : decode cX6_advance 75 = .ok (.invokevirtual 97, 3) := by decide +kernel
theorem dX6_advance_78 : decode cX6_advance 78 = .ok (.checkcast 92, 3) := by decide +kernel
theorem dX6_advance_81 : decode cX6_advance 81 = .ok (.astore 4, 2) := by decide +kernel
theorem dX6_advance_83 : decode cX6_advance 83 = .ok (.aload 4, 2) := by decide +kernel
theorem dX6_advance_85 : decode cX6_advance 85 = .ok (.invokevirtual 311, 3) := by decide +kernel
theorem dX6_advance_88 : decode cX6_advance 88 = .ok (.ifCond .eq 23, 3) := by decide +kernel
theorem dX6_advance_91 : decode cX6_advance 91 = .ok (.aload 4, 2) := by decide +kernel
theorem dX6_advance_93 : decode cX6_advance 93 = .ok (.getfield 323, 3) := by decide +kernel
theorem dX6_advance_96 : decode cX6_advance 96 = .ok (.aload_n 0, 1) := by decide +kernel
theorem dX6_advance_97 : decode cX6_advance 97 = .ok (.getfield 31, 3) := by decide +kernel
theorem dX6_advance_100 : decode cX6_advance 100 = .ok (.if_icmp .ge 11, 3) := by decide +kernel
theorem dX6_advance_103 : decode cX6_advance 103 = .ok (.aload 4, 2) := by decide +kernel
theorem dX6_advance_105 : decode cX6_advance 105 = .ok (.invokevirtual 290, 3) := by decide +kernel
theorem dX6_advance_108 : decode cX6_advance 108 = .ok (.iinc 2 1, 3) := by decide +kernel
theorem dX6_advance_111 : decode cX6_advance 111 = .ok (.iinc 3 1, 3) := by decide +kernel
theorem dX6_advance_114 : decode cX6_advance 114 = .ok (.goto (-55), 3) := by decide +kernel
theorem dX6_advance_117 : decode cX6_advance 117 = .ok (.iload_n 2, 1) := by decide +kernel
theorem dX6_advance_118 : decode cX6_advance 118 = .ok (.ireturn, 1) := by decide +kernel
theorem dX6_slotsLeft_0 : decode cX6_slotsLeft 0 = .ok (.iconst 2, 1) := by decide +kernel
theorem dX6_slotsLeft_1 : decode cX6_slotsLeft 1 = .ok (.istore_n 3, 1) := by decide +kernel
theorem dX6_slotsLeft_2 : decode cX6_slotsLeft 2 = .ok (.iconst 0, 1) := by decide +kernel
theorem dX6_slotsLeft_3 : decode cX6_slotsLeft 3 = .ok (.istore 4, 2) := by decide +kernel
theorem dX6_slotsLeft_5 : decode cX6_slotsLeft 5 = .ok (.iload 4, 2) := by decide +kernel
theorem dX6_slotsLeft_7 : decode cX6_slotsLeft 7 = .ok (.aload_n 0, 1) := by decide +kernel
theorem dX6_slotsLeft_8 : decode cX6_slotsLeft 8 = .ok (.getfield 16, 3) := by decide +kernel
theorem dX6_slotsLeft_11 : decode cX6_slotsLeft 11 = .ok (.invokevirtual 62, 3) := by decide +kernel
theorem dX6_slotsLeft_14 : decode cX6_slotsLeft 14 = .ok (.if_icmp .ge 32, 3) := by decide +kernel
theorem dX6_slotsLeft_17 : decode cX6_slotsLeft 17 = .ok (.aload_n 0, 1) := by decide +kernel
theorem dX6_slotsLeft_18 : decode cX6_slotsLeft 18 = .ok (.getfield 16, 3) := by decide +kernel
theorem dX6_slotsLeft_21 : decode cX6_slotsLeft 21 = .ok (.iload 4, 2) := by decide +kernel
theorem dX6_slotsLeft_23 : decode cX6_slotsLeft 23 = .ok (.invokevirtual 97, 3) := by decide +kernel
theorem dX6_slotsLeft_26 : decode cX6_slotsLeft 26 = .ok (.checkcast 92, 3) := by decide +kernel
theorem dX6_slotsLeft_29 : decode cX6_slotsLeft 29 = .ok (.iload_n 1, 1) := by decide +kernel
theorem dX6_slotsLeft_30 : decode cX6_slotsLeft 30 = .ok (.iload_n 2, 1) := by decide +kernel
theorem dX6_slotsLeft_31 : decode cX6_slotsLeft 31 = .ok (.invokevirtual 287, 3) := by decide +kernel
theorem dX6_slotsLeft_34 : decode cX6_slotsLeft 34 = .ok (.ifCond .eq 6, 3) := by decide +kernel
theorem dX6_slotsLeft_37 : decode cX6_slotsLeft 37 = .ok (.iinc 3 (-1), 3) := by decide +kernel
theorem dX6_slotsLeft_40 : decode cX6_slotsLeft 40 = .ok (.iinc 4 1, 3) := by decide +kernel
theorem dX6_slotsLeft_43 : decode cX6_slotsLeft 43 = .ok (.goto (-38), 3) := by decide +kernel
theorem dX6_slotsLeft_46 : decode cX6_slotsLeft 46 = .ok (.iload_n 3, 1) := by decide +kernel
theorem dX6_slotsLeft_47 : decode cX6_slotsLeft 47 = .ok (.ireturn, 1) := by decide +kernel
theorem dX6_canComeOut_0 : decode cX6_canComeOut 0 = .ok (.iconst 0, 1) := by decide +kernel
theorem dX6_canComeOut_1 : decode cX6_canComeOut 1 = .ok (.istore_n 3, 1) := by decide +kernel
theorem dX6_canComeOut_2 : decode cX6_canComeOut 2 = .ok (.iload_n 3, 1) := by decide +kernel
theorem dX6_canComeOut_3 : decode cX6_canComeOut 3 = .ok (.aload_n 0, 1) := by decide +kernel
theorem dX6_canComeOut_4 : decode cX6_canComeOut 4 = .ok (.getfield 16, 3) := by decide +kernel
theorem dX6_canComeOut_7 : decode cX6_canComeOut 7 = .ok (.invokevirtual 62, 3) := by decide +kernel
theorem dX6_canComeOut_10 : decode cX6_canComeOut 10 = .ok (.if_icmp .ge 97, 3) := by decide +kernel
theorem dX6_canComeOut_13 : decode cX6_canComeOut 13 = .ok (.aload_n 0, 1) := by decide +kernel
theorem dX6_canComeOut_14 : decode cX6_canComeOut 14 = .ok (.getfield 16, 3) := by decide +kernel
theorem dX6_canComeOut_17 : decode cX6_canComeOut 17 = .ok (.iload_n 3, 1) := by decide +kernel
theorem dX6_canComeOut_18 : decode cX6_canComeOut 18 = .ok (.invokevirtual 97, 3) := by decide +kernel
theorem dX6_canComeOut_21 : decode cX6_canComeOut 21 = .ok (.checkcast 92, 3) := by decide +kernel
theorem dX6_canComeOut_24 : decode cX6_canComeOut 24 = .ok (.astore 4, 2) := by decide +kernel
theorem dX6_canComeOut_26 : decode cX6_canComeOut 26 = .ok (.aload 4, 2) := by decide +kernel
theorem dX6_canComeOut_28 : decode cX6_canComeOut 28 = .ok (.iconst 3, 1) := by decide +kernel
theorem dX6_canComeOut_29 : decode cX6_canComeOut 29 = .ok (.aload_n 1, 1) := by decide +kernel
theorem dX6_canComeOut_30 : decode cX6_canComeOut 30 = .ok (.getfield 284, 3) := by decide +kernel
theorem dX6_canComeOut_33 : decode cX6_canComeOut 33 = .ok (.invokevirtual 189, 3) := by decide +kernel
theorem dX6_canComeOut_36 : decode cX6_canComeOut 36 = .ok (.ifCond .eq 65, 3) := by decide +kernel
theorem dX6_canComeOut_39 : decode cX6_canComeOut 39 = .ok (.aload 4, 2) := by decide +kernel
theorem dX6_canComeOut_41 : decode cX6_canComeOut 41 = .ok (.getfield 281, 3) := by decide +kernel
theorem dX6_canComeOut_44 : decode cX6_canComeOut 44 = .ok (.aload_n 1, 1) := by decide +kernel
theorem dX6_canComeOut_45 : decode cX6_canComeOut 45 = .ok (.getfield 281, 3) := by decide +kernel
theorem dX6_canComeOut_48 : decode cX6_canComeOut 48 = .ok (.if_icmp .le 22, 3) := by decide +kernel
theorem dX6_canComeOut_51 : decode cX6_canComeOut 51 = .ok (.aload 4, 2) := by decide +kernel
theorem dX6_canComeOut_53 : decode cX6_canComeOut 53 = .ok (.invokevirtual 311, 3) := by decide +kernel
theorem dX6_canComeOut_56 : decode cX6_canComeOut 56 = .ok (.ifCond .eq 12, 3) := by decide +kernel
theorem dX6_canComeOut_59 : decode cX6_canComeOut 59 = .ok (.aload 4, 2) := by decide +kernel
theorem dX6_canComeOut_61 : decode cX6_canComeOut 61 = .ok (.getfield 323, 3) := by decide +kernel
theorem dX6_canComeOut_64 : decode cX6_canComeOut 64 = .ok (.iload_n 2, 1) := by decide +kernel
theorem dX6_canComeOut_65 : decode cX6_canComeOut 65 = .ok (.if_icmp .le 5, 3) := by decide +kernel
theorem dX6_canComeOut_68 : decode cX6_canComeOut 68 = .ok (.iconst 0, 1) := by decide +kernel
theorem dX6_canComeOut_69 : decode cX6_canComeOut 69 = .ok (.ireturn, 1) := by decide +kernel
theorem dX6_canComeOut_70 : decode cX6_canComeOut 70 = .ok (.aload 4, 2) := by decide +kernel
theorem dX6_canComeOut_72 : decode cX6_canComeOut 72 = .ok (.getfield 281, 3) := by decide +kernel
theorem dX6_canComeOut_75 : decode cX6_canComeOut 75 = .ok (.aload_n 1, 1) := by decide +kernel
theorem dX6_canComeOut_76 : decode cX6_canComeOut 76 = .ok (.getfield 281, 3) := by decide +kernel
theorem dX6_canComeOut_79 : decode cX6_canComeOut 79 = .ok (.if_icmp .ge 22, 3) := by decide +kernel
theorem dX6_canComeOut_82 : decode cX6_canComeOut 82 = .ok (.aload 4, 2) := by decide +kernel
theorem dX6_canComeOut_84 : decode cX6_canComeOut 84 = .ok (.invokevirtual 311, 3) := by decide +kernel
theorem dX6_canComeOut_87 : decode cX6_canComeOut 87 = .ok (.ifCond .eq 14, 3) := by decide +kernel
theorem dX6_canComeOut_90 : decode cX6_canComeOut 90 = .ok (.aload 4, 2) := by decide +kernel
theorem dX6_canComeOut_92 : decode cX6_canComeOut 92 = .ok (.getfield 323, 3) := by decide +kernel
theorem dX6_canComeOut_95 : decode cX6_canComeOut 95 = .ok (.iload_n 2, 1) := by decide +kernel
theorem dX6_canComeOut_96 : decode cX6_canComeOut 96 = .ok (.if_icmp .ge 5, 3) := by decide +kernel
theorem dX6_canComeOut_99 : decode cX6_canComeOut 99 = .ok (.iconst 0, 1) := by decide +kernel
theorem dX6_canComeOut_100 : decode cX6_canComeOut 100 = .ok (.ireturn, 1) := by decide +kernel
theorem dX6_canComeOut_101 : decode cX6_canComeOut 101 = .ok (.iinc 3 1, 3) := by decide +kernel
theorem dX6_canComeOut_104 : decode cX6_canComeOut 104 = .ok (.goto (-102), 3) := by decide +kernel
theorem dX6_canComeOut_107 : decode cX6_canComeOut 107 = .ok (.iconst 1, 1) := by decide +kernel
theorem dX6_canComeOut_108 : decode cX6_canComeOut 108 = .ok (.ireturn, 1) := by decide +kernel
theorem dX6_hour_0 : decode cX6_hour 0 = .ok (.aload_n 0, 1) := by decide +kernel
theorem dX6_hour_1 : decode cX6_hour 1 = .ok (.getfield 31, 3) := by decide +kernel
theorem dX6_hour_4 : decode cX6_hour 4 = .ok (.ireturn, 1) := by decide +kernel
theorem dX6_boxes_0 : decode cX6_boxes 0 = .ok (.aload_n 0, 1) := by decide +kernel
theorem dX6_boxes_1 : decode cX6_boxes 1 = .ok (.getfield 16, 3) := by decide +kernel
theorem dX6_boxes_4 : decode cX6_boxes 4 = .ok (.invokevirtual 62, 3) := by decide +kernel
theorem dX6_boxes_7 : decode cX6_boxes 7 = .ok (.ireturn, 1) := by decide +kernel
theorem dX6_whereIs_0 : decode cX6_whereIs 0 = .ok (.aload_n 0, 1) := by decide +kernel
theorem dX6_whereIs_1 : decode cX6_whereIs 1 = .ok (.iload_n 1, 1) := by decide +kernel
theorem dX6_whereIs_2 : decode cX6_whereIs 2 = .ok (.invokevirtual 116, 3) := by decide +kernel
theorem dX6_whereIs_5 : decode cX6_whereIs 5 = .ok (.astore_n 2, 1) := by decide +kernel
theorem dX6_whereIs_6 : decode cX6_whereIs 6 = .ok (.aload_n 2, 1) := by decide +kernel
theorem dX6_whereIs_7 : decode cX6_whereIs 7 = .ok (.getfield 105, 3) := by decide +kernel
theorem dX6_whereIs_10 : decode cX6_whereIs 10 = .ok (.iconst 3, 1) := by decide +kernel
theorem dX6_whereIs_11 : decode cX6_whereIs 11 = .ok (.if_icmp .ne 20, 3) := by decide +kernel
theorem dX6_whereIs_14 : decode cX6_whereIs 14 = .ok (.sipush 300, 3) := by decide +kernel
theorem dX6_whereIs_17 : decode cX6_whereIs 17 = .ok (.bipush 10, 2) := by decide +kernel
theorem dX6_whereIs_19 : decode cX6_whereIs 19 = .ok (.aload_n 2, 1) := by decide +kernel
theorem dX6_whereIs_20 : decode cX6_whereIs 20 = .ok (.getfield 284, 3) := by decide +kernel
theorem dX6_whereIs_23 : decode cX6_whereIs 23 = .ok (.imul, 1) := by decide +kernel
theorem dX6_whereIs_24 : decode cX6_whereIs 24 = .ok (.iadd, 1) := by decide +kernel
theorem dX6_whereIs_25 : decode cX6_whereIs 25 = .ok (.aload_n 2, 1) := by decide +kernel
theorem dX6_whereIs_26 : decode cX6_whereIs 26 = .ok (.getfield 281, 3) := by decide +kernel
theorem dX6_whereIs_29 : decode cX6_whereIs 29 = .ok (.iadd, 1) := by decide +kernel
theorem dX6_whereIs_30 : decode cX6_whereIs 30 = .ok (.ireturn, 1) := by decide +kernel
theorem dX6_whereIs_31 : decode cX6_whereIs 31 = .ok (.bipush 100, 2) := by decide +kernel
theorem dX6_whereIs_33 : decode cX6_whereIs 33 = .ok (.aload_n 2, 1) := by decide +kernel
theorem dX6_whereIs_34 : decode cX6_whereIs 34 = .ok (.getfield 105, 3) := by decide +kernel
theorem dX6_whereIs_37 : decode cX6_whereIs 37 = .ok (.imul, 1) := by decide +kernel
theorem dX6_whereIs_38 : decode cX6_whereIs 38 = .ok (.aload_n 2, 1) := by decide +kernel
theorem dX6_whereIs_39 : decode cX6_whereIs 39 = .ok (.getfield 284, 3) := by decide +kernel
theorem dX6_whereIs_42 : decode cX6_whereIs 42 = .ok (.iadd, 1) := by decide +kernel
theorem dX6_whereIs_43 : decode cX6_whereIs 43 = .ok (.ireturn, 1) := by decide +kernel
theorem dX6_whereByLog_0 : decode cX6_whereByLog 0 = .ok (.aload_n 0, 1) := by decide +kernel
theorem dX6_whereByLog_1 : decode cX6_whereByLog 1 = .ok (.iload_n 1, 1) := by decide +kernel
theorem dX6_whereByLog_2 : decode cX6_whereByLog 2 = .ok (.invokevirtual 116, 3) := by decide +kernel
theorem dX6_whereByLog_5 : decode cX6_whereByLog 5 = .ok (.astore_n 2, 1) := by decide +kernel
theorem dX6_whereByLog_6 : decode cX6_whereByLog 6 = .ok (.aload_n 0, 1) := by decide +kernel
theorem dX6_whereByLog_7 : decode cX6_whereByLog 7 = .ok (.aload_n 2, 1) := by decide +kernel
theorem dX6_whereByLog_8 : decode cX6_whereByLog 8 = .ok (.invokevirtual 332, 3) := by decide +kernel
theorem dX6_whereByLog_11 : decode cX6_whereByLog 11 = .ok (.astore_n 3, 1) := by decide +kernel
theorem dX6_whereByLog_12 : decode cX6_whereByLog 12 = .ok (.aload_n 3, 1) := by decide +kernel
theorem dX6_whereByLog_13 : decode cX6_whereByLog 13 = .ok (.ifnonnull 10, 3) := by decide +kernel
theorem dX6_whereByLog_16 : decode cX6_whereByLog 16 = .ok (.iconst 0, 1) := by decide +kernel
theorem dX6_whereByLog_17 : decode cX6_whereByLog 17 = .ok (.aload_n 2, 1) := by decide +kernel
theorem dX6_whereByLog_18 : decode cX6_whereByLog 18 = .ok (.getfield 259, 3) := by decide +kernel
theorem dX6_whereByLog_21 : decode cX6_whereByLog 21 = .ok (.iadd, 1) := by decide +kernel
theorem dX6_whereByLog_22 : decode cX6_whereByLog 22 = .ok (.ireturn, 1) := by decide +kernel
theorem dX6_whereByLog_23 : decode cX6_whereByLog 23 = .ok (.aload_n 3, 1) := by decide +kernel
theorem dX6_whereByLog_24 : decode cX6_whereByLog 24 = .ok (.getfield 271, 3) := by decide +kernel
theorem dX6_whereByLog_27 : decode cX6_whereByLog 27 = .ok (.ifCond .ne 11, 3) := by decide +kernel
theorem dX6_whereByLog_30 : decode cX6_whereByLog 30 = .ok (.bipush 100, 2) := by decide +kernel
theorem dX6_whereByLog_32 : decode cX6_whereByLog 32 = .ok (.aload_n 2, 1) := by decide +kernel
theorem dX6_whereByLog_33 : decode cX6_whereByLog 33 = .ok (.getfield 259, 3) := by decide +kernel
theorem dX6_whereByLog_36 : decode cX6_whereByLog 36 = .ok (.iadd, 1) := by decide +kernel
theorem dX6_whereByLog_37 : decode cX6_whereByLog 37 = .ok (.ireturn, 1) := by decide +kernel
theorem dX6_whereByLog_38 : decode cX6_whereByLog 38 = .ok (.aload_n 3, 1) := by decide +kernel
theorem dX6_whereByLog_39 : decode cX6_whereByLog 39 = .ok (.getfield 271, 3) := by decide +kernel
theorem dX6_whereByLog_42 : decode cX6_whereByLog 42 = .ok (.iconst 1, 1) := by decide +kernel
theorem dX6_whereByLog_43 : decode cX6_whereByLog 43 = .ok (.if_icmp .ne 17, 3) := by decide +kernel
theorem dX6_whereByLog_46 : decode cX6_whereByLog 46 = .ok (.sipush 300, 3) := by decide +kernel
theorem dX6_whereByLog_49 : decode cX6_whereByLog 49 = .ok (.bipush 10, 2) := by decide +kernel
theorem dX6_whereByLog_51 : decode cX6_whereByLog 51 = .ok (.aload_n 3, 1) := by decide +kernel
theorem dX6_whereByLog_52 : decode cX6_whereByLog 52 = .ok (.getfield 274, 3) := by decide +kernel
theorem dX6_whereByLog_55 : decode cX6_whereByLog 55 = .ok (.imul, 1) := by decide +kernel
theorem dX6_whereByLog_56 : decode cX6_whereByLog 56 = .ok (.iadd, 1) := by decide +kernel
theorem dX6_whereByLog_57 : decode cX6_whereByLog 57 = .ok (.goto 11, 3) := by decide +kernel
theorem dX6_whereByLog_60 : decode cX6_whereByLog 60 = .ok (.sipush 400, 3) := by decide +kernel
theorem dX6_whereByLog_63 : decode cX6_whereByLog 63 = .ok (.aload_n 3, 1) := by decide +kernel
theorem dX6_whereByLog_64 : decode cX6_whereByLog 64 = .ok (.getfield 274, 3) := by decide +kernel
theorem dX6_whereByLog_67 : decode cX6_whereByLog 67 = .ok (.iadd, 1) := by decide +kernel
theorem dX6_whereByLog_68 : decode cX6_whereByLog 68 = .ok (.ireturn, 1) := by decide +kernel
theorem dX6_liftedBy_0 : decode cX6_liftedBy 0 = .ok (.aload_n 0, 1) := by decide +kernel
theorem dX6_liftedBy_1 : decode cX6_liftedBy 1 = .ok (.iload_n 1, 1) := by decide +kernel
theorem dX6_liftedBy_2 : decode cX6_liftedBy 2 = .ok (.invokevirtual 116, 3) := by decide +kernel
theorem dX6_liftedBy_5 : decode cX6_liftedBy 5 = .ok (.getfield 264, 3) := by decide +kernel
theorem dX6_liftedBy_8 : decode cX6_liftedBy 8 = .ok (.ireturn, 1) := by decide +kernel
theorem dX6_bookedFor_0 : decode cX6_bookedFor 0 = .ok (.aload_n 0, 1) := by decide +kernel
theorem dX6_bookedFor_1 : decode cX6_bookedFor 1 = .ok (.iload_n 1, 1) := by decide +kernel
theorem dX6_bookedFor_2 : decode cX6_bookedFor 2 = .ok (.invokevirtual 116, 3) := by decide +kernel
theorem dX6_bookedFor_5 : decode cX6_bookedFor 5 = .ok (.getfield 323, 3) := by decide +kernel
theorem dX6_bookedFor_8 : decode cX6_bookedFor 8 = .ok (.ireturn, 1) := by decide +kernel
theorem dX6_placeOf_0 : decode cX6_placeOf 0 = .ok (.aload_n 0, 1) := by decide +kernel
theorem dX6_placeOf_1 : decode cX6_placeOf 1 = .ok (.iload_n 1, 1) := by decide +kernel
theorem dX6_placeOf_2 : decode cX6_placeOf 2 = .ok (.invokevirtual 221, 3) := by decide +kernel
theorem dX6_placeOf_5 : decode cX6_placeOf 5 = .ok (.getfield 239, 3) := by decide +kernel
theorem dX6_placeOf_8 : decode cX6_placeOf 8 = .ok (.ireturn, 1) := by decide +kernel
theorem dX6_height_0 : decode cX6_height 0 = .ok (.iload_n 1, 1) := by decide +kernel
theorem dX6_height_1 : decode cX6_height 1 = .ok (.bipush 6, 2) := by decide +kernel
theorem dX6_height_3 : decode cX6_height 3 = .ok (.invokestatic 52, 3) := by decide +kernel
theorem dX6_height_6 : decode cX6_height 6 = .ok (.aload_n 0, 1) := by decide +kernel
theorem dX6_height_7 : decode cX6_height 7 = .ok (.iconst 3, 1) := by decide +kernel
theorem dX6_height_8 : decode cX6_height 8 = .ok (.iload_n 1, 1) := by decide +kernel
theorem dX6_height_9 : decode cX6_height 9 = .ok (.invokevirtual 260, 3) := by decide +kernel
theorem dX6_height_12 : decode cX6_height 12 = .ok (.ireturn, 1) := by decide +kernel
theorem dX6_queue_0 : decode cX6_queue 0 = .ok (.aload_n 0, 1) := by decide +kernel
theorem dX6_queue_1 : decode cX6_queue 1 = .ok (.iload_n 1, 1) := by decide +kernel
theorem dX6_queue_2 : decode cX6_queue 2 = .ok (.invokevirtual 136, 3) := by decide +kernel
theorem dX6_queue_5 : decode cX6_queue 5 = .ok (.getfield 146, 3) := by decide +kernel
theorem dX6_queue_8 : decode cX6_queue 8 = .ok (.invokevirtual 62, 3) := by decide +kernel
theorem dX6_queue_11 : decode cX6_queue 11 = .ok (.ireturn, 1) := by decide +kernel
theorem dX6_queued_0 : decode cX6_queued 0 = .ok (.aload_n 0, 1) := by decide +kernel
theorem dX6_queued_1 : decode cX6_queued 1 = .ok (.iload_n 1, 1) := by decide +kernel
theorem dX6_queued_2 : decode cX6_queued 2 = .ok (.invokevirtual 136, 3) := by decide +kernel
theorem dX6_queued_5 : decode cX6_queued 5 = .ok (.getfield 146, 3) := by decide +kernel
theorem dX6_queued_8 : decode cX6_queued 8 = .ok (.iload_n 2, 1) := by decide +kernel
theorem dX6_queued_9 : decode cX6_queued 9 = .ok (.invokestatic 336, 3) := by decide +kernel
theorem dX6_queued_12 : decode cX6_queued 12 = .ok (.getfield 151, 3) := by decide +kernel
theorem dX6_queued_15 : decode cX6_queued 15 = .ok (.ireturn, 1) := by decide +kernel
theorem dX6_seen_0 : decode cX6_seen 0 = .ok (.aload_n 0, 1) := by decide +kernel
theorem dX6_seen_1 : decode cX6_seen 1 = .ok (.iload_n 1, 1) := by decide +kernel
theorem dX6_seen_2 : decode cX6_seen 2 = .ok (.invokevirtual 169, 3) := by decide +kernel
theorem dX6_seen_5 : decode cX6_seen 5 = .ok (.getfield 173, 3) := by decide +kernel
theorem dX6_seen_8 : decode cX6_seen 8 = .ok (.astore_n 2, 1) := by decide +kernel
theorem dX6_seen_9 : decode cX6_seen 9 = .ok (.aload_n 2, 1) := by decide +kernel
theorem dX6_seen_10 : decode cX6_seen 10 = .ok (.ifnonnull 7, 3) := by decide +kernel
theorem dX6_seen_13 : decode cX6_seen 13 = .ok (.iconst (-1), 1) := by decide +kernel
theorem dX6_seen_14 : decode cX6_seen 14 = .ok (.goto 7, 3) := by decide +kernel
theorem dX6_seen_17 : decode cX6_seen 17 = .ok (.aload_n 2, 1) := by decide +kernel
theorem dX6_seen_18 : decode cX6_seen 18 = .ok (.getfield 151, 3) := by decide +kernel
theorem dX6_seen_21 : decode cX6_seen 21 = .ok (.ireturn, 1) := by decide +kernel
theorem dX6_handed_0 : decode cX6_handed 0 = .ok (.aload_n 0, 1) := by decide +kernel
theorem dX6_handed_1 : decode cX6_handed 1 = .ok (.getfield 19, 3) := by decide +kernel
theorem dX6_handed_4 : decode cX6_handed 4 = .ok (.iload_n 1, 1) := by decide +kernel
theorem dX6_handed_5 : decode cX6_handed 5 = .ok (.invokestatic 336, 3) := by decide +kernel
theorem dX6_handed_8 : decode cX6_handed 8 = .ok (.getfield 158, 3) := by decide +kernel
theorem dX6_handed_11 : decode cX6_handed 11 = .ok (.ireturn, 1) := by decide +kernel
theorem dX6_isDone_0 : decode cX6_isDone 0 = .ok (.aload_n 0, 1) := by decide +kernel
theorem dX6_isDone_1 : decode cX6_isDone 1 = .ok (.getfield 19, 3) := by decide +kernel
theorem dX6_isDone_4 : decode cX6_isDone 4 = .ok (.iload_n 1, 1) := by decide +kernel
theorem dX6_isDone_5 : decode cX6_isDone 5 = .ok (.invokestatic 336, 3) := by decide +kernel
theorem dX6_isDone_8 : decode cX6_isDone 8 = .ok (.invokevirtual 300, 3) := by decide +kernel
theorem dX6_isDone_11 : decode cX6_isDone 11 = .ok (.ireturn, 1) := by decide +kernel
theorem dX6_moves_0 : decode cX6_moves 0 = .ok (.aload_n 0, 1) := by decide +kernel
theorem dX6_moves_1 : decode cX6_moves 1 = .ok (.getfield 22, 3) := by decide +kernel
theorem dX6_moves_4 : decode cX6_moves 4 = .ok (.invokevirtual 62, 3) := by decide +kernel
theorem dX6_moves_7 : decode cX6_moves 7 = .ok (.ireturn, 1) := by decide +kernel
theorem dX6_moveAt_0 : decode cX6_moveAt 0 = .ok (.aload_n 0, 1) := by decide +kernel
theorem dX6_moveAt_1 : decode cX6_moveAt 1 = .ok (.getfield 22, 3) := by decide +kernel
theorem dX6_moveAt_4 : decode cX6_moveAt 4 = .ok (.iload_n 1, 1) := by decide +kernel
theorem dX6_moveAt_5 : decode cX6_moveAt 5 = .ok (.invokestatic 336, 3) := by decide +kernel
theorem dX6_moveAt_8 : decode cX6_moveAt 8 = .ok (.getfield 151, 3) := by decide +kernel
theorem dX6_moveAt_11 : decode cX6_moveAt 11 = .ok (.ireturn, 1) := by decide +kernel
theorem dX6_unheard_0 : decode cX6_unheard 0 = .ok (.aload_n 0, 1) := by decide +kernel
theorem dX6_unheard_1 : decode cX6_unheard 1 = .ok (.getfield 35, 3) := by decide +kernel
theorem dX6_unheard_4 : decode cX6_unheard 4 = .ok (.aload_n 0, 1) := by decide +kernel
theorem dX6_unheard_5 : decode cX6_unheard 5 = .ok (.getfield 22, 3) := by decide +kernel
theorem dX6_unheard_8 : decode cX6_unheard 8 = .ok (.invokevirtual 62, 3) := by decide +kernel
theorem dX6_unheard_11 : decode cX6_unheard 11 = .ok (.isub, 1) := by decide +kernel
theorem dX6_unheard_12 : decode cX6_unheard 12 = .ok (.ireturn, 1) := by decide +kernel
theorem dX6_lastLoggedMoveOf_0 : decode cX6_lastLoggedMoveOf 0 = .ok (.aconst_null, 1) := by decide +kernel
theorem dX6_lastLoggedMoveOf_1 : decode cX6_lastLoggedMoveOf 1 = .ok (.astore_n 2, 1) := by decide +kernel
theorem dX6_lastLoggedMoveOf_2 : decode cX6_lastLoggedMoveOf 2 = .ok (.iconst 0, 1) := by decide +kernel
theorem dX6_lastLoggedMoveOf_3 : decode cX6_lastLoggedMoveOf 3 = .ok (.istore_n 3, 1) := by decide +kernel
theorem dX6_lastLoggedMoveOf_4 : decode cX6_lastLoggedMoveOf 4 = .ok (.iload_n 3, 1) := by decide +kernel
theorem dX6_lastLoggedMoveOf_5 : decode cX6_lastLoggedMoveOf 5 = .ok (.aload_n 0, 1) := by decide +kernel
theorem dX6_lastLoggedMoveOf_6 : decode cX6_lastLoggedMoveOf 6 = .ok (.getfield 22, 3) := by decide +kernel
theorem dX6_lastLoggedMoveOf_9 : decode cX6_lastLoggedMoveOf 9 = .ok (.invokevirtual 62, 3) := by decide +kernel
theorem dX6_lastLoggedMoveOf_12 : decode cX6_lastLoggedMoveOf 12 = .ok (.if_icmp .ge 50, 3) := by decide +kernel
theorem dX6_lastLoggedMoveOf_15 : decode cX6_lastLoggedMoveOf 15 = .ok (.aload_n 0, 1) := by decide +kernel
theorem dX6_lastLoggedMoveOf_16 : decode cX6_lastLoggedMoveOf 16 = .ok (.getfield 22, 3) := by decide +kernel
theorem dX6_lastLoggedMoveOf_19 : decode cX6_lastLoggedMoveOf 19 = .ok (.iload_n 3, 1) := by decide +kernel
theorem dX6_lastLoggedMoveOf_20 : decode cX6_lastLoggedMoveOf 20 = .ok (.invokevirtual 97, 3) := by decide +kernel
theorem dX6_lastLoggedMoveOf_23 : decode cX6_lastLoggedMoveOf 23 = .ok (.checkcast 141, 3) := by decide +kernel
theorem dX6_lastLoggedMoveOf_26 : decode cX6_lastLoggedMoveOf 26 = .ok (.astore 4, 2) := by decide +kernel
theorem dX6_lastLoggedMoveOf_28 : decode cX6_lastLoggedMoveOf 28 = .ok (.aload 4, 2) := by decide +kernel
theorem dX6_lastLoggedMoveOf_30 : decode cX6_lastLoggedMoveOf 30 = .ok (.getfield 185, 3) := by decide +kernel
theorem dX6_lastLoggedMoveOf_33 : decode cX6_lastLoggedMoveOf 33 = .ok (.aload_n 1, 1) := by decide +kernel
theorem dX6_lastLoggedMoveOf_34 : decode cX6_lastLoggedMoveOf 34 = .ok (.if_acmp .ne 22, 3) := by decide +kernel
theorem dX6_lastLoggedMoveOf_37 : decode cX6_lastLoggedMoveOf 37 = .ok (.aload_n 2, 1) := by decide +kernel
theorem dX6_lastLoggedMoveOf_38 : decode cX6_lastLoggedMoveOf 38 = .ok (.ifnull 15, 3) := by decide +kernel
theorem dX6_lastLoggedMoveOf_41 : decode cX6_lastLoggedMoveOf 41 = .ok (.aload 4, 2) := by decide +kernel
theorem dX6_lastLoggedMoveOf_43 : decode cX6_lastLoggedMoveOf 43 = .ok (.getfield 293, 3) := by decide +kernel
theorem dX6_lastLoggedMoveOf_46 : decode cX6_lastLoggedMoveOf 46 = .ok (.aload_n 2, 1) := by decide +kernel
theorem dX6_lastLoggedMoveOf_47 : decode cX6_lastLoggedMoveOf 47 = .ok (.getfield 293, 3) := by decide +kernel
theorem dX6_lastLoggedMoveOf_50 : decode cX6_lastLoggedMoveOf 50 = .ok (.if_icmp .le 6, 3) := by decide +kernel
theorem dX6_lastLoggedMoveOf_53 : decode cX6_lastLoggedMoveOf 53 = .ok (.aload 4, 2) := by decide +kernel
theorem dX6_lastLoggedMoveOf_55 : decode cX6_lastLoggedMoveOf 55 = .ok (.astore_n 2, 1) := by decide +kernel
theorem dX6_lastLoggedMoveOf_56 : decode cX6_lastLoggedMoveOf 56 = .ok (.iinc 3 1, 3) := by decide +kernel
theorem dX6_lastLoggedMoveOf_59 : decode cX6_lastLoggedMoveOf 59 = .ok (.goto (-55), 3) := by decide +kernel
theorem dX6_lastLoggedMoveOf_62 : decode cX6_lastLoggedMoveOf 62 = .ok (.aload_n 2, 1) := by decide +kernel
theorem dX6_lastLoggedMoveOf_63 : decode cX6_lastLoggedMoveOf 63 = .ok (.areturn, 1) := by decide +kernel
theorem dX6_countAt_0 : decode cX6_countAt 0 = .ok (.iconst 0, 1) := by decide +kernel
theorem dX6_countAt_1 : decode cX6_countAt 1 = .ok (.istore_n 3, 1) := by decide +kernel
theorem dX6_countAt_2 : decode cX6_countAt 2 = .ok (.iconst 0, 1) := by decide +kernel
theorem dX6_countAt_3 : decode cX6_countAt 3 = .ok (.istore 4, 2) := by decide +kernel
theorem dX6_countAt_5 : decode cX6_countAt 5 = .ok (.iload 4, 2) := by decide +kernel
theorem dX6_countAt_7 : decode cX6_countAt 7 = .ok (.aload_n 0, 1) := by decide +kernel
theorem dX6_countAt_8 : decode cX6_countAt 8 = .ok (.getfield 16, 3) := by decide +kernel
theorem dX6_countAt_11 : decode cX6_countAt 11 = .ok (.invokevirtual 62, 3) := by decide +kernel
theorem dX6_countAt_14 : decode cX6_countAt 14 = .ok (.if_icmp .ge 32, 3) := by decide +kernel
theorem dX6_countAt_17 : decode cX6_countAt 17 = .ok (.aload_n 0, 1) := by decide +kernel
theorem dX6_countAt_18 : decode cX6_countAt 18 = .ok (.getfield 16, 3) := by decide +kernel
theorem dX6_countAt_21 : decode cX6_countAt 21 = .ok (.iload 4, 2) := by decide +kernel
theorem dX6_countAt_23 : decode cX6_countAt 23 = .ok (.invokevirtual 97, 3) := by decide +kernel
theorem dX6_countAt_26 : decode cX6_countAt 26 = .ok (.checkcast 92, 3) := by decide +kernel
theorem dX6_countAt_29 : decode cX6_countAt 29 = .ok (.iload_n 1, 1) := by decide +kernel
theorem dX6_countAt_30 : decode cX6_countAt 30 = .ok (.iload_n 2, 1) := by decide +kernel
theorem dX6_countAt_31 : decode cX6_countAt 31 = .ok (.invokevirtual 189, 3) := by decide +kernel
theorem dX6_countAt_34 : decode cX6_countAt 34 = .ok (.ifCond .eq 6, 3) := by decide +kernel
theorem dX6_countAt_37 : decode cX6_countAt 37 = .ok (.iinc 3 1, 3) := by decide +kernel
theorem dX6_countAt_40 : decode cX6_countAt 40 = .ok (.iinc 4 1, 3) := by decide +kernel
theorem dX6_countAt_43 : decode cX6_countAt 43 = .ok (.goto (-38), 3) := by decide +kernel
theorem dX6_countAt_46 : decode cX6_countAt 46 = .ok (.iload_n 3, 1) := by decide +kernel
theorem dX6_countAt_47 : decode cX6_countAt 47 = .ok (.ireturn, 1) := by decide +kernel
theorem dX6_indexOf_0 : decode cX6_indexOf 0 = .ok (.iconst 0, 1) := by decide +kernel
theorem dX6_indexOf_1 : decode cX6_indexOf 1 = .ok (.istore_n 2, 1) := by decide +kernel
theorem dX6_indexOf_2 : decode cX6_indexOf 2 = .ok (.iload_n 2, 1) := by decide +kernel
theorem dX6_indexOf_3 : decode cX6_indexOf 3 = .ok (.aload_n 1, 1) := by decide +kernel
theorem dX6_indexOf_4 : decode cX6_indexOf 4 = .ok (.invokevirtual 62, 3) := by decide +kernel
theorem dX6_indexOf_7 : decode cX6_indexOf 7 = .ok (.if_icmp .ge 20, 3) := by decide +kernel
theorem dX6_indexOf_10 : decode cX6_indexOf 10 = .ok (.aload_n 1, 1) := by decide +kernel
theorem dX6_indexOf_11 : decode cX6_indexOf 11 = .ok (.iload_n 2, 1) := by decide +kernel
theorem dX6_indexOf_12 : decode cX6_indexOf 12 = .ok (.invokevirtual 97, 3) := by decide +kernel
theorem dX6_indexOf_15 : decode cX6_indexOf 15 = .ok (.aload_n 0, 1) := by decide +kernel
theorem dX6_indexOf_16 : decode cX6_indexOf 16 = .ok (.if_acmp .ne 5, 3) := by decide +kernel
theorem dX6_indexOf_19 : decode cX6_indexOf 19 = .ok (.iload_n 2, 1) := by decide +kernel
theorem dX6_indexOf_20 : decode cX6_indexOf 20 = .ok (.ireturn, 1) := by decide +kernel
theorem dX6_indexOf_21 : decode cX6_indexOf 21 = .ok (.iinc 2 1, 3) := by decide +kernel
theorem dX6_indexOf_24 : decode cX6_indexOf 24 = .ok (.goto (-22), 3) := by decide +kernel
theorem dX6_indexOf_27 : decode cX6_indexOf 27 = .ok (.iconst (-1), 1) := by decide +kernel
theorem dX6_indexOf_28 : decode cX6_indexOf 28 = .ok (.ireturn, 1) := by decide +kernel
theorem dX6_requireOneOf_0 : decode cX6_requireOneOf 0 = .ok (.iload_n 0, 1) := by decide +kernel
theorem dX6_requireOneOf_1 : decode cX6_requireOneOf 1 = .ok (.ifCond .lt 8, 3) := by decide +kernel
theorem dX6_requireOneOf_4 : decode cX6_requireOneOf 4 = .ok (.iload_n 0, 1) := by decide +kernel
theorem dX6_requireOneOf_5 : decode cX6_requireOneOf 5 = .ok (.iload_n 1, 1) := by decide +kernel
theorem dX6_requireOneOf_6 : decode cX6_requireOneOf 6 = .ok (.if_icmp .lt 14, 3) := by decide +kernel
theorem dX6_requireOneOf_9 : decode cX6_requireOneOf 9 = .ok (.new 127, 3) := by decide +kernel
theorem dX6_requireOneOf_12 : decode cX6_requireOneOf 12 = .ok (.dup, 1) := by decide +kernel
theorem dX6_requireOneOf_13 : decode cX6_requireOneOf 13 = .ok (.ldc_w 340, 3) := by decide +kernel
theorem dX6_requireOneOf_16 : decode cX6_requireOneOf 16 = .ok (.invokespecial 131, 3) := by decide +kernel
theorem dX6_requireOneOf_19 : decode cX6_requireOneOf 19 = .ok (.athrow, 1) := by decide +kernel
theorem dX6_requireOneOf_20 : decode cX6_requireOneOf 20 = .ok (.return_, 1) := by decide +kernel
theorem dX6_elementOf_0 : decode cX6_elementOf 0 = .ok (.iload_n 1, 1) := by decide +kernel
theorem dX6_elementOf_1 : decode cX6_elementOf 1 = .ok (.aload_n 0, 1) := by decide +kernel
theorem dX6_elementOf_2 : decode cX6_elementOf 2 = .ok (.invokevirtual 62, 3) := by decide +kernel
theorem dX6_elementOf_5 : decode cX6_elementOf 5 = .ok (.invokestatic 52, 3) := by decide +kernel
theorem dX6_elementOf_8 : decode cX6_elementOf 8 = .ok (.aload_n 0, 1) := by decide +kernel
theorem dX6_elementOf_9 : decode cX6_elementOf 9 = .ok (.iload_n 1, 1) := by decide +kernel
theorem dX6_elementOf_10 : decode cX6_elementOf 10 = .ok (.invokevirtual 97, 3) := by decide +kernel
theorem dX6_elementOf_13 : decode cX6_elementOf 13 = .ok (.checkcast 141, 3) := by decide +kernel
theorem dX6_elementOf_16 : decode cX6_elementOf 16 = .ok (.areturn, 1) := by decide +kernel
theorem dX6_shipNumbered_0 : decode cX6_shipNumbered 0 = .ok (.iload_n 1, 1) := by decide +kernel
theorem dX6_shipNumbered_1 : decode cX6_shipNumbered 1 = .ok (.aload_n 0, 1) := by decide +kernel
theorem dX6_shipNumbered_2 : decode cX6_shipNumbered 2 = .ok (.getfield 12, 3) := by decide +kernel
theorem dX6_shipNumbered_5 : decode cX6_shipNumbered 5 = .ok (.invokevirtual 62, 3) := by decide +kernel
theorem dX6_shipNumbered_8 : decode cX6_shipNumbered 8 = .ok (.invokestatic 52, 3) := by decide +kernel
theorem dX6_shipNumbered_11 : decode cX6_shipNumbered 11 = .ok (.aload_n 0, 1) := by decide +kernel
theorem dX6_shipNumbered_12 : decode cX6_shipNumbered 12 = .ok (.getfield 12, 3) := by decide +kernel
theorem dX6_shipNumbered_15 : decode cX6_shipNumbered 15 = .ok (.iload_n 1, 1) := by decide +kernel
theorem dX6_shipNumbered_16 : decode cX6_shipNumbered 16 = .ok (.invokevirtual 97, 3) := by decide +kernel
theorem dX6_shipNumbered_19 : decode cX6_shipNumbered 19 = .ok (.checkcast 75, 3) := by decide +kernel
theorem dX6_shipNumbered_22 : decode cX6_shipNumbered 22 = .ok (.astore_n 2, 1) := by decide +kernel
theorem dX6_shipNumbered_23 : decode cX6_shipNumbered 23 = .ok (.aload_n 2, 1) := by decide +kernel
theorem dX6_shipNumbered_24 : decode cX6_shipNumbered 24 = .ok (.getfield 110, 3) := by decide +kernel
theorem dX6_shipNumbered_27 : decode cX6_shipNumbered 27 = .ok (.ifCond .eq 14, 3) := by decide +kernel
theorem dX6_shipNumbered_30 : decode cX6_shipNumbered 30 = .ok (.new 127, 3) := by decide +kernel
theorem dX6_shipNumbered_33 : decode cX6_shipNumbered 33 = .ok (.dup, 1) := by decide +kernel
theorem dX6_shipNumbered_34 : decode cX6_shipNumbered 34 = .ok (.ldc_w 342, 3) := by decide +kernel
theorem dX6_shipNumbered_37 : decode cX6_shipNumbered 37 = .ok (.invokespecial 131, 3) := by decide +kernel
theorem dX6_shipNumbered_40 : decode cX6_shipNumbered 40 = .ok (.athrow, 1) := by decide +kernel
theorem dX6_shipNumbered_41 : decode cX6_shipNumbered 41 = .ok (.aload_n 2, 1) := by decide +kernel
theorem dX6_shipNumbered_42 : decode cX6_shipNumbered 42 = .ok (.areturn, 1) := by decide +kernel
theorem dX6_boxNumbered_0 : decode cX6_boxNumbered 0 = .ok (.iload_n 1, 1) := by decide +kernel
theorem dX6_boxNumbered_1 : decode cX6_boxNumbered 1 = .ok (.aload_n 0, 1) := by decide +kernel
theorem dX6_boxNumbered_2 : decode cX6_boxNumbered 2 = .ok (.getfield 16, 3) := by decide +kernel
theorem dX6_boxNumbered_5 : decode cX6_boxNumbered 5 = .ok (.invokevirtual 62, 3) := by decide +kernel
theorem dX6_boxNumbered_8 : decode cX6_boxNumbered 8 = .ok (.invokestatic 52, 3) := by decide +kernel
theorem dX6_boxNumbered_11 : decode cX6_boxNumbered 11 = .ok (.aload_n 0, 1) := by decide +kernel
theorem dX6_boxNumbered_12 : decode cX6_boxNumbered 12 = .ok (.getfield 16, 3) := by decide +kernel
theorem dX6_boxNumbered_15 : decode cX6_boxNumbered 15 = .ok (.iload_n 1, 1) := by decide +kernel
theorem dX6_boxNumbered_16 : decode cX6_boxNumbered 16 = .ok (.invokevirtual 97, 3) := by decide +kernel
theorem dX6_boxNumbered_19 : decode cX6_boxNumbered 19 = .ok (.checkcast 92, 3) := by decide +kernel
theorem dX6_boxNumbered_22 : decode cX6_boxNumbered 22 = .ok (.areturn, 1) := by decide +kernel
theorem dX6_craneNumbered_0 : decode cX6_craneNumbered 0 = .ok (.iload_n 1, 1) := by decide +kernel
theorem dX6_craneNumbered_1 : decode cX6_craneNumbered 1 = .ok (.aload_n 0, 1) := by decide +kernel
theorem dX6_craneNumbered_2 : decode cX6_craneNumbered 2 = .ok (.getfield 25, 3) := by decide +kernel
theorem dX6_craneNumbered_5 : decode cX6_craneNumbered 5 = .ok (.invokevirtual 62, 3) := by decide +kernel
theorem dX6_craneNumbered_8 : decode cX6_craneNumbered 8 = .ok (.invokestatic 52, 3) := by decide +kernel
theorem dX6_craneNumbered_11 : decode cX6_craneNumbered 11 = .ok (.aload_n 0, 1) := by decide +kernel
theorem dX6_craneNumbered_12 : decode cX6_craneNumbered 12 = .ok (.getfield 25, 3) := by decide +kernel
theorem dX6_craneNumbered_15 : decode cX6_craneNumbered 15 = .ok (.iload_n 1, 1) := by decide +kernel
theorem dX6_craneNumbered_16 : decode cX6_craneNumbered 16 = .ok (.invokevirtual 97, 3) := by decide +kernel
theorem dX6_craneNumbered_19 : decode cX6_craneNumbered 19 = .ok (.checkcast 38, 3) := by decide +kernel
theorem dX6_craneNumbered_22 : decode cX6_craneNumbered 22 = .ok (.areturn, 1) := by decide +kernel
theorem dX6_truckNumbered_0 : decode cX6_truckNumbered 0 = .ok (.iload_n 1, 1) := by decide +kernel
theorem dX6_truckNumbered_1 : decode cX6_truckNumbered 1 = .ok (.iconst 4, 1) := by decide +kernel
theorem dX6_truckNumbered_2 : decode cX6_truckNumbered 2 = .ok (.if_icmp .lt 16, 3) := by decide +kernel
theorem dX6_truckNumbered_5 : decode cX6_truckNumbered 5 = .ok (.iload_n 1, 1) := by decide +kernel
theorem dX6_truckNumbered_6 : decode cX6_truckNumbered 6 = .ok (.iconst 4, 1) := by decide +kernel
theorem dX6_truckNumbered_7 : decode cX6_truckNumbered 7 = .ok (.isub, 1) := by decide +kernel
theorem dX6_truckNumbered_8 : decode cX6_truckNumbered 8 = .ok (.aload_n 0, 1) := by decide +kernel
theorem dX6_truckNumbered_9 : decode cX6_truckNumbered 9 = .ok (.getfield 28, 3) := by decide +kernel
theorem dX6_truckNumbered_12 : decode cX6_truckNumbered 12 = .ok (.invokevirtual 62, 3) := by decide +kernel
theorem dX6_truckNumbered_15 : decode cX6_truckNumbered 15 = .ok (.if_icmp .lt 14, 3) := by decide +kernel
theorem dX6_truckNumbered_18 : decode cX6_truckNumbered 18 = .ok (.new 127, 3) := by decide +kernel
theorem dX6_truckNumbered_21 : decode cX6_truckNumbered 21 = .ok (.dup, 1) := by decide +kernel
theorem dX6_truckNumbered_22 : decode cX6_truckNumbered 22 = .ok (.ldc_w 344, 3) := by decide +kernel
theorem dX6_truckNumbered_25 : decode cX6_truckNumbered 25 = .ok (.invokespecial 131, 3) := by decide +kernel
theorem dX6_truckNumbered_28 : decode cX6_truckNumbered 28 = .ok (.athrow, 1) := by decide +kernel
theorem dX6_truckNumbered_29 : decode cX6_truckNumbered 29 = .ok (.aload_n 0, 1) := by decide +kernel
theorem dX6_truckNumbered_30 : decode cX6_truckNumbered 30 = .ok (.getfield 28, 3) := by decide +kernel
theorem dX6_truckNumbered_33 : decode cX6_truckNumbered 33 = .ok (.iload_n 1, 1) := by decide +kernel
theorem dX6_truckNumbered_34 : decode cX6_truckNumbered 34 = .ok (.iconst 4, 1) := by decide +kernel
theorem dX6_truckNumbered_35 : decode cX6_truckNumbered 35 = .ok (.isub, 1) := by decide +kernel
theorem dX6_truckNumbered_36 : decode cX6_truckNumbered 36 = .ok (.invokevirtual 97, 3) := by decide +kernel
theorem dX6_truckNumbered_39 : decode cX6_truckNumbered 39 = .ok (.checkcast 47, 3) := by decide +kernel
theorem dX6_truckNumbered_42 : decode cX6_truckNumbered 42 = .ok (.areturn, 1) := by decide +kernel
theorem dX6_workerNumbered_0 : decode cX6_workerNumbered 0 = .ok (.iload_n 1, 1) := by decide +kernel
theorem dX6_workerNumbered_1 : decode cX6_workerNumbered 1 = .ok (.iconst 4, 1) := by decide +kernel
theorem dX6_workerNumbered_2 : decode cX6_workerNumbered 2 = .ok (.if_icmp .ge 11, 3) := by decide +kernel
theorem dX6_workerNumbered_5 : decode cX6_workerNumbered 5 = .ok (.aload_n 0, 1) := by decide +kernel
theorem dX6_workerNumbered_6 : decode cX6_workerNumbered 6 = .ok (.iload_n 1, 1) := by decide +kernel
theorem dX6_workerNumbered_7 : decode cX6_workerNumbered 7 = .ok (.invokevirtual 221, 3) := by decide +kernel
theorem dX6_workerNumbered_10 : decode cX6_workerNumbered 10 = .ok (.goto 8, 3) := by decide +kernel
theorem dX6_workerNumbered_13 : decode cX6_workerNumbered 13 = .ok (.aload_n 0, 1) := by decide +kernel
theorem dX6_workerNumbered_14 : decode cX6_workerNumbered 14 = .ok (.iload_n 1, 1) := by decide +kernel
theorem dX6_workerNumbered_15 : decode cX6_workerNumbered 15 = .ok (.invokevirtual 169, 3) := by decide +kernel
theorem dX6_workerNumbered_18 : decode cX6_workerNumbered 18 = .ok (.areturn, 1) := by decide +kernel
theorem dJ9_max_7cf53_0 : decode cJ9_max_7cf53 0 = .ok (.iload_n 0, 1) := by decide +kernel
theorem dJ9_max_7cf53_1 : decode cJ9_max_7cf53 1 = .ok (.iload_n 1, 1) := by decide +kernel
theorem dJ9_max_7cf53_2 : decode cJ9_max_7cf53 2 = .ok (.if_icmp .lt 7, 3) := by decide +kernel
theorem dJ9_max_7cf53_5 : decode cJ9_max_7cf53 5 = .ok (.iload_n 0, 1) := by decide +kernel
theorem dJ9_max_7cf53_6 : decode cJ9_max_7cf53 6 = .ok (.goto 4, 3) := by decide +kernel
theorem dJ9_max_7cf53_9 : decode cJ9_max_7cf53 9 = .ok (.iload_n 1, 1) := by decide +kernel
theorem dJ9_max_7cf53_10 : decode cJ9_max_7cf53 10 = .ok (.ireturn, 1) := by decide +kernel
theorem dJ9_min_7cf53_0 : decode cJ9_min_7cf53 0 = .ok (.iload_n 0, 1) := by decide +kernel
theorem dJ9_min_7cf53_1 : decode cJ9_min_7cf53 1 = .ok (.iload_n 1, 1) := by decide +kernel
theorem dJ9_min_7cf53_2 : decode cJ9_min_7cf53 2 = .ok (.if_icmp .gt 7, 3) := by decide +kernel
theorem dJ9_min_7cf53_5 : decode cJ9_min_7cf53 5 = .ok (.iload_n 0, 1) := by decide +kernel
theorem dJ9_min_7cf53_6 : decode cJ9_min_7cf53 6 = .ok (.goto 4, 3) := by decide +kernel
theorem dJ9_min_7cf53_9 : decode cJ9_min_7cf53 9 = .ok (.iload_n 1, 1) := by decide +kernel
theorem dJ9_min_7cf53_10 : decode cJ9_min_7cf53 10 = .ok (.ireturn, 1) := by decide +kernel
theorem dJxa1e45_init_da8c8_0 : decode cJxa1e45_init_da8c8 0 = .ok (.aload_n 0, 1) := by decide +kernel
theorem dJxa1e45_init_da8c8_1 : decode cJxa1e45_init_da8c8 1 = .ok (.invokespecial 1, 3) := by decide +kernel
theorem dJxa1e45_init_da8c8_4 : decode cJxa1e45_init_da8c8 4 = .ok (.return_, 1) := by decide +kernel
theorem dJxc12de_init_da8c8_0 : decode cJxc12de_init_da8c8 0 = .ok (.aload_n 0, 1) := by decide +kernel
theorem dJxc12de_init_da8c8_1 : decode cJxc12de_init_da8c8 1 = .ok (.invokespecial 1, 3) := by decide +kernel
theorem dJxc12de_init_da8c8_4 : decode cJxc12de_init_da8c8 4 = .ok (.aload_n 0, 1) := by decide +kernel
theorem dJxc12de_init_da8c8_5 : decode cJxc12de_init_da8c8 5 = .ok (.iconst 0, 1) := by decide +kernel
theorem dJxc12de_init_da8c8_6 : decode cJxc12de_init_da8c8 6 = .ok (.putfield 7, 3) := by decide +kernel
theorem dJxc12de_init_da8c8_9 : decode cJxc12de_init_da8c8 9 = .ok (.return_, 1) := by decide +kernel
theorem dJx4a65c_init_da8c8_0 : decode cJx4a65c_init_da8c8 0 = .ok (.aload_n 0, 1) := by decide +kernel
theorem dJx4a65c_init_da8c8_1 : decode cJx4a65c_init_da8c8 1 = .ok (.invokespecial 1, 3) := by decide +kernel
theorem dJx4a65c_init_da8c8_4 : decode cJx4a65c_init_da8c8 4 = .ok (.aload_n 0, 1) := by decide +kernel
theorem dJx4a65c_init_da8c8_5 : decode cJx4a65c_init_da8c8 5 = .ok (.getstatic 39, 3) := by decide +kernel
theorem dJx4a65c_init_da8c8_8 : decode cJx4a65c_init_da8c8 8 = .ok (.putfield 9, 3) := by decide +kernel
theorem dJx4a65c_init_da8c8_11 : decode cJx4a65c_init_da8c8 11 = .ok (.return_, 1) := by decide +kernel
theorem dJx4a65c_grow_92f84_0 : decode cJx4a65c_grow_92f84 0 = .ok (.aload_n 0, 1) := by decide +kernel
theorem dJx4a65c_grow_92f84_1 : decode cJx4a65c_grow_92f84 1 = .ok (.getfield 9, 3) := by decide +kernel
theorem dJx4a65c_grow_92f84_4 : decode cJx4a65c_grow_92f84 4 = .ok (.arraylength, 1) := by decide +kernel
theorem dJx4a65c_grow_92f84_5 : decode cJx4a65c_grow_92f84 5 = .ok (.istore_n 2, 1) := by decide +kernel
theorem dJx4a65c_grow_92f84_6 : decode cJx4a65c_grow_92f84 6 = .ok (.iload_n 2, 1) := by decide +kernel
theorem dJx4a65c_grow_92f84_7 : decode cJx4a65c_grow_92f84 7 = .ok (.ifCond .gt 13, 3) := by decide +kernel
theorem dJx4a65c_grow_92f84_10 : decode cJx4a65c_grow_92f84 10 = .ok (.aload_n 0, 1) := by decide +kernel
theorem dJx4a65c_grow_92f84_11 : decode cJx4a65c_grow_92f84 11 = .ok (.getfield 9, 3) := by decide +kernel
theorem dJx4a65c_grow_92f84_14 : decode cJx4a65c_grow_92f84 14 = .ok (.getstatic 39, 3) := by decide +kernel
theorem dJx4a65c_grow_92f84_17 : decode cJx4a65c_grow_92f84 17 = .ok (.if_acmp .eq 28, 3) := by decide +kernel
theorem dJx4a65c_grow_92f84_20 : decode cJx4a65c_grow_92f84 20 = .ok (.iload_n 2, 1) := by decide +kernel
theorem dJx4a65c_grow_92f84_21 : decode cJx4a65c_grow_92f84 21 = .ok (.iload_n 1, 1) := by decide +kernel
theorem dJx4a65c_grow_92f84_22 : decode cJx4a65c_grow_92f84 22 = .ok (.iload_n 2, 1) := by decide +kernel
theorem dJx4a65c_grow_92f84_23 : decode cJx4a65c_grow_92f84 23 = .ok (.isub, 1) := by decide +kernel
theorem dJx4a65c_grow_92f84_24 : decode cJx4a65c_grow_92f84 24 = .ok (.iload_n 2, 1) := by decide +kernel
theorem dJx4a65c_grow_92f84_25 : decode cJx4a65c_grow_92f84 25 = .ok (.iconst 1, 1) := by decide +kernel
theorem dJx4a65c_grow_92f84_26 : decode cJx4a65c_grow_92f84 26 = .ok (.ishr, 1) := by decide +kernel
theorem dJx4a65c_grow_92f84_27 : decode cJx4a65c_grow_92f84 27 = .ok (.invokestatic 73, 3) := by decide +kernel
theorem dJx4a65c_grow_92f84_30 : decode cJx4a65c_grow_92f84 30 = .ok (.istore_n 3, 1) := by decide +kernel
theorem dJx4a65c_grow_92f84_31 : decode cJx4a65c_grow_92f84 31 = .ok (.aload_n 0, 1) := by decide +kernel
theorem dJx4a65c_grow_92f84_32 : decode cJx4a65c_grow_92f84 32 = .ok (.aload_n 0, 1) := by decide +kernel
theorem dJx4a65c_grow_92f84_33 : decode cJx4a65c_grow_92f84 33 = .ok (.getfield 9, 3) := by decide +kernel
theorem dJx4a65c_grow_92f84_36 : decode cJx4a65c_grow_92f84 36 = .ok (.iload_n 3, 1) := by decide +kernel
theorem dJx4a65c_grow_92f84_37 : decode cJx4a65c_grow_92f84 37 = .ok (.invokestatic 66, 3) := by decide +kernel
theorem dJx4a65c_grow_92f84_40 : decode cJx4a65c_grow_92f84 40 = .ok (.dup_x1, 1) := by decide +kernel
theorem dJx4a65c_grow_92f84_41 : decode cJx4a65c_grow_92f84 41 = .ok (.putfield 9, 3) := by decide +kernel
theorem dJx4a65c_grow_92f84_44 : decode cJx4a65c_grow_92f84 44 = .ok (.areturn, 1) := by decide +kernel
theorem dJx4a65c_grow_92f84_45 : decode cJx4a65c_grow_92f84 45 = .ok (.aload_n 0, 1) := by decide +kernel
theorem dJx4a65c_grow_92f84_46 : decode cJx4a65c_grow_92f84 46 = .ok (.bipush 10, 2) := by decide +kernel
theorem dJx4a65c_grow_92f84_48 : decode cJx4a65c_grow_92f84 48 = .ok (.iload_n 1, 1) := by decide +kernel
theorem dJx4a65c_grow_92f84_49 : decode cJx4a65c_grow_92f84 49 = .ok (.invokestatic 79, 3) := by decide +kernel
theorem dJx4a65c_grow_92f84_52 : decode cJx4a65c_grow_92f84 52 = .ok (.anewarray 7, 3) := by decide +kernel
theorem dJx4a65c_grow_92f84_55 : decode cJx4a65c_grow_92f84 55 = .ok (.dup_x1, 1) := by decide +kernel
theorem dJx4a65c_grow_92f84_56 : decode cJx4a65c_grow_92f84 56 = .ok (.putfield 9, 3) := by decide +kernel
theorem dJx4a65c_grow_92f84_59 : decode cJx4a65c_grow_92f84 59 = .ok (.areturn, 1) := by decide +kernel
theorem dJx4a65c_grow_d5877_0 : decode cJx4a65c_grow_d5877 0 = .ok (.aload_n 0, 1) := by decide +kernel
theorem dJx4a65c_grow_d5877_1 : decode cJx4a65c_grow_d5877 1 = .ok (.aload_n 0, 1) := by decide +kernel
theorem dJx4a65c_grow_d5877_2 : decode cJx4a65c_grow_d5877 2 = .ok (.getfield 48, 3) := by decide +kernel
theorem dJx4a65c_grow_d5877_5 : decode cJx4a65c_grow_d5877 5 = .ok (.iconst 1, 1) := by decide +kernel
theorem dJx4a65c_grow_d5877_6 : decode cJx4a65c_grow_d5877 6 = .ok (.iadd, 1) := by decide +kernel
theorem dJx4a65c_grow_d5877_7 : decode cJx4a65c_grow_d5877 7 = .ok (.invokevirtual 69, 3) := by decide +kernel
theorem dJx4a65c_grow_d5877_10 : decode cJx4a65c_grow_d5877 10 = .ok (.areturn, 1) := by decide +kernel
theorem dJx4a65c_size_8abf5_0 : decode cJx4a65c_size_8abf5 0 = .ok (.aload_n 0, 1) := by decide +kernel
theorem dJx4a65c_size_8abf5_1 : decode cJx4a65c_size_8abf5 1 = .ok (.getfield 48, 3) := by decide +kernel
theorem dJx4a65c_size_8abf5_4 : decode cJx4a65c_size_8abf5 4 = .ok (.ireturn, 1) := by decide +kernel
theorem dJx4a65c_isEmpty_aae02_0 : decode cJx4a65c_isEmpty_aae02 0 = .ok (.aload_n 0, 1) := by decide +kernel
theorem dJx4a65c_isEmpty_aae02_1 : decode cJx4a65c_isEmpty_aae02 1 = .ok (.getfield 48, 3) := by decide +kernel
theorem dJx4a65c_isEmpty_aae02_4 : decode cJx4a65c_isEmpty_aae02 4 = .ok (.ifCond .ne 7, 3) := by decide +kernel
theorem dJx4a65c_isEmpty_aae02_7 : decode cJx4a65c_isEmpty_aae02 7 = .ok (.iconst 1, 1) := by decide +kernel
theorem dJx4a65c_isEmpty_aae02_8 : decode cJx4a65c_isEmpty_aae02 8 = .ok (.goto 4, 3) := by decide +kernel
theorem dJx4a65c_isEmpty_aae02_11 : decode cJx4a65c_isEmpty_aae02 11 = .ok (.iconst 0, 1) := by decide +kernel
theorem dJx4a65c_isEmpty_aae02_12 : decode cJx4a65c_isEmpty_aae02 12 = .ok (.ireturn, 1) := by decide +kernel
theorem dJx4a65c_elementData_915e3_0 : decode cJx4a65c_elementData_915e3 0 = .ok (.aload_n 0, 1) := by decide +kernel
theorem dJx4a65c_elementData_915e3_1 : decode cJx4a65c_elementData_915e3 1 = .ok (.getfield 9, 3) := by decide +kernel
theorem dJx4a65c_elementData_915e3_4 : decode cJx4a65c_elementData_915e3 4 = .ok (.iload_n 1, 1) := by decide +kernel
theorem dJx4a65c_elementData_915e3_5 : decode cJx4a65c_elementData_915e3 5 = .ok (.aaload, 1) := by decide +kernel
theorem dJx4a65c_elementData_915e3_6 : decode cJx4a65c_elementData_915e3 6 = .ok (.areturn, 1) := by decide +kernel
theorem dJx4a65c_get_915e3_0 : decode cJx4a65c_get_915e3 0 = .ok (.iload_n 1, 1) := by decide +kernel
theorem dJx4a65c_get_915e3_1 : decode cJx4a65c_get_915e3 1 = .ok (.aload_n 0, 1) := by decide +kernel
theorem dJx4a65c_get_915e3_2 : decode cJx4a65c_get_915e3 2 = .ok (.getfield 48, 3) := by decide +kernel
theorem dJx4a65c_get_915e3_5 : decode cJx4a65c_get_915e3 5 = .ok (.invokestatic 118, 3) := by decide +kernel
theorem dJx4a65c_get_915e3_8 : decode cJx4a65c_get_915e3 8 = .ok (.pop, 1) := by decide +kernel
theorem dJx4a65c_get_915e3_9 : decode cJx4a65c_get_915e3 9 = .ok (.aload_n 0, 1) := by decide +kernel
theorem dJx4a65c_get_915e3_10 : decode cJx4a65c_get_915e3 10 = .ok (.iload_n 1, 1) := by decide +kernel
theorem dJx4a65c_get_915e3_11 : decode cJx4a65c_get_915e3 11 = .ok (.invokevirtual 123, 3) := by decide +kernel
theorem dJx4a65c_get_915e3_14 : decode cJx4a65c_get_915e3 14 = .ok (.areturn, 1) := by decide +kernel
theorem dJx4a65c_add_72be8_0 : decode cJx4a65c_add_72be8 0 = .ok (.iload_n 3, 1) := by decide +kernel
theorem dJx4a65c_add_72be8_1 : decode cJx4a65c_add_72be8 1 = .ok (.aload_n 2, 1) := by decide +kernel
theorem dJx4a65c_add_72be8_2 : decode cJx4a65c_add_72be8 2 = .ok (.arraylength, 1) := by decide +kernel
theorem dJx4a65c_add_72be8_3 : decode cJx4a65c_add_72be8 3 = .ok (.if_icmp .ne 8, 3) := by decide +kernel
theorem dJx4a65c_add_72be8_6 : decode cJx4a65c_add_72be8 6 = .ok (.aload_n 0, 1) := by decide +kernel
theorem dJx4a65c_add_72be8_7 : decode cJx4a65c_add_72be8 7 = .ok (.invokevirtual 129, 3) := by decide +kernel
theorem dJx4a65c_add_72be8_10 : decode cJx4a65c_add_72be8 10 = .ok (.astore_n 2, 1) := by decide +kernel
theorem dJx4a65c_add_72be8_11 : decode cJx4a65c_add_72be8 11 = .ok (.aload_n 2, 1) := by decide +kernel
theorem dJx4a65c_add_72be8_12 : decode cJx4a65c_add_72be8 12 = .ok (.iload_n 3, 1) := by decide +kernel
theorem dJx4a65c_add_72be8_13 : decode cJx4a65c_add_72be8 13 = .ok (.aload_n 1, 1) := by decide +kernel
theorem dJx4a65c_add_72be8_14 : decode cJx4a65c_add_72be8 14 = .ok (.aastore, 1) := by decide +kernel
theorem dJx4a65c_add_72be8_15 : decode cJx4a65c_add_72be8 15 = .ok (.aload_n 0, 1) := by decide +kernel
theorem dJx4a65c_add_72be8_16 : decode cJx4a65c_add_72be8 16 = .ok (.iload_n 3, 1) := by decide +kernel
theorem dJx4a65c_add_72be8_17 : decode cJx4a65c_add_72be8 17 = .ok (.iconst 1, 1) := by decide +kernel
theorem dJx4a65c_add_72be8_18 : decode cJx4a65c_add_72be8 18 = .ok (.iadd, 1) := by decide +kernel
theorem dJx4a65c_add_72be8_19 : decode cJx4a65c_add_72be8 19 = .ok (.putfield 48, 3) := by decide +kernel
theorem dJx4a65c_add_72be8_22 : decode cJx4a65c_add_72be8 22 = .ok (.return_, 1) := by decide +kernel
theorem dJx4a65c_add_9ea2d_0 : decode cJx4a65c_add_9ea2d 0 = .ok (.aload_n 0, 1) := by decide +kernel
theorem dJx4a65c_add_9ea2d_1 : decode cJx4a65c_add_9ea2d 1 = .ok (.dup, 1) := by decide +kernel
theorem dJx4a65c_add_9ea2d_2 : decode cJx4a65c_add_9ea2d 2 = .ok (.getfield 63, 3) := by decide +kernel
theorem dJx4a65c_add_9ea2d_5 : decode cJx4a65c_add_9ea2d 5 = .ok (.iconst 1, 1) := by decide +kernel
theorem dJx4a65c_add_9ea2d_6 : decode cJx4a65c_add_9ea2d 6 = .ok (.iadd, 1) := by decide +kernel
theorem dJx4a65c_add_9ea2d_7 : decode cJx4a65c_add_9ea2d 7 = .ok (.putfield 63, 3) := by decide +kernel
theorem dJx4a65c_add_9ea2d_10 : decode cJx4a65c_add_9ea2d 10 = .ok (.aload_n 0, 1) := by decide +kernel
theorem dJx4a65c_add_9ea2d_11 : decode cJx4a65c_add_9ea2d 11 = .ok (.aload_n 1, 1) := by decide +kernel
theorem dJx4a65c_add_9ea2d_12 : decode cJx4a65c_add_9ea2d 12 = .ok (.aload_n 0, 1) := by decide +kernel
theorem dJx4a65c_add_9ea2d_13 : decode cJx4a65c_add_9ea2d 13 = .ok (.getfield 9, 3) := by decide +kernel
theorem dJx4a65c_add_9ea2d_16 : decode cJx4a65c_add_9ea2d 16 = .ok (.aload_n 0, 1) := by decide +kernel
theorem dJx4a65c_add_9ea2d_17 : decode cJx4a65c_add_9ea2d 17 = .ok (.getfield 48, 3) := by decide +kernel
theorem dJx4a65c_add_9ea2d_20 : decode cJx4a65c_add_9ea2d 20 = .ok (.invokevirtual 131, 3) := by decide +kernel
theorem dJx4a65c_add_9ea2d_23 : decode cJx4a65c_add_9ea2d 23 = .ok (.iconst 1, 1) := by decide +kernel
theorem dJx4a65c_add_9ea2d_24 : decode cJx4a65c_add_9ea2d 24 = .ok (.ireturn, 1) := by decide +kernel
theorem dJx4a65c_remove_915e3_0 : decode cJx4a65c_remove_915e3 0 = .ok (.iload_n 1, 1) := by decide +kernel
theorem dJx4a65c_remove_915e3_1 : decode cJx4a65c_remove_915e3 1 = .ok (.aload_n 0, 1) := by decide +kernel
theorem dJx4a65c_remove_915e3_2 : decode cJx4a65c_remove_915e3 2 = .ok (.getfield 48, 3) := by decide +kernel
theorem dJx4a65c_remove_915e3_5 : decode cJx4a65c_remove_915e3 5 = .ok (.invokestatic 118, 3) := by decide +kernel
theorem dJx4a65c_remove_915e3_8 : decode cJx4a65c_remove_915e3 8 = .ok (.pop, 1) := by decide +kernel
theorem dJx4a65c_remove_915e3_9 : decode cJx4a65c_remove_915e3 9 = .ok (.aload_n 0, 1) := by decide +kernel
theorem dJx4a65c_remove_915e3_10 : decode cJx4a65c_remove_915e3 10 = .ok (.getfield 9, 3) := by decide +kernel
theorem dJx4a65c_remove_915e3_13 : decode cJx4a65c_remove_915e3 13 = .ok (.astore_n 2, 1) := by decide +kernel
theorem dJx4a65c_remove_915e3_14 : decode cJx4a65c_remove_915e3 14 = .ok (.aload_n 2, 1) := by decide +kernel
theorem dJx4a65c_remove_915e3_15 : decode cJx4a65c_remove_915e3 15 = .ok (.iload_n 1, 1) := by decide +kernel
theorem dJx4a65c_remove_915e3_16 : decode cJx4a65c_remove_915e3 16 = .ok (.aaload, 1) := by decide +kernel
theorem dJx4a65c_remove_915e3_17 : decode cJx4a65c_remove_915e3 17 = .ok (.astore_n 3, 1) := by decide +kernel
theorem dJx4a65c_remove_915e3_18 : decode cJx4a65c_remove_915e3 18 = .ok (.aload_n 0, 1) := by decide +kernel
theorem dJx4a65c_remove_915e3_19 : decode cJx4a65c_remove_915e3 19 = .ok (.aload_n 2, 1) := by decide +kernel
theorem dJx4a65c_remove_915e3_20 : decode cJx4a65c_remove_915e3 20 = .ok (.iload_n 1, 1) := by decide +kernel
theorem dJx4a65c_remove_915e3_21 : decode cJx4a65c_remove_915e3 21 = .ok (.invokevirtual 144, 3) := by decide +kernel
theorem dJx4a65c_remove_915e3_24 : decode cJx4a65c_remove_915e3 24 = .ok (.aload_n 3, 1) := by decide +kernel
theorem dJx4a65c_remove_915e3_25 : decode cJx4a65c_remove_915e3 25 = .ok (.areturn, 1) := by decide +kernel
theorem dJx4a65c_fastRemove_b59b0_0 : decode cJx4a65c_fastRemove_b59b0 0 = .ok (.aload_n 0, 1) := by decide +kernel
theorem dJx4a65c_fastRemove_b59b0_1 : decode cJx4a65c_fastRemove_b59b0 1 = .ok (.dup, 1) := by decide +kernel
theorem dJx4a65c_fastRemove_b59b0_2 : decode cJx4a65c_fastRemove_b59b0 2 = .ok (.getfield 63, 3) := by decide +kernel
theorem dJx4a65c_fastRemove_b59b0_5 : decode cJx4a65c_fastRemove_b59b0 5 = .ok (.iconst 1, 1) := by decide +kernel
theorem dJx4a65c_fastRemove_b59b0_6 : decode cJx4a65c_fastRemove_b59b0 6 = .ok (.iadd, 1) := by decide +kernel
theorem dJx4a65c_fastRemove_b59b0_7 : decode cJx4a65c_fastRemove_b59b0 7 = .ok (.putfield 63, 3) := by decide +kernel
theorem dJx4a65c_fastRemove_b59b0_10 : decode cJx4a65c_fastRemove_b59b0 10 = .ok (.aload_n 0, 1) := by decide +kernel
theorem dJx4a65c_fastRemove_b59b0_11 : decode cJx4a65c_fastRemove_b59b0 11 = .ok (.getfield 48, 3) := by decide +kernel
theorem dJx4a65c_fastRemove_b59b0_14 : decode cJx4a65c_fastRemove_b59b0 14 = .ok (.iconst 1, 1) := by decide +kernel
theorem dJx4a65c_fastRemove_b59b0_15 : decode cJx4a65c_fastRemove_b59b0 15 = .ok (.isub, 1) := by decide +kernel
theorem dJx4a65c_fastRemove_b59b0_16 : decode cJx4a65c_fastRemove_b59b0 16 = .ok (.dup, 1) := by decide +kernel
theorem dJx4a65c_fastRemove_b59b0_17 : decode cJx4a65c_fastRemove_b59b0 17 = .ok (.istore_n 3, 1) := by decide +kernel
theorem dJx4a65c_fastRemove_b59b0_18 : decode cJx4a65c_fastRemove_b59b0 18 = .ok (.iload_n 2, 1) := by decide +kernel
theorem dJx4a65c_fastRemove_b59b0_19 : decode cJx4a65c_fastRemove_b59b0 19 = .ok (.if_icmp .le 15, 3) := by decide +kernel
theorem dJx4a65c_fastRemove_b59b0_22 : decode cJx4a65c_fastRemove_b59b0 22 = .ok (.aload_n 1, 1) := by decide +kernel
theorem dJx4a65c_fastRemove_b59b0_23 : decode cJx4a65c_fastRemove_b59b0 23 = .ok (.iload_n 2, 1) := by decide +kernel
theorem dJx4a65c_fastRemove_b59b0_24 : decode cJx4a65c_fastRemove_b59b0 24 = .ok (.iconst 1, 1) := by decide +kernel
theorem dJx4a65c_fastRemove_b59b0_25 : decode cJx4a65c_fastRemove_b59b0 25 = .ok (.iadd, 1) := by decide +kernel
theorem dJx4a65c_fastRemove_b59b0_26 : decode cJx4a65c_fastRemove_b59b0 26 = .ok (.aload_n 1, 1) := by decide +kernel
theorem dJx4a65c_fastRemove_b59b0_27 : decode cJx4a65c_fastRemove_b59b0 27 = .ok (.iload_n 2, 1) := by decide +kernel
theorem dJx4a65c_fastRemove_b59b0_28 : decode cJx4a65c_fastRemove_b59b0 28 = .ok (.iload_n 3, 1) := by decide +kernel
theorem dJx4a65c_fastRemove_b59b0_29 : decode cJx4a65c_fastRemove_b59b0 29 = .ok (.iload_n 2, 1) := by decide +kernel
theorem dJx4a65c_fastRemove_b59b0_30 : decode cJx4a65c_fastRemove_b59b0 30 = .ok (.isub, 1) := by decide +kernel
theorem dJx4a65c_fastRemove_b59b0_31 : decode cJx4a65c_fastRemove_b59b0 31 = .ok (.invokestatic 112, 3) := by decide +kernel
theorem dJx4a65c_fastRemove_b59b0_34 : decode cJx4a65c_fastRemove_b59b0 34 = .ok (.aload_n 1, 1) := by decide +kernel
theorem dJx4a65c_fastRemove_b59b0_35 : decode cJx4a65c_fastRemove_b59b0 35 = .ok (.aload_n 0, 1) := by decide +kernel
theorem dJx4a65c_fastRemove_b59b0_36 : decode cJx4a65c_fastRemove_b59b0 36 = .ok (.iload_n 3, 1) := by decide +kernel
theorem dJx4a65c_fastRemove_b59b0_37 : decode cJx4a65c_fastRemove_b59b0 37 = .ok (.dup_x1, 1) := by decide +kernel
theorem dJx4a65c_fastRemove_b59b0_38 : decode cJx4a65c_fastRemove_b59b0 38 = .ok (.putfield 48, 3) := by decide +kernel
theorem dJx4a65c_fastRemove_b59b0_41 : decode cJx4a65c_fastRemove_b59b0 41 = .ok (.aconst_null, 1) := by decide +kernel
theorem dJx4a65c_fastRemove_b59b0_42 : decode cJx4a65c_fastRemove_b59b0 42 = .ok (.aastore, 1) := by decide +kernel
theorem dJx4a65c_fastRemove_b59b0_43 : decode cJx4a65c_fastRemove_b59b0 43 = .ok (.return_, 1) := by decide +kernel
theorem dJx4a65c_clear_da8c8_0 : decode cJx4a65c_clear_da8c8 0 = .ok (.aload_n 0, 1) := by decide +kernel
theorem dJx4a65c_clear_da8c8_1 : decode cJx4a65c_clear_da8c8 1 = .ok (.dup, 1) := by decide +kernel
theorem dJx4a65c_clear_da8c8_2 : decode cJx4a65c_clear_da8c8 2 = .ok (.getfield 63, 3) := by decide +kernel
theorem dJx4a65c_clear_da8c8_5 : decode cJx4a65c_clear_da8c8 5 = .ok (.iconst 1, 1) := by decide +kernel
theorem dJx4a65c_clear_da8c8_6 : decode cJx4a65c_clear_da8c8 6 = .ok (.iadd, 1) := by decide +kernel
theorem dJx4a65c_clear_da8c8_7 : decode cJx4a65c_clear_da8c8 7 = .ok (.putfield 63, 3) := by decide +kernel
theorem dJx4a65c_clear_da8c8_10 : decode cJx4a65c_clear_da8c8 10 = .ok (.aload_n 0, 1) := by decide +kernel
theorem dJx4a65c_clear_da8c8_11 : decode cJx4a65c_clear_da8c8 11 = .ok (.getfield 9, 3) := by decide +kernel
theorem dJx4a65c_clear_da8c8_14 : decode cJx4a65c_clear_da8c8 14 = .ok (.astore_n 1, 1) := by decide +kernel
theorem dJx4a65c_clear_da8c8_15 : decode cJx4a65c_clear_da8c8 15 = .ok (.aload_n 0, 1) := by decide +kernel
theorem dJx4a65c_clear_da8c8_16 : decode cJx4a65c_clear_da8c8 16 = .ok (.getfield 48, 3) := by decide +kernel
theorem dJx4a65c_clear_da8c8_19 : decode cJx4a65c_clear_da8c8 19 = .ok (.istore_n 2, 1) := by decide +kernel
theorem dJx4a65c_clear_da8c8_20 : decode cJx4a65c_clear_da8c8 20 = .ok (.aload_n 0, 1) := by decide +kernel
theorem dJx4a65c_clear_da8c8_21 : decode cJx4a65c_clear_da8c8 21 = .ok (.iconst 0, 1) := by decide +kernel
theorem dJx4a65c_clear_da8c8_22 : decode cJx4a65c_clear_da8c8 22 = .ok (.dup_x1, 1) := by decide +kernel
theorem dJx4a65c_clear_da8c8_23 : decode cJx4a65c_clear_da8c8 23 = .ok (.putfield 48, 3) := by decide +kernel
theorem dJx4a65c_clear_da8c8_26 : decode cJx4a65c_clear_da8c8 26 = .ok (.istore_n 3, 1) := by decide +kernel
theorem dJx4a65c_clear_da8c8_27 : decode cJx4a65c_clear_da8c8 27 = .ok (.iload_n 3, 1) := by decide +kernel
theorem dJx4a65c_clear_da8c8_28 : decode cJx4a65c_clear_da8c8 28 = .ok (.iload_n 2, 1) := by decide +kernel
theorem dJx4a65c_clear_da8c8_29 : decode cJx4a65c_clear_da8c8 29 = .ok (.if_icmp .ge 13, 3) := by decide +kernel
theorem dJx4a65c_clear_da8c8_32 : decode cJx4a65c_clear_da8c8 32 = .ok (.aload_n 1, 1) := by decide +kernel
theorem dJx4a65c_clear_da8c8_33 : decode cJx4a65c_clear_da8c8 33 = .ok (.iload_n 3, 1) := by decide +kernel
theorem dJx4a65c_clear_da8c8_34 : decode cJx4a65c_clear_da8c8 34 = .ok (.aconst_null, 1) := by decide +kernel
theorem dJx4a65c_clear_da8c8_35 : decode cJx4a65c_clear_da8c8 35 = .ok (.aastore, 1) := by decide +kernel
theorem dJx4a65c_clear_da8c8_36 : decode cJx4a65c_clear_da8c8 36 = .ok (.iinc 3 1, 3) := by decide +kernel
theorem dJx4a65c_clear_da8c8_39 : decode cJx4a65c_clear_da8c8 39 = .ok (.goto (-12), 3) := by decide +kernel
theorem dJx4a65c_clear_da8c8_42 : decode cJx4a65c_clear_da8c8 42 = .ok (.return_, 1) := by decide +kernel
theorem dJ7_copyOf_1904c_0 : decode cJ7_copyOf_1904c 0 = .ok (.aload_n 0, 1) := by decide +kernel
theorem dJ7_copyOf_1904c_1 : decode cJ7_copyOf_1904c 1 = .ok (.iload_n 1, 1) := by decide +kernel
theorem dJ7_copyOf_1904c_2 : decode cJ7_copyOf_1904c 2 = .ok (.aload_n 0, 1) := by decide +kernel
theorem dJ7_copyOf_1904c_3 : decode cJ7_copyOf_1904c 3 = .ok (.invokevirtual 86, 3) := by decide +kernel
theorem dJ7_copyOf_1904c_6 : decode cJ7_copyOf_1904c 6 = .ok (.invokestatic 300, 3) := by decide +kernel
theorem dJ7_copyOf_1904c_9 : decode cJ7_copyOf_1904c 9 = .ok (.areturn, 1) := by decide +kernel
theorem dJ7_copyOf_6403c_0 : decode cJ7_copyOf_6403c 0 = .ok (.aload_n 2, 1) := by decide +kernel
theorem dJ7_copyOf_6403c_1 : decode cJ7_copyOf_6403c 1 = .ok (.ldc 110, 2) := by decide +kernel
theorem dJ7_copyOf_6403c_3 : decode cJ7_copyOf_6403c 3 = .ok (.if_acmp .ne 10, 3) := by decide +kernel
theorem dJ7_copyOf_6403c_6 : decode cJ7_copyOf_6403c 6 = .ok (.iload_n 1, 1) := by decide +kernel
theorem dJ7_copyOf_6403c_7 : decode cJ7_copyOf_6403c 7 = .ok (.anewarray 2, 3) := by decide +kernel
theorem dJ7_copyOf_6403c_10 : decode cJ7_copyOf_6403c 10 = .ok (.goto 14, 3) := by decide +kernel
theorem dJ7_copyOf_6403c_13 : decode cJ7_copyOf_6403c 13 = .ok (.aload_n 2, 1) := by decide +kernel
theorem dJ7_copyOf_6403c_14 : decode cJ7_copyOf_6403c 14 = .ok (.invokevirtual 90, 3) := by decide +kernel
theorem dJ7_copyOf_6403c_17 : decode cJ7_copyOf_6403c 17 = .ok (.iload_n 1, 1) := by decide +kernel
theorem dJ7_copyOf_6403c_18 : decode cJ7_copyOf_6403c 18 = .ok (.invokestatic 95, 3) := by decide +kernel
theorem dJ7_copyOf_6403c_21 : decode cJ7_copyOf_6403c 21 = .ok (.checkcast 110, 3) := by decide +kernel
theorem dJ7_copyOf_6403c_24 : decode cJ7_copyOf_6403c 24 = .ok (.astore_n 3, 1) := by decide +kernel
theorem dJ7_copyOf_6403c_25 : decode cJ7_copyOf_6403c 25 = .ok (.aload_n 0, 1) := by decide +kernel
theorem dJ7_copyOf_6403c_26 : decode cJ7_copyOf_6403c 26 = .ok (.iconst 0, 1) := by decide +kernel
theorem dJ7_copyOf_6403c_27 : decode cJ7_copyOf_6403c 27 = .ok (.aload_n 3, 1) := by decide +kernel
theorem dJ7_copyOf_6403c_28 : decode cJ7_copyOf_6403c 28 = .ok (.iconst 0, 1) := by decide +kernel
theorem dJ7_copyOf_6403c_29 : decode cJ7_copyOf_6403c 29 = .ok (.aload_n 0, 1) := by decide +kernel
theorem dJ7_copyOf_6403c_30 : decode cJ7_copyOf_6403c 30 = .ok (.arraylength, 1) := by decide +kernel
theorem dJ7_copyOf_6403c_31 : decode cJ7_copyOf_6403c 31 = .ok (.iload_n 1, 1) := by decide +kernel
theorem dJ7_copyOf_6403c_32 : decode cJ7_copyOf_6403c 32 = .ok (.invokestatic 304, 3) := by decide +kernel
theorem dJ7_copyOf_6403c_35 : decode cJ7_copyOf_6403c 35 = .ok (.invokestatic 150, 3) := by decide +kernel
theorem dJ7_copyOf_6403c_38 : decode cJ7_copyOf_6403c 38 = .ok (.aload_n 3, 1) := by decide +kernel
theorem dJ7_copyOf_6403c_39 : decode cJ7_copyOf_6403c 39 = .ok (.areturn, 1) := by decide +kernel
theorem dJ15_checkIndex_7cf53_0 : decode cJ15_checkIndex_7cf53 0 = .ok (.iload_n 0, 1) := by decide +kernel
theorem dJ15_checkIndex_7cf53_1 : decode cJ15_checkIndex_7cf53 1 = .ok (.iload_n 1, 1) := by decide +kernel
theorem dJ15_checkIndex_7cf53_2 : decode cJ15_checkIndex_7cf53 2 = .ok (.aconst_null, 1) := by decide +kernel
theorem dJ15_checkIndex_7cf53_3 : decode cJ15_checkIndex_7cf53 3 = .ok (.invokestatic 105, 3) := by decide +kernel
theorem dJ15_checkIndex_7cf53_6 : decode cJ15_checkIndex_7cf53 6 = .ok (.ireturn, 1) := by decide +kernel
theorem dJ8_newLength_cabcc_0 : decode cJ8_newLength_cabcc 0 = .ok (.iload_n 0, 1) := by decide +kernel
theorem dJ8_newLength_cabcc_1 : decode cJ8_newLength_cabcc 1 = .ok (.iload_n 1, 1) := by decide +kernel
theorem dJ8_newLength_cabcc_2 : decode cJ8_newLength_cabcc 2 = .ok (.iload_n 2, 1) := by decide +kernel
theorem dJ8_newLength_cabcc_3 : decode cJ8_newLength_cabcc 3 = .ok (.invokestatic 194, 3) := by decide +kernel
theorem dJ8_newLength_cabcc_6 : decode cJ8_newLength_cabcc 6 = .ok (.iadd, 1) := by decide +kernel
theorem dJ8_newLength_cabcc_7 : decode cJ8_newLength_cabcc 7 = .ok (.istore_n 3, 1) := by decide +kernel
theorem dJ8_newLength_cabcc_8 : decode cJ8_newLength_cabcc 8 = .ok (.iconst 0, 1) := by decide +kernel
theorem dJ8_newLength_cabcc_9 : decode cJ8_newLength_cabcc 9 = .ok (.iload_n 3, 1) := by decide +kernel
theorem dJ8_newLength_cabcc_10 : decode cJ8_newLength_cabcc 10 = .ok (.if_icmp .ge 11, 3) := by decide +kernel
theorem dJ8_newLength_cabcc_13 : decode cJ8_newLength_cabcc 13 = .ok (.iload_n 3, 1) := by decide +kernel
theorem dJ8_newLength_cabcc_14 : decode cJ8_newLength_cabcc 14 = .ok (.ldc 200, 2) := by decide +kernel
theorem dJ8_newLength_cabcc_16 : decode cJ8_newLength_cabcc 16 = .ok (.if_icmp .gt 5, 3) := by decide +kernel
theorem dJ8_newLength_cabcc_19 : decode cJ8_newLength_cabcc 19 = .ok (.iload_n 3, 1) := by decide +kernel
theorem dJ8_newLength_cabcc_20 : decode cJ8_newLength_cabcc 20 = .ok (.ireturn, 1) := by decide +kernel
theorem dJ8_newLength_cabcc_21 : decode cJ8_newLength_cabcc 21 = .ok (.iload_n 0, 1) := by decide +kernel
theorem dJ8_newLength_cabcc_22 : decode cJ8_newLength_cabcc 22 = .ok (.iload_n 1, 1) := by decide +kernel
theorem dJ8_newLength_cabcc_23 : decode cJ8_newLength_cabcc 23 = .ok (.invokestatic 201, 3) := by decide +kernel
theorem dJ8_newLength_cabcc_26 : decode cJ8_newLength_cabcc 26 = .ok (.ireturn, 1) := by decide +kernel
theorem dJ8_hugeLength_7cf53_0 : decode cJ8_hugeLength_7cf53 0 = .ok (.iload_n 0, 1) := by decide +kernel
theorem dJ8_hugeLength_7cf53_1 : decode cJ8_hugeLength_7cf53 1 = .ok (.iload_n 1, 1) := by decide +kernel
theorem dJ8_hugeLength_7cf53_2 : decode cJ8_hugeLength_7cf53 2 = .ok (.iadd, 1) := by decide +kernel
theorem dJ8_hugeLength_7cf53_3 : decode cJ8_hugeLength_7cf53 3 = .ok (.istore_n 2, 1) := by decide +kernel
theorem dJ8_hugeLength_7cf53_4 : decode cJ8_hugeLength_7cf53 4 = .ok (.iload_n 2, 1) := by decide +kernel
theorem dJ8_hugeLength_7cf53_5 : decode cJ8_hugeLength_7cf53 5 = .ok (.ifCond .ge 44, 3) := by decide +kernel
theorem dJ8_hugeLength_7cf53_8 : decode cJ8_hugeLength_7cf53 8 = .ok (.new 204, 3) := by decide +kernel
theorem dJ8_hugeLength_7cf53_11 : decode cJ8_hugeLength_7cf53 11 = .ok (.dup, 1) := by decide +kernel
theorem dJ8_hugeLength_7cf53_12 : decode cJ8_hugeLength_7cf53 12 = .ok (.new 89, 3) := by decide +kernel
theorem dJ8_hugeLength_7cf53_15 : decode cJ8_hugeLength_7cf53 15 = .ok (.dup, 1) := by decide +kernel
theorem dJ8_hugeLength_7cf53_16 : decode cJ8_hugeLength_7cf53 16 = .ok (.invokespecial 91, 3) := by decide +kernel
theorem dJ8_hugeLength_7cf53_19 : decode cJ8_hugeLength_7cf53 19 = .ok (.ldc 206, 2) := by decide +kernel
theorem dJ8_hugeLength_7cf53_21 : decode cJ8_hugeLength_7cf53 21 = .ok (.invokevirtual 94, 3) := by decide +kernel
theorem dJ8_hugeLength_7cf53_24 : decode cJ8_hugeLength_7cf53 24 = .ok (.iload_n 0, 1) := by decide +kernel
theorem dJ8_hugeLength_7cf53_25 : decode cJ8_hugeLength_7cf53 25 = .ok (.invokevirtual 98, 3) := by decide +kernel
theorem dJ8_hugeLength_7cf53_28 : decode cJ8_hugeLength_7cf53 28 = .ok (.ldc 208, 2) := by decide +kernel
theorem dJ8_hugeLength_7cf53_30 : decode cJ8_hugeLength_7cf53 30 = .ok (.invokevirtual 94, 3) := by decide +kernel
theorem dJ8_hugeLength_7cf53_33 : decode cJ8_hugeLength_7cf53 33 = .ok (.iload_n 1, 1) := by decide +kernel
theorem dJ8_hugeLength_7cf53_34 : decode cJ8_hugeLength_7cf53 34 = .ok (.invokevirtual 98, 3) := by decide +kernel
theorem dJ8_hugeLength_7cf53_37 : decode cJ8_hugeLength_7cf53 37 = .ok (.ldc 210, 2) := by decide +kernel
theorem dJ8_hugeLength_7cf53_39 : decode cJ8_hugeLength_7cf53 39 = .ok (.invokevirtual 94, 3) := by decide +kernel
theorem dJ8_hugeLength_7cf53_42 : decode cJ8_hugeLength_7cf53 42 = .ok (.invokevirtual 101, 3) := by decide +kernel
theorem dJ8_hugeLength_7cf53_45 : decode cJ8_hugeLength_7cf53 45 = .ok (.invokespecial 212, 3) := by decide +kernel
theorem dJ8_hugeLength_7cf53_48 : decode cJ8_hugeLength_7cf53 48 = .ok (.athrow, 1) := by decide +kernel
theorem dJ8_hugeLength_7cf53_49 : decode cJ8_hugeLength_7cf53 49 = .ok (.iload_n 2, 1) := by decide +kernel
theorem dJ8_hugeLength_7cf53_50 : decode cJ8_hugeLength_7cf53 50 = .ok (.ldc 200, 2) := by decide +kernel
theorem dJ8_hugeLength_7cf53_52 : decode cJ8_hugeLength_7cf53 52 = .ok (.if_icmp .gt 6, 3) := by decide +kernel
theorem dJ8_hugeLength_7cf53_55 : decode cJ8_hugeLength_7cf53 55 = .ok (.ldc 200, 2) := by decide +kernel
theorem dJ8_hugeLength_7cf53_57 : decode cJ8_hugeLength_7cf53 57 = .ok (.ireturn, 1) := by decide +kernel
theorem dJ8_hugeLength_7cf53_58 : decode cJ8_hugeLength_7cf53 58 = .ok (.iload_n 2, 1) := by decide +kernel
theorem dJ8_hugeLength_7cf53_59 : decode cJ8_hugeLength_7cf53 59 = .ok (.ireturn, 1) := by decide +kernel
theorem dJ3_checkIndex_8e157_0 : decode cJ3_checkIndex_8e157 0 = .ok (.iload_n 0, 1) := by decide +kernel
theorem dJ3_checkIndex_8e157_1 : decode cJ3_checkIndex_8e157 1 = .ok (.ifCond .lt 8, 3) := by decide +kernel
theorem dJ3_checkIndex_8e157_4 : decode cJ3_checkIndex_8e157 4 = .ok (.iload_n 0, 1) := by decide +kernel
theorem dJ3_checkIndex_8e157_5 : decode cJ3_checkIndex_8e157 5 = .ok (.iload_n 1, 1) := by decide +kernel
theorem dJ3_checkIndex_8e157_6 : decode cJ3_checkIndex_8e157 6 = .ok (.if_icmp .lt 10, 3) := by decide +kernel
theorem dJ3_checkIndex_8e157_9 : decode cJ3_checkIndex_8e157 9 = .ok (.aload_n 2, 1) := by decide +kernel
theorem dJ3_checkIndex_8e157_10 : decode cJ3_checkIndex_8e157 10 = .ok (.iload_n 0, 1) := by decide +kernel
theorem dJ3_checkIndex_8e157_11 : decode cJ3_checkIndex_8e157 11 = .ok (.iload_n 1, 1) := by decide +kernel
theorem dJ3_checkIndex_8e157_12 : decode cJ3_checkIndex_8e157 12 = .ok (.invokestatic 95, 3) := by decide +kernel
theorem dJ3_checkIndex_8e157_15 : decode cJ3_checkIndex_8e157 15 = .ok (.athrow, 1) := by decide +kernel
theorem dJ3_checkIndex_8e157_16 : decode cJ3_checkIndex_8e157 16 = .ok (.iload_n 0, 1) := by decide +kernel
theorem dJ3_checkIndex_8e157_17 : decode cJ3_checkIndex_8e157 17 = .ok (.ireturn, 1) := by decide +kernel
end
section
/-! the pool of all cells: addresses, kinds, ints of objects, references of objects, lengths, rows of ints, rows of references -/
abbrev qs_S : Type := List Nat × (Nat → Nat) × (Nat → Nat → Int32) × (Nat → Nat → Option Nat) × (Nat → Nat) × (Nat → Nat → Int32) × (Nat → Nat → Option Nat)
def qs_L (S : qs_S) : List Nat := S.1
def qs_K (S : qs_S) : Nat → Nat := S.2.1
def qs_I (S : qs_S) : Nat → Nat → Int32 := S.2.2.1
def qs_R (S : qs_S) : Nat → Nat → Option Nat := S.2.2.2.1
def qs_Z (S : qs_S) : Nat → Nat := S.2.2.2.2.1
def qs_A (S : qs_S) : Nat → Nat → Int32 := S.2.2.2.2.2.1
def qs_O (S : qs_S) : Nat → Nat → Option Nat := S.2.2.2.2.2.2
/-- which fields of a class are references -/
def qs_fk : Nat → List Bool := fun k => match k with
  | 0 => [false, true, false]
  | 1 => [true, false, false, false, false, false, false, false]
  | 2 => [false, true, true, false, false, false, true, false]
  | 3 => [false, false, true, false, false, false, false]
  | 4 => [false, false, false]
  | 5 => [false, true, true, false, false, false, true, true]
  | 6 => [true, true, true, true, true, true, false, false]
  | _ => [false, false, false, true, true, true, false, true, true, true, true, true, true, true, true, true, true, true, false, true, true, true, true, true, true, false, true, false, true, true, true, true, true, true, true]
def qs_fv (S : qs_S) (a k : Nat) (b : Bool) : Value := if b = true then va_rf (qs_R S k a) else .int (qs_I S k a)
def qs_fs (S : qs_S) (a ci : Nat) : List Value := (qs_fk ci).mapIdx (fun k b => qs_fv S a k b)
/-- the tables' numbers, the cells apart from the pool, the empty array of ArrayList -/
abbrev qs_G : Type := va_G × ClassId × ClassId × ClassId × ClassId × va_W × Nat × Nat
def qs_e (g : qs_G) (S : qs_S) (a : Nat) : va_E :=
  if qs_K S a < 8 then .inr (qs_K S a, qs_fs S a (qs_K S a))
  else if qs_K S a = 8 then .inl (g.2.1, qs_Z S a, .inl (qs_A S a))
  else if qs_K S a = 9 then .inl (g.2.2.1, qs_Z S a, .inl (qs_A S a))
  else .inl (g.2.2.2.1, qs_Z S a, .inr (.inr (.inr (.inr (qs_O S a)))))
def qs_ws (g : qs_G) (S : qs_S) : va_W := g.2.2.2.2.2.1 ++ va_pl (qs_L S) (qs_e g S)
abbrev qs_ty (g : qs_G) : List (ClassId × FieldType) := [(g.2.1, .int), (g.2.2.1, .boolean), (g.2.2.2.1, .object "java/lang/Object"), (g.2.2.2.2.1, .long)]
def qs_wI (S : qs_S) (k a : Nat) (v : Int32) : qs_S := (qs_L S, qs_K S, fun k' a' => if k' = k ∧ a' = a then v else qs_I S k' a', qs_R S, qs_Z S, qs_A S, qs_O S)
def qs_wR (S : qs_S) (k a : Nat) (v : Option Nat) : qs_S := (qs_L S, qs_K S, qs_I S, fun k' a' => if k' = k ∧ a' = a then v else qs_R S k' a', qs_Z S, qs_A S, qs_O S)
def qs_wA (S : qs_S) (a i : Nat) (v : Int32) : qs_S := (qs_L S, qs_K S, qs_I S, qs_R S, qs_Z S, fun a' i' => if a' = a ∧ i' = i then v else qs_A S a' i', qs_O S)
def qs_wO (S : qs_S) (a i : Nat) (v : Option Nat) : qs_S := (qs_L S, qs_K S, qs_I S, qs_R S, qs_Z S, qs_A S, fun a' i' => if a' = a ∧ i' = i then v else qs_O S a' i')
def qs_cO (S : qs_S) (b a sp dp n : Nat) : qs_S := (qs_L S, qs_K S, qs_I S, qs_R S, qs_Z S, qs_A S, fun a' => if a' = a then va_cpy (qs_O S b) (qs_O S a) sp dp n else qs_O S a')
def qs_nw (S : qs_S) (q ci : Nat) : qs_S := (qs_L S ++ [q], fun a => if a = q then ci else qs_K S a, fun k a => if a = q then 0 else qs_I S k a, fun k a => if a = q then none else qs_R S k a, qs_Z S, qs_A S, qs_O S)
def qs_nA (S : qs_S) (q ci n : Nat) : qs_S := (qs_L S ++ [q], fun a => if a = q then ci else qs_K S a, qs_I S, qs_R S, fun a => if a = q then n else qs_Z S a, fun a i => if a = q then 0 else qs_A S a i, fun a i => if a = q then none else qs_O S a i)
theorem qs_eo (g : qs_G) {S : qs_S} {a ci : Nat} (h : qs_K S a = ci) (h8 : ci < 8) : qs_e g S a = .inr (ci, qs_fs S a ci) := by
  subst h
  exact if_pos h8
theorem qs_e8 (g : qs_G) {S : qs_S} {a : Nat} (h : qs_K S a = 8) : qs_e g S a = .inl (g.2.1, qs_Z S a, .inl (qs_A S a)) := by simp [qs_e, h]
theorem qs_e9 (g : qs_G) {S : qs_S} {a : Nat} (h : qs_K S a = 9) : qs_e g S a = .inl (g.2.2.1, qs_Z S a, .inl (qs_A S a)) := by simp [qs_e, h]
theorem qs_e10 (g : qs_G) {S : qs_S} {a : Nat} (h : qs_K S a = 10) : qs_e g S a = .inl (g.2.2.2.1, qs_Z S a, .inr (.inr (.inr (.inr (qs_O S a))))) := by simp [qs_e, h]
theorem qs_at (g : qs_G) {S : qs_S} {a : Nat} (h : a ∈ qs_L S) : ∃ k : Nat, (qs_ws g S)[k]? = some (a, qs_e g S a) := va_pl_get h
theorem qs_fs_at {S : qs_S} {a ci k : Nat} {b : Bool} (h : (qs_fk ci)[k]? = some b) : (qs_fs S a ci)[k]? = some (qs_fv S a k b) := by
  unfold qs_fs
  rw [List.getElem?_mapIdx, h]
  rfl
theorem qs_fs_len {S : qs_S} {a ci k : Nat} {b : Bool} (h : (qs_fk ci)[k]? = some b) : k < (qs_fs S a ci).length := by
  unfold qs_fs
  rw [List.length_mapIdx]
  exact (List.getElem?_eq_some_iff.mp h).1
theorem qs_set (g : qs_G) {A : Nat → Prop} {S S' : qs_S} {a k : Nat} {e : va_E} (hD : va_D A (qs_ws g S)) (hL : a ∈ qs_L S) (hk : (qs_ws g S)[k]? = some (a, qs_e g S a)) (hS : qs_L S' = qs_L S) (h1 : e = qs_e g S' a) (h2 : ∀ b, b ≠ a → qs_e g S b = qs_e g S' b) : (qs_ws g S).set k (a, e) = qs_ws g S' := by
  unfold qs_ws at hD hk ⊢
  rw [va_pl_set hD hL hk, hS]
  refine congrArg (fun l => g.2.2.2.2.2.1 ++ l) (va_pl_congr (fun b => ?_))
  by_cases hb : b = a
  · subst hb
    rw [va_up_self, h1]
  · rw [va_up_ne _ _ hb, h2 b hb]
theorem qs_fs_wI_ne {S : qs_S} {k a b ci : Nat} {v : Int32} (h : b ≠ a) : qs_fs S b ci = qs_fs (qs_wI S k a v) b ci := by
  unfold qs_fs
  congr 1
  funext k' x
  cases x
  · show Value.int (qs_I S k' b) = Value.int (if k' = k ∧ b = a then v else qs_I S k' b)
    rw [if_neg (fun z => h z.2)]
  · rfl
theorem qs_fs_wR_ne {S : qs_S} {k a b ci : Nat} {v : Option Nat} (h : b ≠ a) : qs_fs S b ci = qs_fs (qs_wR S k a v) b ci := by
  unfold qs_fs
  congr 1
  funext k' x
  cases x
  · rfl
  · show va_rf (qs_R S k' b) = va_rf (if k' = k ∧ b = a then v else qs_R S k' b)
    rw [if_neg (fun z => h z.2)]
theorem qs_fs_wI {S : qs_S} {k a ci : Nat} {v : Int32} (h : (qs_fk ci)[k]? = some false) : (qs_fs S a ci).set k (.int v) = qs_fs (qs_wI S k a v) a ci := by
  refine List.ext_getElem? (fun j => ?_)
  unfold qs_fs
  rw [List.getElem?_set, List.length_mapIdx, List.getElem?_mapIdx, List.getElem?_mapIdx]
  by_cases hj : k = j
  · subst hj
    rw [if_pos rfl, if_pos (List.getElem?_eq_some_iff.mp h).1, h]
    show some (Value.int v) = some (Value.int (if k = k ∧ a = a then v else qs_I S k a))
    rw [if_pos ⟨rfl, rfl⟩]
  · rw [if_neg hj]
    congr 1
    funext x
    cases x
    · show Value.int (qs_I S j a) = Value.int (if j = k ∧ a = a then v else qs_I S j a)
      rw [if_neg (fun z => hj z.1.symm)]
    · rfl
theorem qs_fs_wR {S : qs_S} {k a ci : Nat} {v : Option Nat} (h : (qs_fk ci)[k]? = some true) : (qs_fs S a ci).set k (va_rf v) = qs_fs (qs_wR S k a v) a ci := by
  refine List.ext_getElem? (fun j => ?_)
  unfold qs_fs
  rw [List.getElem?_set, List.length_mapIdx, List.getElem?_mapIdx, List.getElem?_mapIdx]
  by_cases hj : k = j
  · subst hj
    rw [if_pos rfl, if_pos (List.getElem?_eq_some_iff.mp h).1, h]
    show some (va_rf v) = some (va_rf (if k = k ∧ a = a then v else qs_R S k a))
    rw [if_pos ⟨rfl, rfl⟩]
  · rw [if_neg hj]
    congr 1
    funext x
    cases x
    · rfl
    · show va_rf (qs_R S j a) = va_rf (if j = k ∧ a = a then v else qs_R S j a)
      rw [if_neg (fun z => hj z.1.symm)]
/-- what is known of the statics, the words of the tables that no list of a method holds, the texts -/
def qs_cast : List (String × String) := [("java/util/ArrayList", "java/lang/Object"), ("QuayMesh$Box", "java/lang/Object"), ("QuayMesh$Crane", "java/lang/Object"), ("QuayMesh$Message", "java/lang/Object"), ("QuayMesh$Ship", "java/lang/Object"), ("QuayMesh$Truck", "java/lang/Object"), ("QuayMesh", "java/lang/Object"), ("QuayMeshModel", "java/lang/Object"), ("java/lang/IndexOutOfBoundsException", "java/lang/IndexOutOfBoundsException"), ("java/lang/IllegalArgumentException", "java/lang/IllegalArgumentException"), ("java/lang/IllegalStateException", "java/lang/IllegalStateException")]
def qs_nocast : List (String × String) := [("java/lang/IllegalArgumentException", "java/lang/IndexOutOfBoundsException"), ("java/lang/IllegalStateException", "java/lang/IndexOutOfBoundsException"), ("java/lang/IndexOutOfBoundsException", "java/lang/IllegalArgumentException"), ("java/lang/IllegalStateException", "java/lang/IllegalArgumentException"), ("java/lang/IndexOutOfBoundsException", "java/lang/IllegalStateException"), ("java/lang/IllegalArgumentException", "java/lang/IllegalStateException")]
def qs_str : List (String × Nat × String) := [("QuayMesh", 139, "there are all messages that there can be, or all cranes are silent"), ("QuayMesh", 114, "there is no such kind"), ("QuayMesh", 340, "there is no such one"), ("QuayMesh", 328, "the hours are out of range"), ("QuayMesh", 326, "the box is not booked"), ("QuayMesh", 205, "so many cannot be lost at once"), ("QuayMesh", 344, "there is no such truck"), ("QuayMesh", 88, "the ship does not lie at the place"), ("QuayMesh", 219, "there is no message to repeat"), ("QuayMesh", 57, "the length is out of range"), ("QuayMesh", 228, "only a silent crane's messages are given, and to another one"), ("QuayMesh", 237, "the crane is silent, or cannot go there"), ("QuayMesh", 342, "the ship has left"), ("QuayMesh", 306, "the hour is out of range"), ("QuayMesh", 330, "the hours end there"), ("QuayMesh", 90, "there are all the boxes that there can be"), ("QuayMesh", 129, "the worker is no such one"), ("QuayMesh", 108, "a box is on the ship"), ("QuayMesh", 72, "there is no berth for the ship"), ("QuayMesh", 318, "the box cannot be booked")]
def qs_dec : List String := ["java/lang/RuntimeException", "java/lang/Exception", "java/lang/Throwable"]
def qs_E (t0 m9 : Nat) (A : Nat → Prop) (U : State) (H : Heap) : Prop :=
  va_Z "java/util/ArrayList" "DEFAULTCAPACITY_EMPTY_ELEMENTDATA" "[Ljava/lang/Object;" (.ref t0) A U H ∧ va_T (.object "java/lang/Object") t0 0 (fun _ => .null) A U H ∧
  vx_Zq Bundle.tN "UNASSIGNED_STACK" Bundle.steD A U H ∧ vx_Zq Bundle.tN "SUPPRESSED_SENTINEL" Bundle.listD A U H ∧ va_Mi "[Ljava/lang/Object;" m9 U ∧ va_Dc U ∧
  (∀ q ∈ qs_cast, va_Nw (.castable q.1 q.2) U) ∧ (∀ q ∈ qs_nocast, va_Nc q.1 q.2 U) ∧ (va_AO "java/lang/Object" U ∧ ∀ y ∈ qs_dec, va_Nw (.declares (Bundle.initS y)) U) ∧ ∀ q ∈ qs_str, ∃ sa : Nat, vk_R q.1 q.2.1 q.2.2 sa U
theorem qs_E.warm {t0 m9 : Nat} {A B : Nat → Prop} {s U : State} {H : Heap} (hW : s.WarmedH U.vm) (hk : ∀ a : Nat, a < s.heap.size → ¬ A a → H[a]? = s.heap[a]?) (hAB : ∀ q, B q → A q) (h : qs_E t0 m9 A s s.heap) : qs_E t0 m9 B U H := by
  obtain ⟨h1, h2, h3, h4, h5, h6, h7, h8, ⟨h10, h11⟩, h9⟩ := h
  refine ⟨((h1.kept hk).narrow hAB).moved hW.alike, ((h2.kept hk).narrow hAB).moved hW.alike, ((h3.kept hk).narrow hAB).moved hW.alike, ((h4.kept hk).narrow hAB).moved hW.alike, h5.moved hW.alike, h6.moved hW.alike, fun q hq => (h7 q hq).warmC hW, fun q hq => (h8 q hq).moved hW.alike, ⟨h10.moved hW.alike, fun y hy => (h11 y hy).warmD hW⟩, fun q hq => ?_⟩
  obtain ⟨sa, z⟩ := h9 q hq
  exact ⟨sa, z.warm hW⟩
theorem qs_E.same {t0 m9 : Nat} {A : Nat → Prop} {u U : State} {H : Heap} (hv : U.vm = u.vm) (h : qs_E t0 m9 A u H) : qs_E t0 m9 A U H := by
  have al : u.vm.Alike U.vm := by rw [hv]; exact Vm.Alike.refl _
  obtain ⟨h1, h2, h3, h4, h5, h6, h7, h8, ⟨h10, h11⟩, h9⟩ := h
  refine ⟨h1.moved al, h2.moved al, h3.moved al, h4.moved al, h5.moved al, h6.moved al, fun q hq => (h7 q hq).same rfl hv.symm, fun q hq => (h8 q hq).moved al, ⟨h10.moved al, fun y hy => (h11 y hy).same rfl hv.symm⟩, fun q hq => ?_⟩
  obtain ⟨sa, z⟩ := h9 q hq
  exact ⟨sa, z.same hv⟩
/-- the world in the middle of a method -/
def qs_Gd (g : qs_G) (A : Nat → Prop) (s : State) (S : qs_S) (H : Heap) (locs : List Loc) : Prop :=
  va_K g.1 vwCl (qs_ty g) s ∧ va_P g.1 vwCl (qs_ws g S) H ∧ va_D A (qs_ws g S) ∧ va_S A s.heap H locs ∧ (∀ q : Nat, s.heap.size ≤ q → A q) ∧ qs_E g.2.2.2.2.2.2.1 g.2.2.2.2.2.2.2 A s s.heap
/-- a method's start, its free cells, the world behind it -/
def qs_Pc (g : qs_G) (sz : Nat) (S : qs_S) (av : List Value) : Array Value → State → Prop := va_Pc av (fun U => U.heap.size = sz ∧ va_K g.1 vwCl (qs_ty g) U ∧ va_P g.1 vwCl (qs_ws g S) U.heap ∧ va_D (fun _ => True) (qs_ws g S) ∧ qs_E g.2.2.2.2.2.2.1 g.2.2.2.2.2.2.2 (va_A (qs_ws g S) sz) U U.heap)
def qs_F (g : qs_G) (S : qs_S) (sz : Nat) : Nat → Prop := va_A (qs_ws g S) sz
def qs_B (g : qs_G) (A : Nat → Prop) (S : qs_S) (t : State) : Prop := va_K g.1 vwCl (qs_ty g) t ∧ va_P g.1 vwCl (qs_ws g S) t.heap ∧ va_D A (qs_ws g S)
theorem qs_Pc.blind (g : qs_G) (sz : Nat) (S : qs_S) (av : List Value) : FrameBlind (qs_Pc g sz S av) := fun a U fr mk q => by
  obtain ⟨h0, h1, h2, h3, h4, h5⟩ := q
  exact ⟨h0, h1, va_K.moved (u := U) (U := U.calling fr mk a) (Vm.Alike.refl U.vm) h2, h3, h4, qs_E.same (u := U) (U := U.calling fr mk a) rfl h5⟩
theorem qs_Gd.sub {g : qs_G} {A : Nat → Prop} {s : State} {S : qs_S} {H : Heap} {locs : List Loc} (h : qs_Gd g A s S H locs) : ∀ q, qs_F g S H.size q → A q := by
  intro q hq
  rcases hq with ⟨k, e, hk⟩ | hq
  · exact h.2.2.1.2 k (q, e) hk
  · exact h.2.2.2.2.1 q (Nat.le_trans h.2.2.2.1.1 hq)
theorem qs_Gd.pre {g : qs_G} {A : Nat → Prop} {s : State} {S : qs_S} {H : Heap} {locs : List Loc} (h : qs_Gd g A s S H locs) (av : List Value) : ∀ U : State, U.heap = H → s.WarmedH U.vm → qs_Pc g H.size S av av.toArray U := by
  intro U hU hW
  subst hU
  exact ⟨rfl, rfl, va_K.moved hW.alike h.1, h.2.1, h.2.2.1.weaken (fun _ _ _ _ => trivial), h.2.2.2.2.2.warm hW h.2.2.2.1.2.1 h.sub⟩
theorem qs_Gd.recv {g : qs_G} {A : Nat → Prop} {s : State} {S : qs_S} {H : Heap} {locs : List Loc} {a ci : Nat} {C : String} {T : u_T} {N : Nat} (h : qs_Gd g A s S H locs) (hL : a ∈ qs_L S) (hk : qs_K S a = ci) (h8 : ci < 8) (hc : vwCl[ci]? = some (C, T, N)) : ∃ cell : Cell, H[a]? = some cell ∧ cell.vm.isStatics = false ∧ s.vm.findClass C = some cell.cls := by
  obtain ⟨k, hz⟩ := qs_at g hL
  rw [qs_eo g hk h8] at hz
  exact va_recv h.1 h.2.1 hc hz
theorem qs_Gd.any {g : qs_G} {A : Nat → Prop} {s : State} {S : qs_S} {H : Heap} {locs : List Loc} {a : Nat} (h : qs_Gd g A s S H locs) (hL : a ∈ qs_L S) (h8 : qs_K S a < 8) : va_Any "java/lang/Object" s H a := by
  obtain ⟨k, hz⟩ := qs_at g hL
  rw [qs_eo g rfl h8] at hz
  have hx : ∃ r : vw_C, vwCl[qs_K S a]? = some r ∧ (r.1, "java/lang/Object") ∈ qs_cast := by
    generalize qs_K S a = j at h8
    rcases (show j = 0 ∨ j = 1 ∨ j = 2 ∨ j = 3 ∨ j = 4 ∨ j = 5 ∨ j = 6 ∨ j = 7 by omega) with rfl | rfl | rfl | rfl | rfl | rfl | rfl | rfl
    · exact ⟨_, rfl, by decide +kernel⟩
    · exact ⟨_, rfl, by decide +kernel⟩
    · exact ⟨_, rfl, by decide +kernel⟩
    · exact ⟨_, rfl, by decide +kernel⟩
    · exact ⟨_, rfl, by decide +kernel⟩
    · exact ⟨_, rfl, by decide +kernel⟩
    · exact ⟨_, rfl, by decide +kernel⟩
    · exact ⟨_, rfl, by decide +kernel⟩
  obtain ⟨r, hr, hm⟩ := hx
  exact va_rAny h.1 h.2.1 hz hr (vb_asgC (h.2.2.2.2.2.2.2.2.2.2.2.1 _ hm))
theorem qs_Gd.start {g : qs_G} {s : State} {S : qs_S} {sz : Nat} {av : List Value} {args : Array Value} (h : qs_Pc g sz S av args s) : args = av.toArray ∧ s.heap.size = sz ∧ qs_Gd g (qs_F g S sz) s S s.heap [] := by
  obtain ⟨h0, h1, h2, h3, h4, h5⟩ := h
  subst h1
  exact ⟨h0, rfl, h2, h3, h4.self, va_S.rf, fun q hq => Or.inr hq, h5⟩
end
section
section QSR
variable {p : Program} {l : Launch} {e : Env} {R : Room} {s : State} {m : MethodId} {args : Array Value} {below : List Frame} {meth : Method} {c : Code} {H : Heap} {locs : List Loc} {cells slots : Nat} {Q : State → Prop}
variable {cc : ByteArray} {pc : Nat} {ls : Array Slot} {rest : List Value} {g : qs_G} {A : Nat → Prop} {S : qs_S} {a : Nat}
theorem qs_rf {o : Option Nat} {b : Nat} (h : o = some b) : va_rf o = .ref b := by rw [h]; rfl
theorem qs_rn {o : Option Nat} (h : o = none) : va_rf o = .null := by rw [h]; rfl
theorem qr_get (hx : p.tables.exec = Jvm.exec) (hb : c.code = cc) {own ref C : String} {T : u_T} {N ci index : Nat} {Ts : List Cond} (hts : ∀ w ∈ Ts, w.before args s = true) (hin : ∀ w ∈ u_ws C T N, w ∈ Ts) (hown : s.vm.findClass own = some m.cls) (hG : qs_Gd g A s S H locs) (hL : a ∈ qs_L S) (hk : qs_K S a = ci) (h8 : ci < 8) (hc : vwCl[ci]? = some (C, T, N)) (k : Nat) (hkN : k < N) {b : Bool} (hfk : (qs_fk ci)[k]? = some b) (hlink : (Cond.fieldLink own index ref (T k).2.1 (T k).2.2.1).before args s = true) (hsame : ∀ x, s.fieldFound? (T k).1 (T k).2.1 (T k).2.2.1 = some x → s.fieldFound? ref (T k).2.1 (T k).2.2.1 = some x) {v : Value} (hv : qs_fv S a k b = v) (hdg : decode cc pc = .ok (.getfield index, 3))
    (kk : W p l e R s m args below meth c H locs cells slots Q (F0 m (pc + 3) ls (v :: rest))) : W p l e R s m args below meth c H locs cells slots Q (F0 m pc ls (.ref a :: rest)) := by
  obtain ⟨i, hz⟩ := qs_at g hL
  rw [qs_eo g hk h8] at hz
  exact va_get hx hb hts hin hown hG.1 hG.2.1 i hz hc k hkN hlink hsame (by rw [qs_fs_at hfk, hv]) hdg kk
theorem qs_e_wI {k b : Nat} {x : Int32} (h : b ≠ a) : qs_e g S b = qs_e g (qs_wI S k a x) b := by
  unfold qs_e
  rw [qs_fs_wI_ne (S := S) (k := k) (v := x) h]
  rfl
theorem qs_wI_set {k i ci : Nat} {x : Int32} (hD : va_D A (qs_ws g S)) (hL : a ∈ qs_L S) (hk : qs_K S a = ci) (h8 : ci < 8) (hz : (qs_ws g S)[i]? = some (a, qs_e g S a)) (hfk : (qs_fk ci)[k]? = some false) : (qs_ws g S).set i (a, .inr (ci, (qs_fs S a ci).set k (.int x))) = qs_ws g (qs_wI S k a x) :=
  qs_set g hD hL hz rfl (by rw [qs_eo g (S := qs_wI S k a x) hk h8, qs_fs_wI hfk]) (fun b hb => qs_e_wI hb)
theorem qr_putI (hx : p.tables.exec = Jvm.exec) (hb : c.code = cc) {own ref C : String} {T : u_T} {N ci index : Nat} {Ts : List Cond} (hts : ∀ w ∈ Ts, w.before args s = true) (hin : ∀ w ∈ u_ws C T N, w ∈ Ts) (ty0 : Nat → FieldType) (hty : ∀ k, k < N → parseFieldDescriptor (T k).2.2.1 = some (ty0 k)) (hnm : ∀ a, a < N → ∀ b, b < N → a ≠ b → (T a).2.1 ≠ (T b).2.1) (hown : s.vm.findClass own = some m.cls) (hG : qs_Gd g A s S H locs) (hL : a ∈ qs_L S) (hk : qs_K S a = ci) (h8 : ci < 8) (hc : vwCl[ci]? = some (C, T, N)) (k : Nat) (hkN : k < N) (hfk : (qs_fk ci)[k]? = some false) (hlink : (Cond.fieldLink own index ref (T k).2.1 (T k).2.2.1).before args s = true) (hsame : ∀ x, s.fieldFound? (T k).1 (T k).2.1 (T k).2.2.1 = some x → s.fieldFound? ref (T k).2.1 (T k).2.2.1 = some x) (hfin : (T k).2.2.2 = false) {ty : FieldType} {x : Int32} (hd : parseFieldDescriptor (T k).2.2.1 = some ty) (hn : narrow ty (.int x) = .int x) (hfit : fits ty (.int x) = true) (hdg : decode cc pc = .ok (.putfield index, 3))
    (kk : ∀ (H1 : Heap) (locs1 : List Loc), qs_Gd g A s (qs_wI S k a x) H1 locs1 → W p l e R s m args below meth c H1 locs1 cells slots Q (F0 m (pc + 3) ls rest)) : W p l e R s m args below meth c H locs cells slots Q (F0 m pc ls (.int x :: .ref a :: rest)) := by
  skip
  obtain ⟨i, hz⟩ := qs_at g hL
  have hz' := hz
  rw [qs_eo g hk h8] at hz'
  refine va_put hx hb hts hin ty0 hty hnm hown hG.1 hG.2.1 hG.2.2.1 hG.2.2.2.1 i hz' hc k hkN hlink hsame hfin hd hn hfit (qs_fs_len hfk) hdg (fun H1 locs1 hP hD hS => ?_)
  rw [qs_wI_set hG.2.2.1 hL hk h8 hz hfk] at hP hD
  exact kk H1 locs1 ⟨hG.1, hP, hD, hS, hG.2.2.2.2⟩
theorem qr_putIF (hx : p.tables.exec = Jvm.exec) (hb : c.code = cc) {own ref C : String} {T : u_T} {N ci index : Nat} {Ts : List Cond} (hts : ∀ w ∈ Ts, w.before args s = true) (hin : ∀ w ∈ u_ws C T N, w ∈ Ts) (ty0 : Nat → FieldType) (hty : ∀ k, k < N → parseFieldDescriptor (T k).2.2.1 = some (ty0 k)) (hnm : ∀ a, a < N → ∀ b, b < N → a ≠ b → (T a).2.1 ≠ (T b).2.1) (hown : s.vm.findClass own = some m.cls) (hG : qs_Gd g A s S H locs) (hL : a ∈ qs_L S) (hk : qs_K S a = ci) (h8 : ci < 8) (hc : vwCl[ci]? = some (C, T, N)) (k : Nat) (hkN : k < N) (hfk : (qs_fk ci)[k]? = some false) (hlink : (Cond.fieldLink own index ref (T k).2.1 (T k).2.2.1).before args s = true) (hsame : ∀ x, s.fieldFound? (T k).1 (T k).2.1 (T k).2.2.1 = some x → s.fieldFound? ref (T k).2.1 (T k).2.2.1 = some x) (hfin : (T k).2.2.2 = true) (hin2 : meth.name = "<init>") (hdecl : (T k).1 = own) {ty : FieldType} {x : Int32} (hd : parseFieldDescriptor (T k).2.2.1 = some ty) (hn : narrow ty (.int x) = .int x) (hfit : fits ty (.int x) = true) (hdg : decode cc pc = .ok (.putfield index, 3))
    (kk : ∀ (H1 : Heap) (locs1 : List Loc), qs_Gd g A s (qs_wI S k a x) H1 locs1 → W p l e R s m args below meth c H1 locs1 cells slots Q (F0 m (pc + 3) ls rest)) : W p l e R s m args below meth c H locs cells slots Q (F0 m pc ls (.int x :: .ref a :: rest)) := by
  skip
  obtain ⟨i, hz⟩ := qs_at g hL
  have hz' := hz
  rw [qs_eo g hk h8] at hz'
  refine va_putF hx hb hts hin ty0 hty hnm hown hG.1 hG.2.1 hG.2.2.1 hG.2.2.2.1 i hz' hc k hkN hlink hsame hfin hin2 hdecl hd hn hfit (qs_fs_len hfk) hdg (fun H1 locs1 hP hD hS => ?_)
  rw [qs_wI_set hG.2.2.1 hL hk h8 hz hfk] at hP hD
  exact kk H1 locs1 ⟨hG.1, hP, hD, hS, hG.2.2.2.2⟩
theorem qs_e_wR {k b : Nat} {x : Option Nat} (h : b ≠ a) : qs_e g S b = qs_e g (qs_wR S k a x) b := by
  unfold qs_e
  rw [qs_fs_wR_ne (S := S) (k := k) (v := x) h]
  rfl
theorem qs_wR_set {k i ci : Nat} {x : Option Nat} (hD : va_D A (qs_ws g S)) (hL : a ∈ qs_L S) (hk : qs_K S a = ci) (h8 : ci < 8) (hz : (qs_ws g S)[i]? = some (a, qs_e g S a)) (hfk : (qs_fk ci)[k]? = some true) : (qs_ws g S).set i (a, .inr (ci, (qs_fs S a ci).set k (va_rf x))) = qs_ws g (qs_wR S k a x) :=
  qs_set g hD hL hz rfl (by rw [qs_eo g (S := qs_wR S k a x) hk h8, qs_fs_wR hfk]) (fun b hb => qs_e_wR hb)
theorem qr_putR (hx : p.tables.exec = Jvm.exec) (hb : c.code = cc) {own ref C : String} {T : u_T} {N ci index : Nat} {Ts : List Cond} (hts : ∀ w ∈ Ts, w.before args s = true) (hin : ∀ w ∈ u_ws C T N, w ∈ Ts) (ty0 : Nat → FieldType) (hty : ∀ k, k < N → parseFieldDescriptor (T k).2.2.1 = some (ty0 k)) (hnm : ∀ a, a < N → ∀ b, b < N → a ≠ b → (T a).2.1 ≠ (T b).2.1) (hown : s.vm.findClass own = some m.cls) (hG : qs_Gd g A s S H locs) (hL : a ∈ qs_L S) (hk : qs_K S a = ci) (h8 : ci < 8) (hc : vwCl[ci]? = some (C, T, N)) (k : Nat) (hkN : k < N) (hfk : (qs_fk ci)[k]? = some true) (hlink : (Cond.fieldLink own index ref (T k).2.1 (T k).2.2.1).before args s = true) (hsame : ∀ x, s.fieldFound? (T k).1 (T k).2.1 (T k).2.2.1 = some x → s.fieldFound? ref (T k).2.1 (T k).2.2.1 = some x) (hfin : (T k).2.2.2 = false) {ty : FieldType} {x : Option Nat} {v : Value} (hv : va_rf x = v) (hd : parseFieldDescriptor (T k).2.2.1 = some ty) (hn : narrow ty (v) = v) (hfit : fits ty (v) = true) (hdg : decode cc pc = .ok (.putfield index, 3))
    (kk : ∀ (H1 : Heap) (locs1 : List Loc), qs_Gd g A s (qs_wR S k a x) H1 locs1 → W p l e R s m args below meth c H1 locs1 cells slots Q (F0 m (pc + 3) ls rest)) : W p l e R s m args below meth c H locs cells slots Q (F0 m pc ls (v :: .ref a :: rest)) := by
  subst hv
  obtain ⟨i, hz⟩ := qs_at g hL
  have hz' := hz
  rw [qs_eo g hk h8] at hz'
  refine va_put hx hb hts hin ty0 hty hnm hown hG.1 hG.2.1 hG.2.2.1 hG.2.2.2.1 i hz' hc k hkN hlink hsame hfin hd hn hfit (qs_fs_len hfk) hdg (fun H1 locs1 hP hD hS => ?_)
  rw [qs_wR_set hG.2.2.1 hL hk h8 hz hfk] at hP hD
  exact kk H1 locs1 ⟨hG.1, hP, hD, hS, hG.2.2.2.2⟩
theorem qr_putRF (hx : p.tables.exec = Jvm.exec) (hb : c.code = cc) {own ref C : String} {T : u_T} {N ci index : Nat} {Ts : List Cond} (hts : ∀ w ∈ Ts, w.before args s = true) (hin : ∀ w ∈ u_ws C T N, w ∈ Ts) (ty0 : Nat → FieldType) (hty : ∀ k, k < N → parseFieldDescriptor (T k).2.2.1 = some (ty0 k)) (hnm : ∀ a, a < N → ∀ b, b < N → a ≠ b → (T a).2.1 ≠ (T b).2.1) (hown : s.vm.findClass own = some m.cls) (hG : qs_Gd g A s S H locs) (hL : a ∈ qs_L S) (hk : qs_K S a = ci) (h8 : ci < 8) (hc : vwCl[ci]? = some (C, T, N)) (k : Nat) (hkN : k < N) (hfk : (qs_fk ci)[k]? = some true) (hlink : (Cond.fieldLink own index ref (T k).2.1 (T k).2.2.1).before args s = true) (hsame : ∀ x, s.fieldFound? (T k).1 (T k).2.1 (T k).2.2.1 = some x → s.fieldFound? ref (T k).2.1 (T k).2.2.1 = some x) (hfin : (T k).2.2.2 = true) (hin2 : meth.name = "<init>") (hdecl : (T k).1 = own) {ty : FieldType} {x : Option Nat} {v : Value} (hv : va_rf x = v) (hd : parseFieldDescriptor (T k).2.2.1 = some ty) (hn : narrow ty (v) = v) (hfit : fits ty (v) = true) (hdg : decode cc pc = .ok (.putfield index, 3))
    (kk : ∀ (H1 : Heap) (locs1 : List Loc), qs_Gd g A s (qs_wR S k a x) H1 locs1 → W p l e R s m args below meth c H1 locs1 cells slots Q (F0 m (pc + 3) ls rest)) : W p l e R s m args below meth c H locs cells slots Q (F0 m pc ls (v :: .ref a :: rest)) := by
  subst hv
  obtain ⟨i, hz⟩ := qs_at g hL
  have hz' := hz
  rw [qs_eo g hk h8] at hz'
  refine va_putF hx hb hts hin ty0 hty hnm hown hG.1 hG.2.1 hG.2.2.1 hG.2.2.2.1 i hz' hc k hkN hlink hsame hfin hin2 hdecl hd hn hfit (qs_fs_len hfk) hdg (fun H1 locs1 hP hD hS => ?_)
  rw [qs_wR_set hG.2.2.1 hL hk h8 hz hfk] at hP hD
  exact kk H1 locs1 ⟨hG.1, hP, hD, hS, hG.2.2.2.2⟩
theorem qr_iald (hx : p.tables.exec = Jvm.exec) (hb : c.code = cc) (hG : qs_Gd g A s S H locs) (hL : a ∈ qs_L S) (hk : qs_K S a = 8) {i : Int32} (hi : vp_in i (qs_Z S a)) {v : Value} (hv : .int (qs_A S a i.toNatClampNeg) = v) (hdg : decode cc pc = .ok (.iaload, 1))
    (kk : W p l e R s m args below meth c H locs cells slots Q (F0 m (pc + 1) ls (v :: rest))) : W p l e R s m args below meth c H locs cells slots Q (F0 m pc ls (.int i :: .ref a :: rest)) := by
  subst hv
  obtain ⟨i0, hz⟩ := qs_at g hL
  rw [qs_e8 g hk] at hz
  exact va_iald hx hb hG.1 hG.2.1 i0 0 hz rfl hi hdg kk
theorem qr_zald (hx : p.tables.exec = Jvm.exec) (hb : c.code = cc) (hG : qs_Gd g A s S H locs) (hL : a ∈ qs_L S) (hk : qs_K S a = 9) {i : Int32} (hi : vp_in i (qs_Z S a)) {v : Value} (hv : .int (qs_A S a i.toNatClampNeg) = v) (hdg : decode cc pc = .ok (.baload, 1))
    (kk : W p l e R s m args below meth c H locs cells slots Q (F0 m (pc + 1) ls (v :: rest))) : W p l e R s m args below meth c H locs cells slots Q (F0 m pc ls (.int i :: .ref a :: rest)) := by
  subst hv
  obtain ⟨i0, hz⟩ := qs_at g hL
  rw [qs_e9 g hk] at hz
  exact va_zald hx hb hG.1 hG.2.1 i0 1 hz rfl hi hdg kk
theorem qr_aald (hx : p.tables.exec = Jvm.exec) (hb : c.code = cc) (hG : qs_Gd g A s S H locs) (hL : a ∈ qs_L S) (hk : qs_K S a = 10) {i : Int32} (hi : vp_in i (qs_Z S a)) {v : Value} (hv : va_rf (qs_O S a i.toNatClampNeg) = v) (hdg : decode cc pc = .ok (.aaload, 1))
    (kk : W p l e R s m args below meth c H locs cells slots Q (F0 m (pc + 1) ls (v :: rest))) : W p l e R s m args below meth c H locs cells slots Q (F0 m pc ls (.int i :: .ref a :: rest)) := by
  subst hv
  obtain ⟨i0, hz⟩ := qs_at g hL
  rw [qs_e10 g hk] at hz
  exact va_aldq hx hb hG.1 hG.2.1 i0 2 hz rfl hi hdg kk
theorem qs_e_wA {i b : Nat} {x : Int32} (h : b ≠ a) : qs_e g S b = qs_e g (qs_wA S a i x) b := by
  have e1 : qs_A (qs_wA S a i x) b = qs_A S b := by
    funext j
    exact if_neg (fun z => h z.1)
  unfold qs_e
  rw [e1]
  rfl
theorem qs_e_wO {i b : Nat} {x : Option Nat} (h : b ≠ a) : qs_e g S b = qs_e g (qs_wO S a i x) b := by
  have e1 : qs_O (qs_wO S a i x) b = qs_O S b := by
    funext j
    exact if_neg (fun z => h z.1)
  unfold qs_e
  rw [e1]
  rfl
theorem qs_A_wA {i : Nat} {x : Int32} : qs_A (qs_wA S a i x) a = upd (qs_A S a) i x := by
  funext j
  show (if a = a ∧ j = i then x else qs_A S a j) = if j = i then x else qs_A S a j
  by_cases hj : j = i
  · rw [if_pos ⟨rfl, hj⟩, if_pos hj]
  · rw [if_neg (fun z => hj z.2), if_neg hj]
theorem qs_O_wO {i : Nat} {x : Option Nat} : qs_O (qs_wO S a i x) a = va_up (qs_O S a) i x := by
  funext j
  show (if a = a ∧ j = i then x else qs_O S a j) = if j = i then x else qs_O S a j
  by_cases hj : j = i
  · rw [if_pos ⟨rfl, hj⟩, if_pos hj]
  · rw [if_neg (fun z => hj z.2), if_neg hj]
theorem qs_nar01 {x : Int32} (h : x = 0 ∨ x = 1) : narrow .boolean (.int x) = .int x := by
  rcases h with rfl | rfl <;> decide +kernel
theorem qs_fit01 {x : Int32} (h : x = 0 ∨ x = 1) : fits .boolean (.int x) = true := by
  rcases h with rfl | rfl <;> decide +kernel
theorem qs_vnar01 {x : Int32} (h : x = 0 ∨ x = 1) : vp_nar .boolean x = x := by
  rcases h with rfl | rfl <;> decide +kernel
theorem qr_iast (hx : p.tables.exec = Jvm.exec) (hb : c.code = cc) (hG : qs_Gd g A s S H locs) (hL : a ∈ qs_L S) (hk : qs_K S a = 8) {i x : Int32} (hi : vp_in i (qs_Z S a)) (hdg : decode cc pc = .ok (.iastore, 1))
    (kk : ∀ (H1 : Heap) (locs1 : List Loc), qs_Gd g A s (qs_wA S a i.toNatClampNeg x) H1 locs1 → W p l e R s m args below meth c H1 locs1 cells slots Q (F0 m (pc + 1) ls rest)) : W p l e R s m args below meth c H locs cells slots Q (F0 m pc ls (.int x :: .int i :: .ref a :: rest)) := by
  obtain ⟨i0, hz⟩ := qs_at g hL
  have hz' := hz
  rw [qs_e8 g hk] at hz'
  refine va_iast hx hb hG.1 hG.2.1 hG.2.2.1 hG.2.2.2.1 i0 0 hz' rfl hi hdg (fun H1 locs1 hP hD hS => ?_)
  skip
  rw [qs_set g (S' := qs_wA S a i.toNatClampNeg x) hG.2.2.1 hL hz rfl (by rw [qs_e8 g (S := qs_wA S a i.toNatClampNeg x) hk, qs_A_wA]; rfl) (fun b hb => qs_e_wA hb)] at hP hD
  exact kk H1 locs1 ⟨hG.1, hP, hD, hS, hG.2.2.2.2⟩
theorem qr_zast (hx : p.tables.exec = Jvm.exec) (hb : c.code = cc) (hG : qs_Gd g A s S H locs) (hL : a ∈ qs_L S) (hk : qs_K S a = 9) {i x : Int32} (hi : vp_in i (qs_Z S a)) (h01 : x = 0 ∨ x = 1) (hdg : decode cc pc = .ok (.bastore, 1))
    (kk : ∀ (H1 : Heap) (locs1 : List Loc), qs_Gd g A s (qs_wA S a i.toNatClampNeg x) H1 locs1 → W p l e R s m args below meth c H1 locs1 cells slots Q (F0 m (pc + 1) ls rest)) : W p l e R s m args below meth c H locs cells slots Q (F0 m pc ls (.int x :: .int i :: .ref a :: rest)) := by
  obtain ⟨i0, hz⟩ := qs_at g hL
  have hz' := hz
  rw [qs_e9 g hk] at hz'
  refine va_zast hx hb hG.1 hG.2.1 hG.2.2.1 hG.2.2.2.1 i0 1 hz' rfl hi hdg (fun H1 locs1 hP hD hS => ?_)
  rw [qs_vnar01 h01] at hP hD
  rw [qs_set g (S' := qs_wA S a i.toNatClampNeg x) hG.2.2.1 hL hz rfl (by rw [qs_e9 g (S := qs_wA S a i.toNatClampNeg x) hk, qs_A_wA]; rfl) (fun b hb => qs_e_wA hb)] at hP hD
  exact kk H1 locs1 ⟨hG.1, hP, hD, hS, hG.2.2.2.2⟩
theorem qr_aast (hx : p.tables.exec = Jvm.exec) (hb : c.code = cc) (hG : qs_Gd g A s S H locs) (hL : a ∈ qs_L S) (hk : qs_K S a = 10) {i : Int32} {v : Nat} (hi : vp_in i (qs_Z S a)) (hvL : v ∈ qs_L S) (hv8 : qs_K S v < 8) (hdg : decode cc pc = .ok (.aastore, 1))
    (kk : ∀ (H1 : Heap) (locs1 : List Loc), qs_Gd g A s (qs_wO S a i.toNatClampNeg (some v)) H1 locs1 → W p l e R s m args below meth c H1 locs1 cells slots Q (F0 m (pc + 1) ls rest)) : W p l e R s m args below meth c H locs cells slots Q (F0 m pc ls (.ref v :: .int i :: .ref a :: rest)) := by
  obtain ⟨i0, hz⟩ := qs_at g hL
  have hz' := hz
  rw [qs_e10 g hk] at hz'
  refine va_astqM hx hb hG.1 hG.2.1 hG.2.2.1 hG.2.2.2.1 i0 2 hz' rfl (hG.any hvL hv8) hi hdg (fun H1 locs1 hP hD hS => ?_)
  rw [qs_set g (S' := qs_wO S a i.toNatClampNeg (some v)) hG.2.2.1 hL hz rfl (by rw [qs_e10 g (S := qs_wO S a i.toNatClampNeg (some v)) hk, qs_O_wO]; rfl) (fun b hb => qs_e_wO hb)] at hP hD
  exact kk H1 locs1 ⟨hG.1, hP, hD, hS, hG.2.2.2.2⟩
theorem qr_aastN (hx : p.tables.exec = Jvm.exec) (hb : c.code = cc) (hG : qs_Gd g A s S H locs) (hL : a ∈ qs_L S) (hk : qs_K S a = 10) {i : Int32} (hi : vp_in i (qs_Z S a)) (hdg : decode cc pc = .ok (.aastore, 1))
    (kk : ∀ (H1 : Heap) (locs1 : List Loc), qs_Gd g A s (qs_wO S a i.toNatClampNeg none) H1 locs1 → W p l e R s m args below meth c H1 locs1 cells slots Q (F0 m (pc + 1) ls rest)) : W p l e R s m args below meth c H locs cells slots Q (F0 m pc ls (.null :: .int i :: .ref a :: rest)) := by
  obtain ⟨i0, hz⟩ := qs_at g hL
  have hz' := hz
  rw [qs_e10 g hk] at hz'
  refine va_astqN hx hb hG.1 hG.2.1 hG.2.2.1 hG.2.2.2.1 i0 2 hz' rfl hi hdg (fun H1 locs1 hP hD hS => ?_)
  rw [qs_set g (S' := qs_wO S a i.toNatClampNeg none) hG.2.2.1 hL hz rfl (by rw [qs_e10 g (S := qs_wO S a i.toNatClampNeg none) hk, qs_O_wO]; rfl) (fun b hb => qs_e_wO hb)] at hP hD
  exact kk H1 locs1 ⟨hG.1, hP, hD, hS, hG.2.2.2.2⟩
/-- the length of an element array, ArrayList's empty one included -/
def qs_len (t0 : Nat) (S : qs_S) (a : Nat) : Nat := if a = t0 then 0 else qs_Z S a
theorem qr_alen (hx : p.tables.exec = Jvm.exec) (hb : c.code = cc) (hG : qs_Gd g A s S H locs) (hL : a = g.2.2.2.2.2.2.1 ∨ (a ∈ qs_L S ∧ qs_K S a = 10)) (hdg : decode cc pc = .ok (.arraylength, 1))
    (kk : W p l e R s m args below meth c H locs cells slots Q (F0 m (pc + 1) ls (.int (nI (qs_len g.2.2.2.2.2.2.1 S a)) :: rest))) : W p l e R s m args below meth c H locs cells slots Q (F0 m pc ls (.ref a :: rest)) := by
  by_cases h0 : a = g.2.2.2.2.2.2.1
  · rw [qs_len, if_pos h0] at kk
    rw [h0]
    exact va_tlen hx hb hG.2.2.2.2.2.2.1 hG.2.2.2.1 rfl hdg kk
  · rw [qs_len, if_neg h0] at kk
    obtain ⟨hL, hk⟩ := hL.resolve_left h0
    obtain ⟨i0, hz⟩ := qs_at g hL
    rw [qs_e10 g hk] at hz
    exact va_alen hx hb hG.1 hG.2.1 i0 2 hz rfl rfl hdg kk
theorem qr_empty (hx : p.tables.exec = Jvm.exec) (hb : c.code = cc) {own ref : String} {index : Nat} (hG : qs_Gd g A s S H locs) (hown : s.vm.findClass own = some m.cls) (hlink : (Cond.fieldLink own index ref "DEFAULTCAPACITY_EMPTY_ELEMENTDATA" "[Ljava/lang/Object;").before args s = true) (hsame : ∀ x, s.fieldFound? "java/util/ArrayList" "DEFAULTCAPACITY_EMPTY_ELEMENTDATA" "[Ljava/lang/Object;" = some x → s.fieldFound? ref "DEFAULTCAPACITY_EMPTY_ELEMENTDATA" "[Ljava/lang/Object;" = some x) (hdg : decode cc pc = .ok (.getstatic index, 3))
    (kk : W p l e R s m args below meth c H locs cells slots Q (F0 m (pc + 3) ls (.ref g.2.2.2.2.2.2.1 :: rest))) : W p l e R s m args below meth c H locs cells slots Q (F0 m pc ls rest) :=
  va_gets hx hb hG.2.2.2.2.2.1 hG.2.2.2.1 hown hlink hsame hdg kk
theorem qs_t0L {A : Nat → Prop} {U : State} {Hh : Heap} {t0 m9 q : Nat} (h : qs_E t0 m9 A U Hh) (hq : A q) : q ≠ t0 := fun z => h.2.1.out (z ▸ hq)
theorem qr_cast (hx : p.tables.exec = Jvm.exec) (hb : c.code = cc) {own nm : String} {T : u_T} {N ci index : Nat} (hG : qs_Gd g A s S H locs) (hL : a ∈ qs_L S) (hk : qs_K S a = ci) (h8 : ci < 8) (hc : vwCl[ci]? = some (nm, T, N)) (hown : s.vm.findClass own = some m.cls) (hlink : (Cond.classLink own index nm).before args s = true) (hdg : decode cc pc = .ok (.checkcast index, 3))
    (kk : W p l e R s m args below meth c H locs cells slots Q (F0 m (pc + 3) ls (.ref a :: rest))) : W p l e R s m args below meth c H locs cells slots Q (F0 m pc ls (.ref a :: rest)) :=
  va_castS hx hb hown hlink (hG.1.1 ci _ hc).2 (hG.recv hL hk h8 hc) hdg kk
theorem qs_push_nw {q ci : Nat} (hq : q ∉ qs_L S) (h8 : ci < 8) : qs_ws g S ++ [(q, .inr (ci, qs_fs (qs_nw S q ci) q ci))] = qs_ws g (qs_nw S q ci) := by
  unfold qs_ws
  rw [List.append_assoc, va_pl_push hq]
  refine congrArg (fun l => g.2.2.2.2.2.1 ++ l) (va_pl_congr (fun b => ?_))
  by_cases hb : b = q
  · subst hb
    rw [va_up_self, qs_eo g (S := qs_nw S b ci) (if_pos rfl) h8]
  · rw [va_up_ne _ _ hb]
    have e1 : qs_K (qs_nw S q ci) b = qs_K S b := if_neg hb
    have e2 : qs_fs (qs_nw S q ci) b (qs_K S b) = qs_fs S b (qs_K S b) := by
      unfold qs_fs
      congr 1
      funext k' x
      cases x
      · show Value.int (if b = q then 0 else qs_I S k' b) = Value.int (qs_I S k' b)
        rw [if_neg hb]
      · show va_rf (if b = q then none else qs_R S k' b) = va_rf (qs_R S k' b)
        rw [if_neg hb]
    unfold qs_e
    rw [e1, e2]
    rfl
theorem qr_new (hx : p.tables.exec = Jvm.exec) (hb : c.code = cc) {own ref C : String} {T : u_T} {N ci index : Nat} {Ts : List Cond} (hts : ∀ w ∈ Ts, w.before args s = true) (hin : ∀ w ∈ u_ws C T N, w ∈ Ts) (ty : Nat → FieldType) (hty : ∀ k, k < N → parseFieldDescriptor (T k).2.2.1 = some (ty k)) (hown : s.vm.findClass own = some m.cls) (hcl : (Cond.classLink own index C).before args s = true) (hinst : (Cond.instantiable C N).before args s = true) (hini : (Cond.initialized C).before args s = true)
    (hG : qs_Gd g A s S H locs) (h8 : ci < 8) (hc : vwCl[ci]? = some (C, T, N)) (hfs : ∀ (S : qs_S) (q : Nat) (j : Nat), j < N → defaultValue (ty j) = vp_V (qs_fs (qs_nw S q ci) q ci) j) (hcells : cells + 1 ≤ R.cells) (hslots : slots + N ≤ R.slots) (hdg : decode cc pc = .ok (.new index, 3))
    (kk : ∀ (q : Nat) (H1 : Heap), q ∉ qs_L S → q ≠ g.2.2.2.2.2.2.1 → qs_Gd g A s (qs_nw S q ci) H1 locs → W p l e R s m args below meth c H1 locs (cells + 1) (slots + N) Q (F0 m (pc + 3) ls (.ref q :: rest))) : W p l e R s m args below meth c H locs cells slots Q (F0 m pc ls rest) := by
  have hfs0 : ∀ q q', qs_fs (qs_nw S q ci) q ci = qs_fs (qs_nw S q' ci) q' ci := by
    intro q q'
    unfold qs_fs
    congr 1
    funext k' x
    cases x
    · show Value.int (if q = q then 0 else qs_I S k' q) = Value.int (if q' = q' then 0 else qs_I S k' q')
      rw [if_pos rfl, if_pos rfl]
    · show va_rf (if q = q then none else qs_R S k' q) = va_rf (if q' = q' then none else qs_R S k' q')
      rw [if_pos rfl, if_pos rfl]
  refine va_new hx hb hts hin ty hty hown hcl hinst hini hG.1 hG.2.1 hG.2.2.1 hG.2.2.2.1 hG.2.2.2.2.1 hc (fs := qs_fs (qs_nw S 0 ci) 0 ci) (fun j hj => hfs S 0 j hj) hcells hslots hdg (fun q H1 hP hD hS => ?_)
  have hq : q ∉ qs_L S := va_pl_fresh2 hD
  rw [hfs0 0 q, qs_push_nw hq h8] at hP hD
  obtain ⟨i0, hz⟩ := qs_at g (S := qs_nw S q ci) (a := q) (List.mem_append_right _ List.mem_cons_self)
  exact kk q H1 hq (qs_t0L hG.2.2.2.2.2 (hD.2 i0 _ hz)) ⟨hG.1, hP, hD, hS, hG.2.2.2.2⟩
theorem qs_push_nA {q ci n : Nat} (hq : q ∉ qs_L S) {en : va_E} (he : qs_e g (qs_nA S q ci n) q = en) : qs_ws g S ++ [(q, en)] = qs_ws g (qs_nA S q ci n) := by
  unfold qs_ws
  rw [List.append_assoc, va_pl_push hq]
  refine congrArg (fun l => g.2.2.2.2.2.1 ++ l) (va_pl_congr (fun b => ?_))
  by_cases hb : b = q
  · subst hb
    rw [va_up_self, he]
  · rw [va_up_ne _ _ hb]
    have e1 : qs_K (qs_nA S q ci n) b = qs_K S b := if_neg hb
    have e2 : qs_Z (qs_nA S q ci n) b = qs_Z S b := if_neg hb
    have e3 : qs_A (qs_nA S q ci n) b = qs_A S b := by
      funext j
      exact if_neg hb
    have e4 : qs_O (qs_nA S q ci n) b = qs_O S b := by
      funext j
      exact if_neg hb
    unfold qs_e
    rw [e1, e2, e3, e4]
    rfl
theorem qr_newI (hx : p.tables.exec = Jvm.exec) (hb : c.code = cc) (harr : (Cond.arrayClass .int).before args s = true) (hG : qs_Gd g A s S H locs) {n : Int32} {N : Nat} (hn : ¬ n < 0) (hN : n.toNatClampNeg = N) (hbytes : N * 4 ≤ 536870912) (hcells : cells + 1 ≤ R.cells) (hslots : slots + N ≤ R.slots) (hdg : decode cc pc = .ok (.newarray .int, 2))
    (kk : ∀ (q : Nat) (H1 : Heap), q ∉ qs_L S → q ≠ g.2.2.2.2.2.2.1 → qs_Gd g A s (qs_nA S q 8 N) H1 locs → W p l e R s m args below meth c H1 locs (cells + 1) (slots + N) Q (F0 m (pc + 2) ls (.ref q :: rest))) : W p l e R s m args below meth c H locs cells slots Q (F0 m pc ls (.int n :: rest)) := by
  refine va_newa (atype := .int) hx hb harr rfl hG.1 hG.2.1 hG.2.2.1 hG.2.2.2.1 hG.2.2.2.2.1 (a0 := (N, .inl (fun _ => 0))) (fun cA => rfl) hn hN (Nat.le_trans (Nat.mul_le_mul_left N (by decide)) hbytes) hcells hslots hdg (fun q cA H1 hK hP hD hS => ?_)
  have hq : q ∉ qs_L S := va_pl_fresh2 hD
  have h1 := (hK.2 0 (g.2.1, .int) rfl).2
  have h2 := (hK.2 4 (cA, .int) rfl).2
  have hcA : cA = g.2.1 := Option.some.inj ((show s.vm.findClass _ = some cA from h2).symm.trans (show s.vm.findClass _ = some g.2.1 from h1))
  subst hcA
  have he : qs_e g (qs_nA S q 8 N) q = .inl (g.2.1, N, .inl (fun _ => 0)) := by
    rw [qs_e8 g (S := qs_nA S q 8 N) (if_pos rfl)]
    have e1 : qs_Z (qs_nA S q 8 N) q = N := if_pos rfl
    have e2 : qs_A (qs_nA S q 8 N) q = (fun _ => 0) := by
      funext j
      exact if_pos rfl
    rw [e1, e2]
  rw [qs_push_nA hq he] at hP hD
  obtain ⟨i0, hz⟩ := qs_at g (S := qs_nA S q 8 N) (a := q) (List.mem_append_right _ List.mem_cons_self)
  exact kk q H1 hq (qs_t0L hG.2.2.2.2.2 (hD.2 i0 _ hz)) ⟨hG.1, hP, hD, hS, hG.2.2.2.2⟩
theorem qr_newZ (hx : p.tables.exec = Jvm.exec) (hb : c.code = cc) (harr : (Cond.arrayClass .boolean).before args s = true) (hG : qs_Gd g A s S H locs) {n : Int32} {N : Nat} (hn : ¬ n < 0) (hN : n.toNatClampNeg = N) (hbytes : N * 4 ≤ 536870912) (hcells : cells + 1 ≤ R.cells) (hslots : slots + N ≤ R.slots) (hdg : decode cc pc = .ok (.newarray .boolean, 2))
    (kk : ∀ (q : Nat) (H1 : Heap), q ∉ qs_L S → q ≠ g.2.2.2.2.2.2.1 → qs_Gd g A s (qs_nA S q 9 N) H1 locs → W p l e R s m args below meth c H1 locs (cells + 1) (slots + N) Q (F0 m (pc + 2) ls (.ref q :: rest))) : W p l e R s m args below meth c H locs cells slots Q (F0 m pc ls (.int n :: rest)) := by
  refine va_newa (atype := .boolean) hx hb harr rfl hG.1 hG.2.1 hG.2.2.1 hG.2.2.2.1 hG.2.2.2.2.1 (a0 := (N, .inl (fun _ => 0))) (fun cA => rfl) hn hN (Nat.le_trans (Nat.mul_le_mul_left N (by decide)) hbytes) hcells hslots hdg (fun q cA H1 hK hP hD hS => ?_)
  have hq : q ∉ qs_L S := va_pl_fresh2 hD
  have h1 := (hK.2 1 (g.2.2.1, .boolean) rfl).2
  have h2 := (hK.2 4 (cA, .boolean) rfl).2
  have hcA : cA = g.2.2.1 := Option.some.inj ((show s.vm.findClass _ = some cA from h2).symm.trans (show s.vm.findClass _ = some g.2.2.1 from h1))
  subst hcA
  have he : qs_e g (qs_nA S q 9 N) q = .inl (g.2.2.1, N, .inl (fun _ => 0)) := by
    rw [qs_e9 g (S := qs_nA S q 9 N) (if_pos rfl)]
    have e1 : qs_Z (qs_nA S q 9 N) q = N := if_pos rfl
    have e2 : qs_A (qs_nA S q 9 N) q = (fun _ => 0) := by
      funext j
      exact if_pos rfl
    rw [e1, e2]
  rw [qs_push_nA hq he] at hP hD
  obtain ⟨i0, hz⟩ := qs_at g (S := qs_nA S q 9 N) (a := q) (List.mem_append_right _ List.mem_cons_self)
  exact kk q H1 hq (qs_t0L hG.2.2.2.2.2 (hD.2 i0 _ hz)) ⟨hG.1, hP, hD, hS, hG.2.2.2.2⟩
theorem qr_newO (hx : p.tables.exec = Jvm.exec) (hb : c.code = cc) {own : String} {index : Nat} (hown : s.vm.findClass own = some m.cls) (hclink : (Cond.classLink own index "java/lang/Object").before args s = true) (hover : va_AO "java/lang/Object" s) (hG : qs_Gd g A s S H locs) {n : Int32} {N : Nat} (hn : ¬ n < 0) (hN : n.toNatClampNeg = N) (hbytes : N * 4 ≤ 536870912) (hcells : cells + 1 ≤ R.cells) (hslots : slots + N ≤ R.slots) (hdg : decode cc pc = .ok (.anewarray index, 3))
    (kk : ∀ (q : Nat) (H1 : Heap), q ∉ qs_L S → q ≠ g.2.2.2.2.2.2.1 → qs_Gd g A s (qs_nA S q 10 N) H1 locs → W p l e R s m args below meth c H1 locs (cells + 1) (slots + N) Q (F0 m (pc + 3) ls (.ref q :: rest))) : W p l e R s m args below meth c H locs cells slots Q (F0 m pc ls (.int n :: rest)) := by
  refine va_newq hx hb hown hclink hover hG.1 hG.2.1 hG.2.2.1 hG.2.2.2.1 hG.2.2.2.2.1 hn hN hbytes hcells hslots hdg (fun q cA H1 hK hP hD hS => ?_)
  have hq : q ∉ qs_L S := va_pl_fresh2 hD
  obtain ⟨-, -, -, -, -, h1⟩ := (hK.2 2 (g.2.2.2.1, .object "java/lang/Object") rfl).2
  obtain ⟨-, -, -, -, -, h2⟩ := (hK.2 4 (cA, .object "java/lang/Object") rfl).2
  have hcA : cA = g.2.2.2.1 := Option.some.inj (h2.symm.trans h1)
  subst hcA
  have he : qs_e g (qs_nA S q 10 N) q = .inl (g.2.2.2.1, N, .inr (.inr (.inr (.inr (fun _ => none))))) := by
    rw [qs_e10 g (S := qs_nA S q 10 N) (if_pos rfl)]
    have e1 : qs_Z (qs_nA S q 10 N) q = N := if_pos rfl
    have e2 : qs_O (qs_nA S q 10 N) q = (fun _ => none) := by
      funext j
      exact if_pos rfl
    rw [e1, e2]
  rw [qs_push_nA hq he] at hP hD
  obtain ⟨i0, hz⟩ := qs_at g (S := qs_nA S q 10 N) (a := q) (List.mem_append_right _ List.mem_cons_self)
  exact kk q H1 hq (qs_t0L hG.2.2.2.2.2 (hD.2 i0 _ hz)) ⟨hG.1, hP, hD, hS, hG.2.2.2.2⟩
theorem qr_copy (hx : p.tables.exec = Jvm.exec) (hb : c.code = cc) (hml : c.maxLocals = ls.size) {own : String} {index a0 : Nat} (hown : s.vm.findClass own = some m.cls) (hlink : (Cond.methodLink own index arraycopyName).before args s = true) (hnat : (Cond.native arraycopyName).before args s = true) (hstat : (Cond.static arraycopyName).before args s = true) (hini : (Cond.initialized "java/lang/System").before args s = true)
    (hG : qs_Gd g A s S H locs) (hL0 : a0 ∈ qs_L S) (hk0 : qs_K S a0 = 10) (hL : a ∈ qs_L S) (hk : qs_K S a = 10) {sp dp n : Int32} (h1 : ¬ sp < 0) (h2 : ¬ dp < 0) (h3 : ¬ n < 0) (h4 : sp.toNatClampNeg + n.toNatClampNeg ≤ qs_Z S a0) (h5 : dp.toNatClampNeg + n.toNatClampNeg ≤ qs_Z S a) (hel : ∀ i : Nat, i < n.toNatClampNeg → ∀ y : Nat, qs_O S a0 (sp.toNatClampNeg + i) = some y → y ∈ qs_L S ∧ qs_K S y < 8)
    (hframes : 1 ≤ R.frames) (hlocals : (rest.map fun v => v.category).sum + (nativeFrameWords "java/lang/System" "arraycopy" 5 + 11) ≤ R.locals) (hdg : decode cc pc = .ok (.invokestatic index, 3))
    (kk : ∀ (H1 : Heap) (locs1 : List Loc), qs_Gd g A s (qs_cO S a0 a sp.toNatClampNeg dp.toNatClampNeg n.toNatClampNeg) H1 locs1 → W p l e R s m args below meth c H1 locs1 cells slots Q (F0 m (pc + 3) ls rest)) : W p l e R s m args below meth c H locs cells slots Q (F0 m pc ls (.int n :: .int dp :: .ref a :: .int sp :: .ref a0 :: rest)) := by
  obtain ⟨i1, hz⟩ := qs_at g hL
  have hz' := hz
  rw [qs_e10 g hk] at hz'
  obtain ⟨i0, hy⟩ := qs_at g hL0
  rw [qs_e10 g hk0] at hy
  refine va_copyM hx hb hml hown hlink hnat hstat hini hG.1 hG.2.1 hG.2.2.1 hG.2.2.2.1 i0 i1 2 2 hy hz' rfl rfl h1 h2 h3 h4 h5 (fun i hi y hv => hG.any (hel i hi y hv).1 (hel i hi y hv).2) hframes hlocals hdg (fun H1 locs1 hP hD hS => ?_)
  have e0 : ∀ b, b ≠ a → qs_O (qs_cO S a0 a sp.toNatClampNeg dp.toNatClampNeg n.toNatClampNeg) b = qs_O S b := fun b hb => if_neg hb
  have e1 : qs_O (qs_cO S a0 a sp.toNatClampNeg dp.toNatClampNeg n.toNatClampNeg) a = va_cpy (qs_O S a0) (qs_O S a) sp.toNatClampNeg dp.toNatClampNeg n.toNatClampNeg := if_pos rfl
  rw [qs_set g (S' := qs_cO S a0 a sp.toNatClampNeg dp.toNatClampNeg n.toNatClampNeg) hG.2.2.1 hL hz rfl (by rw [qs_e10 g (S := qs_cO S a0 a sp.toNatClampNeg dp.toNatClampNeg n.toNatClampNeg) hk, e1]; rfl) (fun b hb => by unfold qs_e; rw [e0 b hb]; rfl)] at hP hD
  exact kk H1 locs1 ⟨hG.1, hP, hD, hS, hG.2.2.2.2⟩
end QSR
end
section
/-! ===== BEGIN .. of methods that hand back an object of the pool ===== -/
section
variable {p : Program} {l : Launch} {e : Env} {R : Room} {s : State} {m : MethodId} {args : Array Value} {below : List Frame} {meth : Method} {c : Code} {H : Heap} {locs : List Loc} {cells slots : Nat} {Q : State → Prop}
variable {mc ms : Nat} {free : Addr → Prop} {A0 A1 : Nat → Prop} {H0 : Heap} {a : Array Value} {pc : Nat} {ls : Array Slot} {st0 rest : List Value}
theorem vx_callq {S SX : Type} {post : Option Nat → S → Prop} {px : SX → Prop} {B : S → State → Prop} {BX : String → SX → State → Prop} {AX : Nat → Prop} (hr : vx_Run p l e R s m args below meth c H locs cells slots mc ms (F0 m pc ls st0) rest (va_Qq post B A1 a) (vx_X px BX AX) free) (hS : va_S A0 H0 H locs) (hA : ∀ q, q < H.size → A1 q → A0 q) (hf : ∀ q, free q → A0 q) (hAX : ∀ q, q < H.size → AX q → A0 q)
    (kx : ∀ (E : String) (ce : Cell) (q9 : Addr) (u : SX) (t : State) (H1 : Heap) (locs1 : List Loc), t.heap = H1 → s.vm.Alike t.vm → px u → BX E u t → H.size ≤ H1.size → (∀ q : Nat, q < H.size → ¬ AX q → H1[q]? = H[q]?) → va_S A0 H0 H1 locs1 → H1[q9]? = some ce → ce.vm = .none → s.vm.findClass E = some ce.cls → vx_W p l e R s m args below meth c H1 locs1 (cells + mc) (slots + ms) Q (F0 m pc ls rest) q9)
    (kk : ∀ (r : Option Nat) (u : S) (t : State) (H1 : Heap) (locs1 : List Loc), t.heap = H1 → s.vm.Alike t.vm → post r u → B u t → H.size ≤ H1.size → (∀ q : Nat, q < H.size → ¬ A1 q → H1[q]? = H[q]?) → va_S A0 H0 H1 locs1 → W p l e R s m args below meth c H1 locs1 (cells + mc) (slots + ms) Q (F0 m (pc + 3) ls (va_rf r :: rest))) : W p l e R s m args below meth c H locs cells slots Q (F0 m pc ls st0) := by
  intro T hT X
  rcases hr T hT X with ⟨v, st₀, t, T', L, h0, X', hL, e1, e2, ⟨⟨r, u, hv, hp, hb⟩, hF⟩, st⟩ | ⟨q, st₀, t, T', L, E, ce, h0, X', hL, e1, e2, ⟨u, hp, hb, hF⟩, hce, hcv, hcl, st⟩
  · cases hv
    obtain ⟨k1, k2, k3⟩ := vx_keep h0 e1 hS hA hf hL hF
    obtain ⟨t2, a1, b1⟩ := kk r u t T'.heap (locs ++ L) e1.symm (by rw [← e2]; exact X'.warmed.alike) hp hb k1 k2 k3 T' rfl X'
    exact ⟨t2, st t2 a1, b1⟩
  · obtain ⟨k1, k2, k3⟩ := vx_keep h0 e1 hS hAX hf hL hF
    obtain ⟨t2, a1, b1⟩ := kx E ce q u t T'.heap (locs ++ L) e1.symm (by rw [← e2]; exact X'.warmed.alike) hp hb k1 k2 k3 (by rw [e1]; exact hce) hcv hcl T' rfl X'
    exact ⟨t2, st.trans a1, b1⟩
end
/-! ===== END ===== -/
end
section
section QSC
variable {p : Program} {l : Launch} {e : Env} {R : Room} {s : State} {m : MethodId} {args : Array Value} {below : List Frame} {meth : Method} {c : Code} {H : Heap} {locs : List Loc} {cells slots : Nat} {Q : State → Prop}
variable {cc : ByteArray} {pc : Nat} {ls : Array Slot} {rest st0 : List Value} {g : qs_G} {A : Nat → Prop} {S : qs_S} {a : Array Value} {mc ms : Nat}
def qs_X (g : qs_G) (F : Nat → Prop) (px : String → qs_S → Prop) : String → State → State → Prop := vx_X (fun _ : qs_S => True) (fun E S1 t => px E S1 ∧ qs_B g F S1 t) F
abbrev qs_Qi (g : qs_G) (F : Nat → Prop) (post : Int32 → qs_S → Prop) : Array Value → State → Outcome → State → Prop := va_Qi post (qs_B g F) F
abbrev qs_Qv (g : qs_G) (F : Nat → Prop) (post : qs_S → Prop) : Array Value → State → Outcome → State → Prop := va_Qv post (qs_B g F) F
abbrev qs_Qq (g : qs_G) (F : Nat → Prop) (post : Option Nat → qs_S → Prop) : Array Value → State → Outcome → State → Prop := va_Qq post (qs_B g F) F
theorem qs_back {S1 : qs_S} {t : State} {H1 : Heap} {locs1 : List Loc} (hG : qs_Gd g A s S H locs) (ht : t.heap = H1) (hB : qs_B g (qs_F g S H.size) S1 t) (hvm : s.vm.Alike t.vm) (hS : va_S A s.heap H1 locs1) : qs_Gd g A s S1 H1 locs1 := by
  subst ht
  exact ⟨hG.1, hB.2.1, hB.2.2.weaken (fun _ q _ h => hG.sub q.1 h), hS, hG.2.2.2.2⟩
theorem qc_i {post : Int32 → qs_S → Prop} (hG : qs_Gd g A s S H locs) (hr : va_Run p l e R s m args below meth c H locs cells slots mc ms (F0 m pc ls st0) rest (va_Qi post (qs_B g (qs_F g S H.size)) (qs_F g S H.size) a) (qs_F g S H.size))
    (kk : ∀ (r : Int32) (S1 : qs_S) (H1 : Heap) (locs1 : List Loc), post r S1 → qs_Gd g A s S1 H1 locs1 → W p l e R s m args below meth c H1 locs1 (cells + mc) (slots + ms) Q (F0 m (pc + 3) ls (.int r :: rest))) : W p l e R s m args below meth c H locs cells slots Q (F0 m pc ls st0) :=
  va_calli hr hG.2.2.2.1 (fun q _ h => hG.sub q h) (fun q h => hG.sub q h) (fun r u t H1 locs1 ht hvm hp hB hz hk hS => kk r u H1 locs1 hp (qs_back hG ht hB hvm hS))
theorem qx_i {post : Int32 → qs_S → Prop} {px : String → qs_S → Prop} (hG : qs_Gd g A s S H locs) (hr : vx_Run p l e R s m args below meth c H locs cells slots mc ms (F0 m pc ls st0) rest (va_Qi post (qs_B g (qs_F g S H.size)) (qs_F g S H.size) a) (qs_X g (qs_F g S H.size) px) (qs_F g S H.size))
    (kx : ∀ (E : String) (S1 : qs_S) (H1 : Heap) (locs1 : List Loc) (ce : Cell) (q9 : Addr), px E S1 → qs_Gd g A s S1 H1 locs1 → H1[q9]? = some ce → ce.vm = .none → s.vm.findClass E = some ce.cls → vx_W p l e R s m args below meth c H1 locs1 (cells + mc) (slots + ms) Q (F0 m pc ls rest) q9)
    (kk : ∀ (r : Int32) (S1 : qs_S) (H1 : Heap) (locs1 : List Loc), post r S1 → qs_Gd g A s S1 H1 locs1 → W p l e R s m args below meth c H1 locs1 (cells + mc) (slots + ms) Q (F0 m (pc + 3) ls (.int r :: rest))) : W p l e R s m args below meth c H locs cells slots Q (F0 m pc ls st0) :=
  vx_calli hr hG.2.2.2.1 (fun q _ h => hG.sub q h) (fun q h => hG.sub q h) (fun q _ h => hG.sub q h) (fun E ce q9 u t H1 locs1 ht hvm _ hp hz hk hS h1 h2 h3 => kx E u H1 locs1 ce q9 hp.1 (qs_back hG ht hp.2 hvm hS) h1 h2 h3) (fun r u t H1 locs1 ht hvm hp hB hz hk hS => kk r u H1 locs1 hp (qs_back hG ht hB hvm hS))
theorem qc_q {post : Option Nat → qs_S → Prop} (hG : qs_Gd g A s S H locs) (hr : va_Run p l e R s m args below meth c H locs cells slots mc ms (F0 m pc ls st0) rest (va_Qq post (qs_B g (qs_F g S H.size)) (qs_F g S H.size) a) (qs_F g S H.size))
    (kk : ∀ (r : Option Nat) (S1 : qs_S) (H1 : Heap) (locs1 : List Loc), post r S1 → qs_Gd g A s S1 H1 locs1 → W p l e R s m args below meth c H1 locs1 (cells + mc) (slots + ms) Q (F0 m (pc + 3) ls (va_rf r :: rest))) : W p l e R s m args below meth c H locs cells slots Q (F0 m pc ls st0) :=
  va_callq hr hG.2.2.2.1 (fun q _ h => hG.sub q h) (fun q h => hG.sub q h) (fun r u t H1 locs1 ht hvm hp hB hz hk hS => kk r u H1 locs1 hp (qs_back hG ht hB hvm hS))
theorem qx_q {post : Option Nat → qs_S → Prop} {px : String → qs_S → Prop} (hG : qs_Gd g A s S H locs) (hr : vx_Run p l e R s m args below meth c H locs cells slots mc ms (F0 m pc ls st0) rest (va_Qq post (qs_B g (qs_F g S H.size)) (qs_F g S H.size) a) (qs_X g (qs_F g S H.size) px) (qs_F g S H.size))
    (kx : ∀ (E : String) (S1 : qs_S) (H1 : Heap) (locs1 : List Loc) (ce : Cell) (q9 : Addr), px E S1 → qs_Gd g A s S1 H1 locs1 → H1[q9]? = some ce → ce.vm = .none → s.vm.findClass E = some ce.cls → vx_W p l e R s m args below meth c H1 locs1 (cells + mc) (slots + ms) Q (F0 m pc ls rest) q9)
    (kk : ∀ (r : Option Nat) (S1 : qs_S) (H1 : Heap) (locs1 : List Loc), post r S1 → qs_Gd g A s S1 H1 locs1 → W p l e R s m args below meth c H1 locs1 (cells + mc) (slots + ms) Q (F0 m (pc + 3) ls (va_rf r :: rest))) : W p l e R s m args below meth c H locs cells slots Q (F0 m pc ls st0) :=
  vx_callq hr hG.2.2.2.1 (fun q _ h => hG.sub q h) (fun q h => hG.sub q h) (fun q _ h => hG.sub q h) (fun E ce q9 u t H1 locs1 ht hvm _ hp hz hk hS h1 h2 h3 => kx E u H1 locs1 ce q9 hp.1 (qs_back hG ht hp.2 hvm hS) h1 h2 h3) (fun r u t H1 locs1 ht hvm hp hB hz hk hS => kk r u H1 locs1 hp (qs_back hG ht hB hvm hS))
theorem qc_v {post : qs_S → Prop} (hG : qs_Gd g A s S H locs) (hr : va_Run p l e R s m args below meth c H locs cells slots mc ms (F0 m pc ls st0) rest (va_Qv post (qs_B g (qs_F g S H.size)) (qs_F g S H.size) a) (qs_F g S H.size))
    (kk : ∀ (S1 : qs_S) (H1 : Heap) (locs1 : List Loc), post S1 → qs_Gd g A s S1 H1 locs1 → W p l e R s m args below meth c H1 locs1 (cells + mc) (slots + ms) Q (F0 m (pc + 3) ls rest)) : W p l e R s m args below meth c H locs cells slots Q (F0 m pc ls st0) :=
  va_callv hr hG.2.2.2.1 (fun q _ h => hG.sub q h) (fun q h => hG.sub q h) (fun u t H1 locs1 ht hvm hp hB hz hk hS => kk u H1 locs1 hp (qs_back hG ht hB hvm hS))
theorem qx_v {post : qs_S → Prop} {px : String → qs_S → Prop} (hG : qs_Gd g A s S H locs) (hr : vx_Run p l e R s m args below meth c H locs cells slots mc ms (F0 m pc ls st0) rest (va_Qv post (qs_B g (qs_F g S H.size)) (qs_F g S H.size) a) (qs_X g (qs_F g S H.size) px) (qs_F g S H.size))
    (kx : ∀ (E : String) (S1 : qs_S) (H1 : Heap) (locs1 : List Loc) (ce : Cell) (q9 : Addr), px E S1 → qs_Gd g A s S1 H1 locs1 → H1[q9]? = some ce → ce.vm = .none → s.vm.findClass E = some ce.cls → vx_W p l e R s m args below meth c H1 locs1 (cells + mc) (slots + ms) Q (F0 m pc ls rest) q9)
    (kk : ∀ (S1 : qs_S) (H1 : Heap) (locs1 : List Loc), post S1 → qs_Gd g A s S1 H1 locs1 → W p l e R s m args below meth c H1 locs1 (cells + mc) (slots + ms) Q (F0 m (pc + 3) ls rest)) : W p l e R s m args below meth c H locs cells slots Q (F0 m pc ls st0) :=
  vx_callv hr hG.2.2.2.1 (fun q _ h => hG.sub q h) (fun q h => hG.sub q h) (fun q _ h => hG.sub q h) (fun E ce q9 u t H1 locs1 ht hvm _ hp hz hk hS h1 h2 h3 => kx E u H1 locs1 ce q9 hp.1 (qs_back hG ht hp.2 hvm hS) h1 h2 h3) (fun u t H1 locs1 ht hvm hp hB hz hk hS => kk u H1 locs1 hp (qs_back hG ht hB hvm hS))
theorem qx_out {S0 : qs_S} {sz : Nat} {E : String} {ce : Cell} {q9 : Addr} {px : String → qs_S → Prop} {Qc : Array Value → State → Outcome → State → Prop} (hout : ∀ x ∈ c.exceptionTable.toList, False) (hlocks : meth.locks = false) (hG : qs_Gd g (qs_F g S0 sz) s S H locs) (hpx : px E S) (h1 : H[q9]? = some ce) (h2 : ce.vm = .none) (h3 : s.vm.findClass E = some ce.cls) (hc : cells ≤ mc) (hs : slots ≤ ms) :
    vx_W p l e R s m args below meth c H locs cells slots (vx_MQ below Qc (qs_X g (qs_F g S0 sz) px) args s mc ms (qs_F g S0 sz)) (F0 m pc ls rest) q9 :=
  vx_out (fun x hx => (hout x hx).elim) hlocks h1 h2 h3 (fun t ht hal => ⟨S, trivial, ⟨hpx, va_K.moved hal hG.1, by rw [ht]; exact hG.2.1, hG.2.2.1⟩, hG.2.2.2.1.F ht⟩) hG.2.2.2.1.2.2 hc hs
theorem qe_i {v : Int32} {post : Int32 → qs_S → Prop} {S0 : qs_S} {sz : Nat} (hx : p.tables.exec = Jvm.exec) (hb : c.code = cc) (hr : meth.sig.returnType = some .int) (hlocks : meth.locks = false) (hG : qs_Gd g (qs_F g S0 sz) s S H locs) (hp : post v S) (hc : cells ≤ mc) (hs : slots ≤ ms) (hdg : decode cc pc = .ok (.ireturn, 1)) :
    W p l e R s m args below meth c H locs cells slots (MQ below (va_Qi post (qs_B g (qs_F g S0 sz)) (qs_F g S0 sz)) args s mc ms (qs_F g S0 sz)) (F0 m pc ls [.int v]) :=
  W.widen hc hs (W.iret hx hb hr (fun t ht hW => ⟨⟨v, S, rfl, hp, va_K.moved hW.alike hG.1, by rw [ht]; exact hG.2.1, hG.2.2.1⟩, hG.2.2.2.1.F ht⟩) hG.2.2.2.1.2.2 hdg hlocks)
theorem qe_z {v : Int32} {post : Int32 → qs_S → Prop} {S0 : qs_S} {sz : Nat} (hx : p.tables.exec = Jvm.exec) (hb : c.code = cc) (hr : meth.sig.returnType = some .boolean) (hlocks : meth.locks = false) (h01 : v = 0 ∨ v = 1) (hG : qs_Gd g (qs_F g S0 sz) s S H locs) (hp : post v S) (hc : cells ≤ mc) (hs : slots ≤ ms) (hdg : decode cc pc = .ok (.ireturn, 1)) :
    W p l e R s m args below meth c H locs cells slots (MQ below (va_Qi post (qs_B g (qs_F g S0 sz)) (qs_F g S0 sz)) args s mc ms (qs_F g S0 sz)) (F0 m pc ls [.int v]) :=
  W.widen hc hs (W.zret hx hb hr (qs_nar01 h01) (fun t ht hW => ⟨⟨v, S, rfl, hp, va_K.moved hW.alike hG.1, by rw [ht]; exact hG.2.1, hG.2.2.1⟩, hG.2.2.2.1.F ht⟩) hG.2.2.2.1.2.2 hdg hlocks)
theorem qe_v {post : qs_S → Prop} {S0 : qs_S} {sz : Nat} (hx : p.tables.exec = Jvm.exec) (hb : c.code = cc) (hr : meth.sig.returnType = none) (hlocks : meth.locks = false) (hG : qs_Gd g (qs_F g S0 sz) s S H locs) (hp : post S) (hc : cells ≤ mc) (hs : slots ≤ ms) (hdg : decode cc pc = .ok (.return_, 1)) :
    W p l e R s m args below meth c H locs cells slots (MQ below (va_Qv post (qs_B g (qs_F g S0 sz)) (qs_F g S0 sz)) args s mc ms (qs_F g S0 sz)) (F0 m pc ls []) :=
  W.widen hc hs (W.vret hx hb hr (fun t ht hW => ⟨⟨S, rfl, hp, va_K.moved hW.alike hG.1, by rw [ht]; exact hG.2.1, hG.2.2.1⟩, hG.2.2.2.1.F ht⟩) hG.2.2.2.1.2.2 hdg hlocks)
theorem qe_q {o : Option Nat} {v : Value} {rt : FieldType} {post : Option Nat → qs_S → Prop} {S0 : qs_S} {sz : Nat} (hx : p.tables.exec = Jvm.exec) (hb : c.code = cc) (hr : meth.sig.returnType = some rt) (hlocks : meth.locks = false) (hv : va_rf o = v) (hrt : (∃ n, rt = .object n) ∨ ∃ t, rt = .array t) (hG : qs_Gd g (qs_F g S0 sz) s S H locs) (hp : post o S) (hc : cells ≤ mc) (hs : slots ≤ ms) (hdg : decode cc pc = .ok (.areturn, 1)) :
    W p l e R s m args below meth c H locs cells slots (MQ below (va_Qq post (qs_B g (qs_F g S0 sz)) (qs_F g S0 sz)) args s mc ms (qs_F g S0 sz)) (F0 m pc ls [v]) :=
  W.widen hc hs (W.aret hx hb hr hrt (by rw [← hv]; exact va_rf_or o) (fun t ht hW => ⟨⟨o, S, by rw [hv], hp, va_K.moved hW.alike hG.1, by rw [ht]; exact hG.2.1, hG.2.2.1⟩, hG.2.2.2.1.F ht⟩) hG.2.2.2.1.2.2 hdg hlocks)
theorem qs_st {fl : List String} (h : l.flags = fl) (hz : fl.contains noTraceFlag = true) : l.stackTraces = false := by
  unfold Launch.stackTraces
  rw [h, hz]
  rfl
theorem qx_throw {S0 : qs_S} {sz : Nat} {px : String → qs_S → Prop} {Qc : Array Value → State → Outcome → State → Prop} (hx : p.tables.exec = Jvm.exec) (hb : c.code = cc) (hl : l.stackTraces = false) {cls text : String} {ik is ic : Nat} {Ts : List Cond} (hts : ∀ w ∈ Ts, w.before args s = true)
    (hown : s.vm.findClass "QuayMesh" = some m.cls) (hcls : Bundle.fit cls = true) (hcst : (cls, cls) ∈ qs_cast) (hst : ("QuayMesh", is, text) ∈ qs_str)
    (hk : (Cond.classLink "QuayMesh" ik cls).before args s = true) (hini : (Cond.initialized cls).before args s = true) (hgd : ∀ w ∈ (vx_atS "QuayMesh" ic cls ["java/lang/RuntimeException", "java/lang/Exception"]).filter goodWord, w ∈ Ts) (hbd : ∀ w ∈ (vx_atS "QuayMesh" ic cls ["java/lang/RuntimeException", "java/lang/Exception"]).filter (fun w => !goodWord w), w ∈ [Cond.castable cls cls, Cond.declares (Bundle.initS "java/lang/RuntimeException"), Cond.declares (Bundle.initS "java/lang/Exception"), Cond.declares (Bundle.initS "java/lang/Throwable")])
    (hgood : ∀ w ∈ Cond.classLink "QuayMesh" ik cls :: Cond.initialized cls :: vx_atS "QuayMesh" ic cls ["java/lang/RuntimeException", "java/lang/Exception"], vx_ot w = true)
    (hG : qs_Gd g (qs_F g S0 sz) s S H locs) (hsize : ls.size = c.maxLocals)
    (d0 : decode cc pc = .ok (.new ik, 3)) (d3 : decode cc (pc + 3) = .ok (.dup, 1)) (d4 : decode cc (pc + 4) = .ok (.ldc is, 2)) (d6 : decode cc (pc + 6) = .ok (.invokespecial ic, 3)) (d9 : decode cc (pc + 9) = .ok (.athrow, 1))
    (hout : ∀ x ∈ c.exceptionTable.toList, False) (hRf : 5 < R.frames) (hRl : (rest.map fun v => v.category).sum + (13 * 3 + 43) ≤ R.locals) (hRc : mc ≤ R.cells) (hRs : ms ≤ R.slots) (hlocks : meth.locks = false) (hpx : px cls S) (hc : cells + 1 ≤ mc) (hs : slots + 6 ≤ ms) :
    W p l e R s m args below meth c H locs cells slots (vx_MQ below Qc (qs_X g (qs_F g S0 sz) px) args s mc ms (qs_F g S0 sz)) (F0 m pc ls rest) := by
  have hE := hG.2.2.2.2.2
  obtain ⟨sa, hsa⟩ := hE.2.2.2.2.2.2.2.2.2 _ hst
  have hcs := va_Nw.use (A := args) rfl (hE.2.2.2.2.2.2.1 _ hcst)
  have hd : ∀ y, y ∈ qs_dec → (Cond.declares (Bundle.initS y)).before args s = true := fun y hy => va_Nw.use (A := args) rfl (hE.2.2.2.2.2.2.2.2.1.2 y hy)
  refine vx_throwS hx hb hl hown hcls (by decide +kernel) hk hini hsa (vx_hat (fun w hw => hts w (hgd w hw)) hbd (vx_c hcs (vx_c (hd "java/lang/RuntimeException" (by decide)) (vx_c (hd "java/lang/Exception" (by decide)) (vx_c (hd "java/lang/Throwable" (by decide)) vx_n))))) hgood hE.2.2.1 hE.2.2.2.1 hG.2.2.2.1 hsize d0 d3 d4 d6 d9 (fun x hx => (hout x hx).elim) hRf hRl (Nat.le_trans hc hRc) (Nat.le_trans hs hRs) hlocks (fun t hal hz hk => ?_) hG.2.2.2.1.2.2 hc hs
  have hkk : ∀ (k : Nat) (q : Nat × va_E), (qs_ws g S)[k]? = some q → t.heap[q.1]? = H[q.1]? := fun k q hq => hk q.1 (hG.2.1 k q hq).lt
  exact ⟨S, trivial, ⟨hpx, va_K.moved hal hG.1, hG.2.1.kept hkk, hG.2.2.1⟩, Nat.le_trans hG.2.2.2.1.1 hz, fun q h1 h2 => (hk q (Nat.lt_of_lt_of_le h1 hG.2.2.2.1.1)).trans (hG.2.2.2.1.2.1 q h1 h2)⟩
theorem qx_throwW {S0 : qs_S} {sz : Nat} {px : String → qs_S → Prop} {Qc : Array Value → State → Outcome → State → Prop} (hx : p.tables.exec = Jvm.exec) (hb : c.code = cc) (hl : l.stackTraces = false) {cls text : String} {ik is ic : Nat} {Ts : List Cond} (hts : ∀ w ∈ Ts, w.before args s = true)
    (hown : s.vm.findClass "QuayMesh" = some m.cls) (hcls : Bundle.fit cls = true) (hcst : (cls, cls) ∈ qs_cast) (hst : ("QuayMesh", is, text) ∈ qs_str)
    (hk : (Cond.classLink "QuayMesh" ik cls).before args s = true) (hini : (Cond.initialized cls).before args s = true) (hgd : ∀ w ∈ (vx_atS "QuayMesh" ic cls ["java/lang/RuntimeException", "java/lang/Exception"]).filter goodWord, w ∈ Ts) (hbd : ∀ w ∈ (vx_atS "QuayMesh" ic cls ["java/lang/RuntimeException", "java/lang/Exception"]).filter (fun w => !goodWord w), w ∈ [Cond.castable cls cls, Cond.declares (Bundle.initS "java/lang/RuntimeException"), Cond.declares (Bundle.initS "java/lang/Exception"), Cond.declares (Bundle.initS "java/lang/Throwable")])
    (hgood : ∀ w ∈ Cond.classLink "QuayMesh" ik cls :: Cond.initialized cls :: vx_atS "QuayMesh" ic cls ["java/lang/RuntimeException", "java/lang/Exception"], vx_ot w = true)
    (hG : qs_Gd g (qs_F g S0 sz) s S H locs) (hsize : ls.size = c.maxLocals)
    (d0 : decode cc pc = .ok (.new ik, 3)) (d3 : decode cc (pc + 3) = .ok (.dup, 1)) (d4 : decode cc (pc + 4) = .ok (.ldc_w is, 3)) (d6 : decode cc (pc + 7) = .ok (.invokespecial ic, 3)) (d9 : decode cc (pc + 10) = .ok (.athrow, 1))
    (hout : ∀ x ∈ c.exceptionTable.toList, False) (hRf : 5 < R.frames) (hRl : (rest.map fun v => v.category).sum + (13 * 3 + 43) ≤ R.locals) (hRc : mc ≤ R.cells) (hRs : ms ≤ R.slots) (hlocks : meth.locks = false) (hpx : px cls S) (hc : cells + 1 ≤ mc) (hs : slots + 6 ≤ ms) :
    W p l e R s m args below meth c H locs cells slots (vx_MQ below Qc (qs_X g (qs_F g S0 sz) px) args s mc ms (qs_F g S0 sz)) (F0 m pc ls rest) := by
  have hE := hG.2.2.2.2.2
  obtain ⟨sa, hsa⟩ := hE.2.2.2.2.2.2.2.2.2 _ hst
  have hcs := va_Nw.use (A := args) rfl (hE.2.2.2.2.2.2.1 _ hcst)
  have hd : ∀ y, y ∈ qs_dec → (Cond.declares (Bundle.initS y)).before args s = true := fun y hy => va_Nw.use (A := args) rfl (hE.2.2.2.2.2.2.2.2.1.2 y hy)
  refine vx_throwSW hx hb hl hown hcls (by decide +kernel) hk hini hsa (vx_hat (fun w hw => hts w (hgd w hw)) hbd (vx_c hcs (vx_c (hd "java/lang/RuntimeException" (by decide)) (vx_c (hd "java/lang/Exception" (by decide)) (vx_c (hd "java/lang/Throwable" (by decide)) vx_n))))) hgood hE.2.2.1 hE.2.2.2.1 hG.2.2.2.1 hsize d0 d3 d4 d6 d9 (fun x hx => (hout x hx).elim) hRf hRl (Nat.le_trans hc hRc) (Nat.le_trans hs hRs) hlocks (fun t hal hz hk => ?_) hG.2.2.2.1.2.2 hc hs
  have hkk : ∀ (k : Nat) (q : Nat × va_E), (qs_ws g S)[k]? = some q → t.heap[q.1]? = H[q.1]? := fun k q hq => hk q.1 (hG.2.1 k q hq).lt
  exact ⟨S, trivial, ⟨hpx, va_K.moved hal hG.1, hG.2.1.kept hkk, hG.2.2.1⟩, Nat.le_trans hG.2.2.2.1.1 hz, fun q h1 h2 => (hk q (Nat.lt_of_lt_of_le h1 hG.2.2.2.1.1)).trans (hG.2.2.2.1.2.1 q h1 h2)⟩
end QSC
end
section
/-- facts about old cells beside a new one -/
theorem qs_nwL {S : qs_S} {a q ci : Nat} (h : a ∈ qs_L S) : a ∈ qs_L (qs_nw S q ci) := List.mem_append_left _ h
theorem qs_nwN {S : qs_S} {q ci : Nat} : q ∈ qs_L (qs_nw S q ci) := List.mem_append_right _ List.mem_cons_self
theorem qs_nwM {S : qs_S} {q ci : Nat} : qs_K (qs_nw S q ci) q = ci := if_pos rfl
theorem qs_nwE {S : qs_S} {a q ci : Nat} (hq : q ∉ qs_L S) (h : a ∈ qs_L S) : qs_K (qs_nw S q ci) a = qs_K S a := if_neg (fun z : a = q => hq (z ▸ h))
theorem qs_nwK {S : qs_S} {a q ci k : Nat} (hq : q ∉ qs_L S) (h : a ∈ qs_L S) (hk : qs_K S a = k) : qs_K (qs_nw S q ci) a = k := (qs_nwE hq h).trans hk
theorem qs_nwKW {S : qs_S} {a q ci : Nat} (hq : q ∉ qs_L S) (h : a ∈ qs_L S) (hk : qs_K S a = 2 ∨ qs_K S a = 5) : qs_K (qs_nw S q ci) a = 2 ∨ qs_K (qs_nw S q ci) a = 5 := by rw [qs_nwE hq h]; exact hk
theorem qs_nwK8 {S : qs_S} {a q ci : Nat} (hq : q ∉ qs_L S) (h : a ∈ qs_L S) (hk : qs_K S a < 8) : qs_K (qs_nw S q ci) a < 8 := by rw [qs_nwE hq h]; exact hk
theorem qs_nAL {S : qs_S} {a q ci n : Nat} (h : a ∈ qs_L S) : a ∈ qs_L (qs_nA S q ci n) := List.mem_append_left _ h
theorem qs_nAN {S : qs_S} {q ci n : Nat} : q ∈ qs_L (qs_nA S q ci n) := List.mem_append_right _ List.mem_cons_self
theorem qs_nAM {S : qs_S} {q ci n : Nat} : qs_K (qs_nA S q ci n) q = ci := if_pos rfl
theorem qs_nAE {S : qs_S} {a q ci n : Nat} (hq : q ∉ qs_L S) (h : a ∈ qs_L S) : qs_K (qs_nA S q ci n) a = qs_K S a := if_neg (fun z : a = q => hq (z ▸ h))
theorem qs_nAK {S : qs_S} {a q ci n k : Nat} (hq : q ∉ qs_L S) (h : a ∈ qs_L S) (hk : qs_K S a = k) : qs_K (qs_nA S q ci n) a = k := (qs_nAE hq h).trans hk
theorem qs_nAKW {S : qs_S} {a q ci n : Nat} (hq : q ∉ qs_L S) (h : a ∈ qs_L S) (hk : qs_K S a = 2 ∨ qs_K S a = 5) : qs_K (qs_nA S q ci n) a = 2 ∨ qs_K (qs_nA S q ci n) a = 5 := by rw [qs_nAE hq h]; exact hk
theorem qs_nAK8 {S : qs_S} {a q ci n : Nat} (hq : q ∉ qs_L S) (h : a ∈ qs_L S) (hk : qs_K S a < 8) : qs_K (qs_nA S q ci n) a < 8 := by rw [qs_nAE hq h]; exact hk
def qs_f0 (ci : Nat) : List Value := (qs_fk ci).map (fun b => if b = true then .null else .int 0)
theorem qs_fs_nw {S : qs_S} {q ci : Nat} : qs_fs (qs_nw S q ci) q ci = qs_f0 ci := by
  refine List.ext_getElem? (fun j => ?_)
  unfold qs_fs qs_f0
  rw [List.getElem?_mapIdx, List.getElem?_map]
  congr 1
  funext b
  cases b
  · show Value.int (if q = q then 0 else qs_I S j q) = Value.int 0
    rw [if_pos rfl]
  · show va_rf (if q = q then none else qs_R S j q) = Value.null
    rw [if_pos rfl]
    rfl
theorem hf9_0 : ∀ (S : qs_S) (q : Nat) (j : Nat), j < 3 → defaultValue (tyJx4a65c j) = vp_V (qs_fs (qs_nw S q 0) q 0) j := by
  intro S q j hj
  rw [qs_fs_nw]
  rcases (show j = 0 ∨ j = 1 ∨ j = 2 by omega) with rfl | rfl | rfl <;> rfl
theorem hf9_1 : ∀ (S : qs_S) (q : Nat) (j : Nat), j < 8 → defaultValue (tyX0 j) = vp_V (qs_fs (qs_nw S q 1) q 1) j := by
  intro S q j hj
  rw [qs_fs_nw]
  rcases (show j = 0 ∨ j = 1 ∨ j = 2 ∨ j = 3 ∨ j = 4 ∨ j = 5 ∨ j = 6 ∨ j = 7 by omega) with rfl | rfl | rfl | rfl | rfl | rfl | rfl | rfl <;> rfl
theorem hf9_2 : ∀ (S : qs_S) (q : Nat) (j : Nat), j < 8 → defaultValue (tyX1 j) = vp_V (qs_fs (qs_nw S q 2) q 2) j := by
  intro S q j hj
  rw [qs_fs_nw]
  rcases (show j = 0 ∨ j = 1 ∨ j = 2 ∨ j = 3 ∨ j = 4 ∨ j = 5 ∨ j = 6 ∨ j = 7 by omega) with rfl | rfl | rfl | rfl | rfl | rfl | rfl | rfl <;> rfl
theorem hf9_3 : ∀ (S : qs_S) (q : Nat) (j : Nat), j < 7 → defaultValue (tyX2 j) = vp_V (qs_fs (qs_nw S q 3) q 3) j := by
  intro S q j hj
  rw [qs_fs_nw]
  rcases (show j = 0 ∨ j = 1 ∨ j = 2 ∨ j = 3 ∨ j = 4 ∨ j = 5 ∨ j = 6 by omega) with rfl | rfl | rfl | rfl | rfl | rfl | rfl <;> rfl
theorem hf9_4 : ∀ (S : qs_S) (q : Nat) (j : Nat), j < 3 → defaultValue (tyX3 j) = vp_V (qs_fs (qs_nw S q 4) q 4) j := by
  intro S q j hj
  rw [qs_fs_nw]
  rcases (show j = 0 ∨ j = 1 ∨ j = 2 by omega) with rfl | rfl | rfl <;> rfl
theorem hf9_5 : ∀ (S : qs_S) (q : Nat) (j : Nat), j < 8 → defaultValue (tyX4 j) = vp_V (qs_fs (qs_nw S q 5) q 5) j := by
  intro S q j hj
  rw [qs_fs_nw]
  rcases (show j = 0 ∨ j = 1 ∨ j = 2 ∨ j = 3 ∨ j = 4 ∨ j = 5 ∨ j = 6 ∨ j = 7 by omega) with rfl | rfl | rfl | rfl | rfl | rfl | rfl | rfl <;> rfl
theorem hf9_6 : ∀ (S : qs_S) (q : Nat) (j : Nat), j < 8 → defaultValue (tyX6 j) = vp_V (qs_fs (qs_nw S q 6) q 6) j := by
  intro S q j hj
  rw [qs_fs_nw]
  rcases (show j = 0 ∨ j = 1 ∨ j = 2 ∨ j = 3 ∨ j = 4 ∨ j = 5 ∨ j = 6 ∨ j = 7 by omega) with rfl | rfl | rfl | rfl | rfl | rfl | rfl | rfl <;> rfl
theorem hf9_7 : ∀ (S : qs_S) (q : Nat) (j : Nat), j < 35 → defaultValue (tyX7 j) = vp_V (qs_fs (qs_nw S q 7) q 7) j := by
  intro S q j hj
  rw [qs_fs_nw]
  rcases (show j = 0 ∨ j = 1 ∨ j = 2 ∨ j = 3 ∨ j = 4 ∨ j = 5 ∨ j = 6 ∨ j = 7 ∨ j = 8 ∨ j = 9 ∨ j = 10 ∨ j = 11 ∨ j = 12 ∨ j = 13 ∨ j = 14 ∨ j = 15 ∨ j = 16 ∨ j = 17 ∨ j = 18 ∨ j = 19 ∨ j = 20 ∨ j = 21 ∨ j = 22 ∨ j = 23 ∨ j = 24 ∨ j = 25 ∨ j = 26 ∨ j = 27 ∨ j = 28 ∨ j = 29 ∨ j = 30 ∨ j = 31 ∨ j = 32 ∨ j = 33 ∨ j = 34 by omega) with rfl | rfl | rfl | rfl | rfl | rfl | rfl | rfl | rfl | rfl | rfl | rfl | rfl | rfl | rfl | rfl | rfl | rfl | rfl | rfl | rfl | rfl | rfl | rfl | rfl | rfl | rfl | rfl | rfl | rfl | rfl | rfl | rfl | rfl | rfl <;> rfl
theorem qt_bd_IAE : ∀ w ∈ (vx_atS "QuayMesh" 59 "java/lang/IllegalArgumentException" ["java/lang/RuntimeException", "java/lang/Exception"]).filter (fun w => !goodWord w), w ∈ [Cond.castable "java/lang/IllegalArgumentException" "java/lang/IllegalArgumentException", Cond.declares (Bundle.initS "java/lang/RuntimeException"), Cond.declares (Bundle.initS "java/lang/Exception"), Cond.declares (Bundle.initS "java/lang/Throwable")] := by decide +kernel
theorem qt_gd_IAE : ∀ w ∈ Cond.classLink "QuayMesh" 55 "java/lang/IllegalArgumentException" :: Cond.initialized "java/lang/IllegalArgumentException" :: vx_atS "QuayMesh" 59 "java/lang/IllegalArgumentException" ["java/lang/RuntimeException", "java/lang/Exception"], vx_ot w = true := by decide +kernel
theorem qt_bd_ISE : ∀ w ∈ (vx_atS "QuayMesh" 74 "java/lang/IllegalStateException" ["java/lang/RuntimeException", "java/lang/Exception"]).filter (fun w => !goodWord w), w ∈ [Cond.castable "java/lang/IllegalStateException" "java/lang/IllegalStateException", Cond.declares (Bundle.initS "java/lang/RuntimeException"), Cond.declares (Bundle.initS "java/lang/Exception"), Cond.declares (Bundle.initS "java/lang/Throwable")] := by decide +kernel
theorem qt_gd_ISE : ∀ w ∈ Cond.classLink "QuayMesh" 70 "java/lang/IllegalStateException" :: Cond.initialized "java/lang/IllegalStateException" :: vx_atS "QuayMesh" 74 "java/lang/IllegalStateException" ["java/lang/RuntimeException", "java/lang/Exception"], vx_ot w = true := by decide +kernel
theorem qt_bd_IOB : ∀ w ∈ (vx_atS "QuayMesh" 131 "java/lang/IndexOutOfBoundsException" ["java/lang/RuntimeException", "java/lang/Exception"]).filter (fun w => !goodWord w), w ∈ [Cond.castable "java/lang/IndexOutOfBoundsException" "java/lang/IndexOutOfBoundsException", Cond.declares (Bundle.initS "java/lang/RuntimeException"), Cond.declares (Bundle.initS "java/lang/Exception"), Cond.declares (Bundle.initS "java/lang/Throwable")] := by decide +kernel
theorem qt_gd_IOB : ∀ w ∈ Cond.classLink "QuayMesh" 127 "java/lang/IndexOutOfBoundsException" :: Cond.initialized "java/lang/IndexOutOfBoundsException" :: vx_atS "QuayMesh" 131 "java/lang/IndexOutOfBoundsException" ["java/lang/RuntimeException", "java/lang/Exception"], vx_ot w = true := by decide +kernel
section QSM
variable {p : Program} {l : Launch} {e : Env} {R : Room} {s : State} {m : MethodId} {args : Array Value} {below : List Frame} {meth : Method} {c : Code} {H : Heap} {locs : List Loc} {cells slots : Nat} {Q : State → Prop}
variable {cc : ByteArray} {pc : Nat} {ls : Array Slot} {rest : List Value} {g : qs_G} {A : Nat → Prop} {S : qs_S} {a : Nat}
theorem qs_Gd.recvO (hG : qs_Gd g A s S H locs) (hL : a ∈ qs_L S) (hk : qs_K S a = 10) : ∃ cell : Cell, H[a]? = some cell ∧ cell.vm.isStatics = false ∧ s.vm.findClass "[Ljava/lang/Object;" = some cell.cls := by
  obtain ⟨i, hz⟩ := qs_at g hL
  rw [qs_e10 g hk] at hz
  exact ⟨_, hG.2.1 i _ hz, rfl, va_nmO (hG.1.2 2 (g.2.2.2.1, .object "java/lang/Object") rfl).2 rfl⟩
theorem qr_getW (hx : p.tables.exec = Jvm.exec) (hb : c.code = cc) {own ref : String} {index : Nat} {Ts : List Cond} (hts : ∀ w ∈ Ts, w.before args s = true) (in2 : ∀ w ∈ u_ws RX1 TX1 8, w ∈ Ts) (in5 : ∀ w ∈ u_ws RX4 TX4 8, w ∈ Ts) (hown : s.vm.findClass own = some m.cls) (hG : qs_Gd g A s S H locs) (hL : a ∈ qs_L S) (hk : qs_K S a = 2 ∨ qs_K S a = 5) (k : Nat) (hkN : k < 8) {b : Bool} (hfk : (qs_fk 2)[k]? = some b) (hT : TX1 k = TX4 k ∧ (qs_fk 5)[k]? = (qs_fk 2)[k]?) (hlink : (Cond.fieldLink own index ref (TX1 k).2.1 (TX1 k).2.2.1).before args s = true) (hs2 : ∀ x, s.fieldFound? (TX1 k).1 (TX1 k).2.1 (TX1 k).2.2.1 = some x → s.fieldFound? ref (TX1 k).2.1 (TX1 k).2.2.1 = some x) (hs5 : ∀ x, s.fieldFound? (TX4 k).1 (TX4 k).2.1 (TX4 k).2.2.1 = some x → s.fieldFound? ref (TX4 k).2.1 (TX4 k).2.2.1 = some x) {v : Value} (hv : qs_fv S a k b = v) (hdg : decode cc pc = .ok (.getfield index, 3))
    (kk : W p l e R s m args below meth c H locs cells slots Q (F0 m (pc + 3) ls (v :: rest))) : W p l e R s m args below meth c H locs cells slots Q (F0 m pc ls (.ref a :: rest)) := by
  rcases hk with hk | hk
  · exact qr_get (C := RX1) (T := TX1) (N := 8) (ci := 2) hx hb hts in2 hown hG hL hk (by decide) rfl k hkN hfk hlink hs2 hv hdg kk
  · exact qr_get (C := RX4) (T := TX4) (N := 8) (ci := 5) hx hb hts in5 hown hG hL hk (by decide) rfl k hkN (hT.2.trans hfk) (by rw [← hT.1]; exact hlink) hs5 hv hdg kk
theorem qr_putIW (hx : p.tables.exec = Jvm.exec) (hb : c.code = cc) {own ref : String} {index : Nat} {Ts : List Cond} (hts : ∀ w ∈ Ts, w.before args s = true) (in2 : ∀ w ∈ u_ws RX1 TX1 8, w ∈ Ts) (in5 : ∀ w ∈ u_ws RX4 TX4 8, w ∈ Ts) (hown : s.vm.findClass own = some m.cls) (hG : qs_Gd g A s S H locs) (hL : a ∈ qs_L S) (hk : qs_K S a = 2 ∨ qs_K S a = 5) (k : Nat) (hkN : k < 8) (hfk : (qs_fk 2)[k]? = some false) (hT : TX1 k = TX4 k ∧ (qs_fk 5)[k]? = (qs_fk 2)[k]?) (hlink : (Cond.fieldLink own index ref (TX1 k).2.1 (TX1 k).2.2.1).before args s = true) (hs2 : ∀ x, s.fieldFound? (TX1 k).1 (TX1 k).2.1 (TX1 k).2.2.1 = some x → s.fieldFound? ref (TX1 k).2.1 (TX1 k).2.2.1 = some x) (hs5 : ∀ x, s.fieldFound? (TX4 k).1 (TX4 k).2.1 (TX4 k).2.2.1 = some x → s.fieldFound? ref (TX4 k).2.1 (TX4 k).2.2.1 = some x) (hfin : (TX1 k).2.2.2 = false) {ty : FieldType} {x : Int32} (hd : parseFieldDescriptor (TX1 k).2.2.1 = some ty) (hn : narrow ty (.int x) = .int x) (hfit : fits ty (.int x) = true) (hdg : decode cc pc = .ok (.putfield index, 3))
    (kk : ∀ (H1 : Heap) (locs1 : List Loc), qs_Gd g A s (qs_wI S k a x) H1 locs1 → W p l e R s m args below meth c H1 locs1 cells slots Q (F0 m (pc + 3) ls rest)) : W p l e R s m args below meth c H locs cells slots Q (F0 m pc ls (.int x :: .ref a :: rest)) := by
  rcases hk with hk | hk
  · exact qr_putI (C := RX1) (T := TX1) (N := 8) (ci := 2) hx hb hts in2 tyX1 tyX1_ok nmX1 hown hG hL hk (by decide) rfl k hkN hfk hlink hs2 hfin hd hn hfit hdg kk
  · exact qr_putI (C := RX4) (T := TX4) (N := 8) (ci := 5) hx hb hts in5 tyX4 tyX4_ok nmX4 hown hG hL hk (by decide) rfl k hkN (hT.2.trans hfk) (by rw [← hT.1]; exact hlink) hs5 (by rw [← hT.1]; exact hfin) (by rw [← hT.1]; exact hd) hn hfit hdg kk
theorem qr_putIWF (hx : p.tables.exec = Jvm.exec) (hb : c.code = cc) {own ref : String} {index : Nat} {Ts : List Cond} (hts : ∀ w ∈ Ts, w.before args s = true) (in2 : ∀ w ∈ u_ws RX1 TX1 8, w ∈ Ts) (in5 : ∀ w ∈ u_ws RX4 TX4 8, w ∈ Ts) (hown : s.vm.findClass own = some m.cls) (hG : qs_Gd g A s S H locs) (hL : a ∈ qs_L S) (hk : qs_K S a = 2 ∨ qs_K S a = 5) (k : Nat) (hkN : k < 8) (hfk : (qs_fk 2)[k]? = some false) (hT : TX1 k = TX4 k ∧ (qs_fk 5)[k]? = (qs_fk 2)[k]?) (hlink : (Cond.fieldLink own index ref (TX1 k).2.1 (TX1 k).2.2.1).before args s = true) (hs2 : ∀ x, s.fieldFound? (TX1 k).1 (TX1 k).2.1 (TX1 k).2.2.1 = some x → s.fieldFound? ref (TX1 k).2.1 (TX1 k).2.2.1 = some x) (hs5 : ∀ x, s.fieldFound? (TX4 k).1 (TX4 k).2.1 (TX4 k).2.2.1 = some x → s.fieldFound? ref (TX4 k).2.1 (TX4 k).2.2.1 = some x) (hfin : (TX1 k).2.2.2 = true) (hin2 : meth.name = "<init>") (hdecl : (TX1 k).1 = own) {ty : FieldType} {x : Int32} (hd : parseFieldDescriptor (TX1 k).2.2.1 = some ty) (hn : narrow ty (.int x) = .int x) (hfit : fits ty (.int x) = true) (hdg : decode cc pc = .ok (.putfield index, 3))
    (kk : ∀ (H1 : Heap) (locs1 : List Loc), qs_Gd g A s (qs_wI S k a x) H1 locs1 → W p l e R s m args below meth c H1 locs1 cells slots Q (F0 m (pc + 3) ls rest)) : W p l e R s m args below meth c H locs cells slots Q (F0 m pc ls (.int x :: .ref a :: rest)) := by
  rcases hk with hk | hk
  · exact qr_putIF (C := RX1) (T := TX1) (N := 8) (ci := 2) hx hb hts in2 tyX1 tyX1_ok nmX1 hown hG hL hk (by decide) rfl k hkN hfk hlink hs2 hfin hin2 hdecl hd hn hfit hdg kk
  · exact qr_putIF (C := RX4) (T := TX4) (N := 8) (ci := 5) hx hb hts in5 tyX4 tyX4_ok nmX4 hown hG hL hk (by decide) rfl k hkN (hT.2.trans hfk) (by rw [← hT.1]; exact hlink) hs5 (by rw [← hT.1]; exact hfin) hin2 (by rw [← hT.1]; exact hdecl) (by rw [← hT.1]; exact hd) hn hfit hdg kk
theorem qr_putRW (hx : p.tables.exec = Jvm.exec) (hb : c.code = cc) {own ref : String} {index : Nat} {Ts : List Cond} (hts : ∀ w ∈ Ts, w.before args s = true) (in2 : ∀ w ∈ u_ws RX1 TX1 8, w ∈ Ts) (in5 : ∀ w ∈ u_ws RX4 TX4 8, w ∈ Ts) (hown : s.vm.findClass own = some m.cls) (hG : qs_Gd g A s S H locs) (hL : a ∈ qs_L S) (hk : qs_K S a = 2 ∨ qs_K S a = 5) (k : Nat) (hkN : k < 8) (hfk : (qs_fk 2)[k]? = some true) (hT : TX1 k = TX4 k ∧ (qs_fk 5)[k]? = (qs_fk 2)[k]?) (hlink : (Cond.fieldLink own index ref (TX1 k).2.1 (TX1 k).2.2.1).before args s = true) (hs2 : ∀ x, s.fieldFound? (TX1 k).1 (TX1 k).2.1 (TX1 k).2.2.1 = some x → s.fieldFound? ref (TX1 k).2.1 (TX1 k).2.2.1 = some x) (hs5 : ∀ x, s.fieldFound? (TX4 k).1 (TX4 k).2.1 (TX4 k).2.2.1 = some x → s.fieldFound? ref (TX4 k).2.1 (TX4 k).2.2.1 = some x) (hfin : (TX1 k).2.2.2 = false) {ty : FieldType} {x : Option Nat} {v : Value} (hv : va_rf x = v) (hd : parseFieldDescriptor (TX1 k).2.2.1 = some ty) (hn : narrow ty (v) = v) (hfit : fits ty (v) = true) (hdg : decode cc pc = .ok (.putfield index, 3))
    (kk : ∀ (H1 : Heap) (locs1 : List Loc), qs_Gd g A s (qs_wR S k a x) H1 locs1 → W p l e R s m args below meth c H1 locs1 cells slots Q (F0 m (pc + 3) ls rest)) : W p l e R s m args below meth c H locs cells slots Q (F0 m pc ls (v :: .ref a :: rest)) := by
  rcases hk with hk | hk
  · exact qr_putR (C := RX1) (T := TX1) (N := 8) (ci := 2) hx hb hts in2 tyX1 tyX1_ok nmX1 hown hG hL hk (by decide) rfl k hkN hfk hlink hs2 hfin hv hd hn hfit hdg kk
  · exact qr_putR (C := RX4) (T := TX4) (N := 8) (ci := 5) hx hb hts in5 tyX4 tyX4_ok nmX4 hown hG hL hk (by decide) rfl k hkN (hT.2.trans hfk) (by rw [← hT.1]; exact hlink) hs5 (by rw [← hT.1]; exact hfin) hv (by rw [← hT.1]; exact hd) hn hfit hdg kk
theorem qr_putRWF (hx : p.tables.exec = Jvm.exec) (hb : c.code = cc) {own ref : String} {index : Nat} {Ts : List Cond} (hts : ∀ w ∈ Ts, w.before args s = true) (in2 : ∀ w ∈ u_ws RX1 TX1 8, w ∈ Ts) (in5 : ∀ w ∈ u_ws RX4 TX4 8, w ∈ Ts) (hown : s.vm.findClass own = some m.cls) (hG : qs_Gd g A s S H locs) (hL : a ∈ qs_L S) (hk : qs_K S a = 2 ∨ qs_K S a = 5) (k : Nat) (hkN : k < 8) (hfk : (qs_fk 2)[k]? = some true) (hT : TX1 k = TX4 k ∧ (qs_fk 5)[k]? = (qs_fk 2)[k]?) (hlink : (Cond.fieldLink own index ref (TX1 k).2.1 (TX1 k).2.2.1).before args s = true) (hs2 : ∀ x, s.fieldFound? (TX1 k).1 (TX1 k).2.1 (TX1 k).2.2.1 = some x → s.fieldFound? ref (TX1 k).2.1 (TX1 k).2.2.1 = some x) (hs5 : ∀ x, s.fieldFound? (TX4 k).1 (TX4 k).2.1 (TX4 k).2.2.1 = some x → s.fieldFound? ref (TX4 k).2.1 (TX4 k).2.2.1 = some x) (hfin : (TX1 k).2.2.2 = true) (hin2 : meth.name = "<init>") (hdecl : (TX1 k).1 = own) {ty : FieldType} {x : Option Nat} {v : Value} (hv : va_rf x = v) (hd : parseFieldDescriptor (TX1 k).2.2.1 = some ty) (hn : narrow ty (v) = v) (hfit : fits ty (v) = true) (hdg : decode cc pc = .ok (.putfield index, 3))
    (kk : ∀ (H1 : Heap) (locs1 : List Loc), qs_Gd g A s (qs_wR S k a x) H1 locs1 → W p l e R s m args below meth c H1 locs1 cells slots Q (F0 m (pc + 3) ls rest)) : W p l e R s m args below meth c H locs cells slots Q (F0 m pc ls (v :: .ref a :: rest)) := by
  rcases hk with hk | hk
  · exact qr_putRF (C := RX1) (T := TX1) (N := 8) (ci := 2) hx hb hts in2 tyX1 tyX1_ok nmX1 hown hG hL hk (by decide) rfl k hkN hfk hlink hs2 hfin hin2 hdecl hv hd hn hfit hdg kk
  · exact qr_putRF (C := RX4) (T := TX4) (N := 8) (ci := 5) hx hb hts in5 tyX4 tyX4_ok nmX4 hown hG hL hk (by decide) rfl k hkN (hT.2.trans hfk) (by rw [← hT.1]; exact hlink) hs5 (by rw [← hT.1]; exact hfin) hin2 (by rw [← hT.1]; exact hdecl) hv (by rw [← hT.1]; exact hd) hn hfit hdg kk
end QSM
end
section
def wp_Jx4a65c_size_8abf5 (t0 m9 : Nat) (post : Int32 → qs_S → Prop) (SA : qs_S) (a0z : Nat) : Prop := (a0z ∈ qs_L SA ∧ qs_K SA a0z = 0) ∧ (∀ v3 : Int32, v3 = qs_I SA 2 a0z → post v3 SA)
set_option maxHeartbeats 4000000 in
set_option maxRecDepth 100000 in
theorem c_Jx4a65c_size_8abf5 (l : Launch) (g : qs_G) (sz : Nat) (SA : qs_S) (a0z : Nat) {post : Int32 → qs_S → Prop} (h : wp_Jx4a65c_size_8abf5 g.2.2.2.2.2.2.1 g.2.2.2.2.2.2.2 post SA a0z) : Met l yJx4a65c_size_8abf5 wsJx4a65c_size_8abf5 ({ frames := 0, cells := 0, slots := 0, locals := 0 } : Room) (qs_Pc g sz SA [.ref a0z]) (qs_Qi g (qs_F g SA sz) post) 0 0 (qs_F g SA sz) := by
  refine Met.ofW (cc := cJx4a65c_size_8abf5) (maxL := 1) (ret := (some .int)) (by decide +kernel) rfl ?_
  intro p e s m args below meth c s₁ B hml hv
  obtain ⟨rfl, hsz, hG⟩ := qs_Gd.start hv
  subst hsz
  have hx := B.exec
  have hb := B.bytes
  have hr := B.returns
  have hts := atoms_spec (ws := wsJx4a65c_size_8abf5) B.pre
  have hown : s.vm.findClass RJx4a65c = some m.cls := findClass_of_methodNamed B.named
  have hlk := B.notSynchronized
  have in0 : ∀ w ∈ u_ws RJx4a65c TJx4a65c 3, w ∈ wsJx4a65c_size_8abf5 := fun w h => List.mem_cons_of_mem _ (List.mem_append_right _ (h))
  have hl := lv_entry ([.ref a0z]) (n := 1) (Nat.le_of_ble_eq_true rfl)
  rw [lg_entry_eq]
  generalize (lg_sl ([.ref a0z]) ++ List.replicate (1 - (lg_sl ([.ref a0z])).length) Slot.unset).toArray = ls at hl ⊢
  have hl : lv_has ls 1 [(0, .ref a0z)] := hl
  unfold wp_Jx4a65c_size_8abf5 at h
  refine lv_aload_n hx hb dJx4a65c_size_8abf5_0 rfl (lv_at hl 0 rfl) ?_
  obtain ⟨⟨hL1, hK2⟩, h⟩ := h
  refine qr_get (C := RJx4a65c) (T := TJx4a65c) (N := 3) (ci := 0) hx hb hts in0 hown hG hL1 hK2 (by decide) rfl 2 (by decide) rfl (hts (.fieldLink RJx4a65c 48 "java/util/ArrayList" "size" "I") (List.mem_of_getElem? (i := 1) rfl)) (fun _ h9 => h9) (v := .int (qs_I SA 2 a0z)) rfl dJx4a65c_size_8abf5_1 ?_
  refine lv_topi (fun v3 ev3 => ?_)
  have h := h v3 ev3
  exact qe_i hx hb hr hlk hG h (Nat.le_refl _) (Nat.le_refl _) dJx4a65c_size_8abf5_4
def wp_J3_checkIndex_8e157_b9 (t0 m9 : Nat) (post : Int32 → qs_S → Prop) (S : qs_S) (x0 : Int32) (x1 : Int32) : Prop := False
def wp_J3_checkIndex_8e157 (t0 m9 : Nat) (post : Int32 → qs_S → Prop) (SA : qs_S) (x0z : Int32) (x1z : Int32) : Prop := (x0z < 0 → (wp_J3_checkIndex_8e157_b9 t0 m9 post SA x0z x1z)) ∧ (¬ x0z < 0 → ((x0z < x1z → (post x0z SA)) ∧ (¬ x0z < x1z → (wp_J3_checkIndex_8e157_b9 t0 m9 post SA x0z x1z))))
set_option maxHeartbeats 4000000 in
set_option maxRecDepth 100000 in
theorem c_J3_checkIndex_8e157 (l : Launch) (g : qs_G) (sz : Nat) (SA : qs_S) (x0z : Int32) (x1z : Int32) {post : Int32 → qs_S → Prop} (h : wp_J3_checkIndex_8e157 g.2.2.2.2.2.2.1 g.2.2.2.2.2.2.2 post SA x0z x1z) : Met l yJ3_checkIndex_8e157 wsJ3_checkIndex_8e157 ({ frames := 0, cells := 0, slots := 0, locals := 0 } : Room) (qs_Pc g sz SA [.int x0z, .int x1z, .null]) (qs_Qi g (qs_F g SA sz) post) 0 0 (qs_F g SA sz) := by
  refine Met.ofW (cc := cJ3_checkIndex_8e157) (maxL := 3) (ret := (some .int)) (by decide +kernel) rfl ?_
  intro p e s m args below meth c s₁ B hml hv
  obtain ⟨rfl, hsz, hG⟩ := qs_Gd.start hv
  subst hsz
  have hx := B.exec
  have hb := B.bytes
  have hr := B.returns
  have hts := atoms_spec (ws := wsJ3_checkIndex_8e157) B.pre
  have hown : s.vm.findClass RJ3 = some m.cls := findClass_of_methodNamed B.named
  have hlk := B.notSynchronized
  have b9 : ∀ (S : qs_S) (x0 : Int32) (x1 : Int32) (H : Heap) (locs : List Loc) (ls : Array Slot), wp_J3_checkIndex_8e157_b9 g.2.2.2.2.2.2.1 g.2.2.2.2.2.2.2 post S x0 x1 → qs_Gd g (qs_F g SA s.heap.size) s S H locs → lv_has ls 3 [(0, .int x0), (1, .int x1), (2, .null)] → W p l e (headSpec wsJ3_checkIndex_8e157 ({ frames := 0, cells := 0, slots := 0, locals := 0 } : Room)).room s m (([.int x0z, .int x1z, .null] : List Value)).toArray below meth c H locs 0 0 (MQ below (qs_Qi g (qs_F g SA s.heap.size) post) (([.int x0z, .int x1z, .null] : List Value)).toArray s 0 0 (qs_F g SA s.heap.size)) (F0 m 9 ls []) := by
    intro S x0 x1 H locs ls h hG hl
    unfold wp_J3_checkIndex_8e157_b9 at h
    refine lv_aload_nN hx hb dJ3_checkIndex_8e157_9 rfl (lv_at hl 2 rfl) ?_
    refine lv_iload_n hx hb dJ3_checkIndex_8e157_10 rfl (lv_at hl 0 rfl) ?_
    refine lv_iload_n hx hb dJ3_checkIndex_8e157_11 rfl (lv_at hl 1 rfl) ?_
    exact h.elim
  have hl := lv_entry ([.int x0z, .int x1z, .null]) (n := 3) (Nat.le_of_ble_eq_true rfl)
  rw [lg_entry_eq]
  generalize (lg_sl ([.int x0z, .int x1z, .null]) ++ List.replicate (3 - (lg_sl ([.int x0z, .int x1z, .null])).length) Slot.unset).toArray = ls at hl ⊢
  have hl : lv_has ls 3 [(0, .int x0z), (1, .int x1z), (2, .null)] := hl
  unfold wp_J3_checkIndex_8e157 at h
  refine lv_iload_n hx hb dJ3_checkIndex_8e157_0 rfl (lv_at hl 0 rfl) ?_
  refine lv_if_lt (tgt := 9) hx hb dJ3_checkIndex_8e157_1 (by decide) (fun c1 => ?_) (fun c1 => ?_)
  · have h := h.1 c1
    exact b9 SA x0z x1z _ _ ls h hG (lv_sub hl [0, 1, 2] rfl)
  · have h := h.2 c1
    refine lv_iload_n hx hb dJ3_checkIndex_8e157_4 rfl (lv_at hl 0 rfl) ?_
    refine lv_iload_n hx hb dJ3_checkIndex_8e157_5 rfl (lv_at hl 1 rfl) ?_
    refine lv_icmp_lt (tgt := 16) hx hb dJ3_checkIndex_8e157_6 (by decide) (fun c2 => ?_) (fun c2 => ?_)
    · have h := h.1 c2
      refine lv_iload_n hx hb dJ3_checkIndex_8e157_16 rfl (lv_at hl 0 rfl) ?_
      exact qe_i hx hb hr hlk hG h (Nat.le_refl _) (Nat.le_refl _) dJ3_checkIndex_8e157_17
    · have h := h.2 c2
      exact b9 SA x0z x1z _ _ ls h hG (lv_sub hl [0, 1, 2] rfl)
def wp_J15_checkIndex_7cf53 (t0 m9 : Nat) (post : Int32 → qs_S → Prop) (SA : qs_S) (x0z : Int32) (x1z : Int32) : Prop := wp_J3_checkIndex_8e157 t0 m9 (fun (v4 : Int32) (S3 : qs_S) => post v4 S3) SA x0z x1z
set_option maxHeartbeats 4000000 in
set_option maxRecDepth 100000 in
theorem c_J15_checkIndex_7cf53 (l : Launch) (g : qs_G) (sz : Nat) (SA : qs_S) (x0z : Int32) (x1z : Int32) {post : Int32 → qs_S → Prop} (h : wp_J15_checkIndex_7cf53 g.2.2.2.2.2.2.1 g.2.2.2.2.2.2.2 post SA x0z x1z) : Met l yJ15_checkIndex_7cf53 wsJ15_checkIndex_7cf53 ({ frames := 1, cells := 0, slots := 0, locals := 22 } : Room) (qs_Pc g sz SA [.int x0z, .int x1z]) (qs_Qi g (qs_F g SA sz) post) 0 0 (qs_F g SA sz) := by
  refine Met.ofW (cc := cJ15_checkIndex_7cf53) (maxL := 2) (ret := (some .int)) (by decide +kernel) rfl ?_
  intro p e s m args below meth c s₁ B hml hv
  obtain ⟨rfl, hsz, hG⟩ := qs_Gd.start hv
  subst hsz
  have hx := B.exec
  have hb := B.bytes
  have hr := B.returns
  have hts := atoms_spec (ws := wsJ15_checkIndex_7cf53) B.pre
  have hown : s.vm.findClass RJ15 = some m.cls := findClass_of_methodNamed B.named
  have hlk := B.notSynchronized
  have hl := lv_entry ([.int x0z, .int x1z]) (n := 2) (Nat.le_of_ble_eq_true rfl)
  rw [lg_entry_eq]
  generalize (lg_sl ([.int x0z, .int x1z]) ++ List.replicate (2 - (lg_sl ([.int x0z, .int x1z])).length) Slot.unset).toArray = ls at hl ⊢
  have hl : lv_has ls 2 [(0, .int x0z), (1, .int x1z)] := hl
  unfold wp_J15_checkIndex_7cf53 at h
  refine lv_iload_n hx hb dJ15_checkIndex_7cf53_0 rfl (lv_at hl 0 rfl) ?_
  refine lv_iload_n hx hb dJ15_checkIndex_7cf53_1 rfl (lv_at hl 1 rfl) ?_
  refine lv_null hx hb dJ15_checkIndex_7cf53_2 ?_
  refine qc_i hG (va_runS (As := [.int x0z, .int x1z, .null]) (rest := []) ⟨hx, hb, hml, hown, hts⟩ (c_J3_checkIndex_8e157 l g _ SA x0z x1z h) (va_cwS 3 hts gJ15_checkIndex_7cf53_J3_checkIndex_8e157 rfl rfl rfl (by decide +kernel) ⟨(Nat.le_of_ble_eq_true rfl), (Nat.le_of_ble_eq_true rfl)⟩) ⟨qs_Pc.blind _ _ _ _, hG.pre _⟩ rfl rfl hl.1 rfl (lv_room (Nat.le_of_ble_eq_true rfl)) dJ15_checkIndex_7cf53_3 ⟨Nat.zero_le _, Nat.zero_le _⟩) (fun v4 S3 H locs h hG => ?_)
  exact qe_i hx hb hr hlk hG h (Nat.le_refl _) (Nat.le_refl _) dJ15_checkIndex_7cf53_6
def wp_Jx4a65c_elementData_915e3 (t0 m9 : Nat) (post : Option Nat → qs_S → Prop) (SA : qs_S) (a0z : Nat) (x1z : Int32) : Prop := (a0z ∈ qs_L SA ∧ qs_K SA a0z = 0) ∧ (∃ q3 : Nat, qs_R SA 1 a0z = some q3 ∧ ((q3 ∈ qs_L SA ∧ qs_K SA q3 = 10) ∧ (vp_in x1z (qs_Z SA q3) ∧ (∃ q7 : Nat, qs_O SA q3 x1z.toNatClampNeg = some q7 ∧ (post (some q7) SA)))))
set_option maxHeartbeats 4000000 in
set_option maxRecDepth 100000 in
theorem c_Jx4a65c_elementData_915e3 (l : Launch) (g : qs_G) (sz : Nat) (SA : qs_S) (a0z : Nat) (x1z : Int32) {post : Option Nat → qs_S → Prop} (h : wp_Jx4a65c_elementData_915e3 g.2.2.2.2.2.2.1 g.2.2.2.2.2.2.2 post SA a0z x1z) : Met l yJx4a65c_elementData_915e3 wsJx4a65c_elementData_915e3 ({ frames := 0, cells := 0, slots := 0, locals := 0 } : Room) (qs_Pc g sz SA [.ref a0z, .int x1z]) (qs_Qq g (qs_F g SA sz) post) 0 0 (qs_F g SA sz) := by
  refine Met.ofW (cc := cJx4a65c_elementData_915e3) (maxL := 2) (ret := (some (.object "java/lang/Object"))) (by decide +kernel) rfl ?_
  intro p e s m args below meth c s₁ B hml hv
  obtain ⟨rfl, hsz, hG⟩ := qs_Gd.start hv
  subst hsz
  have hx := B.exec
  have hb := B.bytes
  have hr := B.returns
  have hts := atoms_spec (ws := wsJx4a65c_elementData_915e3) B.pre
  have hown : s.vm.findClass RJx4a65c = some m.cls := findClass_of_methodNamed B.named
  have hlk := B.notSynchronized
  have in0 : ∀ w ∈ u_ws RJx4a65c TJx4a65c 3, w ∈ wsJx4a65c_elementData_915e3 := fun w h => List.mem_cons_of_mem _ (List.mem_append_right _ (h))
  have hl := lv_entry ([.ref a0z, .int x1z]) (n := 2) (Nat.le_of_ble_eq_true rfl)
  rw [lg_entry_eq]
  generalize (lg_sl ([.ref a0z, .int x1z]) ++ List.replicate (2 - (lg_sl ([.ref a0z, .int x1z])).length) Slot.unset).toArray = ls at hl ⊢
  have hl : lv_has ls 2 [(0, .ref a0z), (1, .int x1z)] := hl
  unfold wp_Jx4a65c_elementData_915e3 at h
  refine lv_aload_n hx hb dJx4a65c_elementData_915e3_0 rfl (lv_at hl 0 rfl) ?_
  obtain ⟨⟨hL1, hK2⟩, h⟩ := h
  obtain ⟨q3, eq3, h⟩ := h
  refine qr_get (C := RJx4a65c) (T := TJx4a65c) (N := 3) (ci := 0) hx hb hts in0 hown hG hL1 hK2 (by decide) rfl 1 (by decide) rfl (hts (.fieldLink RJx4a65c 9 "java/util/ArrayList" "elementData" "[Ljava/lang/Object;") (List.mem_of_getElem? (i := 1) rfl)) (fun _ h9 => h9) (v := .ref q3) (qs_rf eq3) dJx4a65c_elementData_915e3_1 ?_
  refine lv_iload_n hx hb dJx4a65c_elementData_915e3_4 rfl (lv_at hl 1 rfl) ?_
  obtain ⟨⟨hL4, hK5⟩, h⟩ := h
  obtain ⟨hi6, q7, eq7, h⟩ := h
  refine qr_aald hx hb hG hL4 hK5 hi6 (v := .ref q7) (qs_rf eq7) dJx4a65c_elementData_915e3_5 ?_
  exact qe_q (o := (some q7)) hx hb hr hlk rfl (Or.inl ⟨_, rfl⟩) hG h (Nat.le_refl _) (Nat.le_refl _) dJx4a65c_elementData_915e3_6
def wp_Jx4a65c_get_915e3 (t0 m9 : Nat) (post : Option Nat → qs_S → Prop) (SA : qs_S) (a0z : Nat) (x1z : Int32) : Prop := (a0z ∈ qs_L SA ∧ qs_K SA a0z = 0) ∧ (∀ v3 : Int32, v3 = qs_I SA 2 a0z → wp_J15_checkIndex_7cf53 t0 m9 (fun (v7 : Int32) (S6 : qs_S) => (a0z ∈ qs_L S6 ∧ qs_K S6 a0z = 0) ∧ (wp_Jx4a65c_elementData_915e3 t0 m9 (fun (o13 : Option Nat) (S12 : qs_S) => ∃ q14 : Nat, o13 = some q14 ∧ (post (some q14) S12)) S6 a0z x1z)) SA x1z v3)
set_option maxHeartbeats 4000000 in
set_option maxRecDepth 100000 in
theorem c_Jx4a65c_get_915e3 (l : Launch) (g : qs_G) (sz : Nat) (SA : qs_S) (a0z : Nat) (x1z : Int32) {post : Option Nat → qs_S → Prop} (h : wp_Jx4a65c_get_915e3 g.2.2.2.2.2.2.1 g.2.2.2.2.2.2.2 post SA a0z x1z) : Met l yJx4a65c_get_915e3 wsJx4a65c_get_915e3 ({ frames := 2, cells := 0, slots := 0, locals := 43 } : Room) (qs_Pc g sz SA [.ref a0z, .int x1z]) (qs_Qq g (qs_F g SA sz) post) 0 0 (qs_F g SA sz) := by
  refine Met.ofW (cc := cJx4a65c_get_915e3) (maxL := 2) (ret := (some (.object "java/lang/Object"))) (by decide +kernel) rfl ?_
  intro p e s m args below meth c s₁ B hml hv
  obtain ⟨rfl, hsz, hG⟩ := qs_Gd.start hv
  subst hsz
  have hx := B.exec
  have hb := B.bytes
  have hr := B.returns
  have hts := atoms_spec (ws := wsJx4a65c_get_915e3) B.pre
  have hown : s.vm.findClass RJx4a65c = some m.cls := findClass_of_methodNamed B.named
  have hlk := B.notSynchronized
  have in0 : ∀ w ∈ u_ws RJx4a65c TJx4a65c 3, w ∈ wsJx4a65c_get_915e3 := fun w h => List.mem_cons_of_mem _ (List.mem_append_right _ (h))
  have hl := lv_entry ([.ref a0z, .int x1z]) (n := 2) (Nat.le_of_ble_eq_true rfl)
  rw [lg_entry_eq]
  generalize (lg_sl ([.ref a0z, .int x1z]) ++ List.replicate (2 - (lg_sl ([.ref a0z, .int x1z])).length) Slot.unset).toArray = ls at hl ⊢
  have hl : lv_has ls 2 [(0, .ref a0z), (1, .int x1z)] := hl
  unfold wp_Jx4a65c_get_915e3 at h
  refine lv_iload_n hx hb dJx4a65c_get_915e3_0 rfl (lv_at hl 1 rfl) ?_
  refine lv_aload_n hx hb dJx4a65c_get_915e3_1 rfl (lv_at hl 0 rfl) ?_
  obtain ⟨⟨hL1, hK2⟩, h⟩ := h
  refine qr_get (C := RJx4a65c) (T := TJx4a65c) (N := 3) (ci := 0) hx hb hts in0 hown hG hL1 hK2 (by decide) rfl 2 (by decide) rfl (hts (.fieldLink RJx4a65c 48 "java/util/ArrayList" "size" "I") (List.mem_of_getElem? (i := 1) rfl)) (fun _ h9 => h9) (v := .int (qs_I SA 2 a0z)) rfl dJx4a65c_get_915e3_2 ?_
  refine lv_topi (fun v3 ev3 => ?_)
  have h := h v3 ev3
  refine qc_i hG (va_runS (As := [.int x1z, .int v3]) (rest := []) ⟨hx, hb, hml, hown, hts⟩ (c_J15_checkIndex_7cf53 l g _ SA x1z v3 h) (va_cwS 2 hts gJx4a65c_get_915e3_J15_checkIndex_7cf53 rfl rfl rfl (by decide +kernel) ⟨(Nat.le_of_ble_eq_true rfl), (Nat.le_of_ble_eq_true rfl)⟩) ⟨qs_Pc.blind _ _ _ _, hG.pre _⟩ rfl rfl hl.1 rfl (lv_room (Nat.le_of_ble_eq_true rfl)) dJx4a65c_get_915e3_5 ⟨Nat.zero_le _, Nat.zero_le _⟩) (fun v7 S6 H locs h hG => ?_)
  refine lv_pop hx hb dJx4a65c_get_915e3_8 rfl ?_
  refine lv_aload_n hx hb dJx4a65c_get_915e3_9 rfl (lv_at hl 0 rfl) ?_
  refine lv_iload_n hx hb dJx4a65c_get_915e3_10 rfl (lv_at hl 1 rfl) ?_
  obtain ⟨⟨hL10, hK11⟩, h⟩ := h
  refine qc_q hG (va_runV (As := [.int x1z]) (rest := []) ⟨hx, hb, hml, hown, hts⟩ (c_Jx4a65c_elementData_915e3 l g _ S6 a0z x1z h) (cwV 1 hts gJx4a65c_get_915e3_Jx4a65c_elementData_915e3 rfl rfl rfl (by decide +kernel) ⟨(Nat.le_of_ble_eq_true rfl), (Nat.le_of_ble_eq_true rfl)⟩) ⟨qs_Pc.blind _ _ _ _, hG.recv hL10 hK11 (by decide) rfl, hG.pre _⟩ rfl rfl hl.1 rfl (lv_room (Nat.le_of_ble_eq_true rfl)) dJx4a65c_get_915e3_11 ⟨Nat.zero_le _, Nat.zero_le _⟩) (fun o13 S12 H locs h hG => ?_)
  obtain ⟨q14, rfl, h⟩ := h
  exact qe_q (o := (some q14)) hx hb hr hlk rfl (Or.inl ⟨_, rfl⟩) hG h (Nat.le_refl _) (Nat.le_refl _) dJx4a65c_get_915e3_14
def wp_Jx4a65c_isEmpty_aae02_b12 (t0 m9 : Nat) (post : Int32 → qs_S → Prop) (S : qs_S) (s0 : Int32) : Prop := (s0 = 0 ∨ s0 = 1) ∧ post s0 S
def wp_Jx4a65c_isEmpty_aae02 (t0 m9 : Nat) (post : Int32 → qs_S → Prop) (SA : qs_S) (a0z : Nat) : Prop := (a0z ∈ qs_L SA ∧ qs_K SA a0z = 0) ∧ (∀ v4 : Int32, v4 = qs_I SA 2 a0z → (¬ v4 = 0 → (wp_Jx4a65c_isEmpty_aae02_b12 t0 m9 post SA (0 : Int32))) ∧ (v4 = 0 → (wp_Jx4a65c_isEmpty_aae02_b12 t0 m9 post SA (1 : Int32))))
set_option maxHeartbeats 4000000 in
set_option maxRecDepth 100000 in
theorem c_Jx4a65c_isEmpty_aae02 (l : Launch) (g : qs_G) (sz : Nat) (SA : qs_S) (a0z : Nat) {post : Int32 → qs_S → Prop} (h : wp_Jx4a65c_isEmpty_aae02 g.2.2.2.2.2.2.1 g.2.2.2.2.2.2.2 post SA a0z) : Met l yJx4a65c_isEmpty_aae02 wsJx4a65c_isEmpty_aae02 ({ frames := 0, cells := 0, slots := 0, locals := 0 } : Room) (qs_Pc g sz SA [.ref a0z]) (qs_Qi g (qs_F g SA sz) post) 0 0 (qs_F g SA sz) := by
  refine Met.ofW (cc := cJx4a65c_isEmpty_aae02) (maxL := 1) (ret := (some .boolean)) (by decide +kernel) rfl ?_
  intro p e s m args below meth c s₁ B hml hv
  obtain ⟨rfl, hsz, hG⟩ := qs_Gd.start hv
  subst hsz
  have hx := B.exec
  have hb := B.bytes
  have hr := B.returns
  have hts := atoms_spec (ws := wsJx4a65c_isEmpty_aae02) B.pre
  have hown : s.vm.findClass RJx4a65c = some m.cls := findClass_of_methodNamed B.named
  have hlk := B.notSynchronized
  have in0 : ∀ w ∈ u_ws RJx4a65c TJx4a65c 3, w ∈ wsJx4a65c_isEmpty_aae02 := fun w h => List.mem_cons_of_mem _ (List.mem_append_right _ (h))
  have b12 : ∀ (S : qs_S) (s0 : Int32) (H : Heap) (locs : List Loc) (ls : Array Slot), wp_Jx4a65c_isEmpty_aae02_b12 g.2.2.2.2.2.2.1 g.2.2.2.2.2.2.2 post S s0 → qs_Gd g (qs_F g SA s.heap.size) s S H locs → lv_has ls 1 [] → W p l e (headSpec wsJx4a65c_isEmpty_aae02 ({ frames := 0, cells := 0, slots := 0, locals := 0 } : Room)).room s m (([.ref a0z] : List Value)).toArray below meth c H locs 0 0 (MQ below (qs_Qi g (qs_F g SA s.heap.size) post) (([.ref a0z] : List Value)).toArray s 0 0 (qs_F g SA s.heap.size)) (F0 m 12 ls [.int s0]) := by
    intro S s0 H locs ls h hG hl
    unfold wp_Jx4a65c_isEmpty_aae02_b12 at h
    obtain ⟨z1, h⟩ := h
    exact qe_z hx hb hr hlk z1 hG h (Nat.le_refl _) (Nat.le_refl _) dJx4a65c_isEmpty_aae02_12
  have hl := lv_entry ([.ref a0z]) (n := 1) (Nat.le_of_ble_eq_true rfl)
  rw [lg_entry_eq]
  generalize (lg_sl ([.ref a0z]) ++ List.replicate (1 - (lg_sl ([.ref a0z])).length) Slot.unset).toArray = ls at hl ⊢
  have hl : lv_has ls 1 [(0, .ref a0z)] := hl
  unfold wp_Jx4a65c_isEmpty_aae02 at h
  refine lv_aload_n hx hb dJx4a65c_isEmpty_aae02_0 rfl (lv_at hl 0 rfl) ?_
  obtain ⟨⟨hL2, hK3⟩, h⟩ := h
  refine qr_get (C := RJx4a65c) (T := TJx4a65c) (N := 3) (ci := 0) hx hb hts in0 hown hG hL2 hK3 (by decide) rfl 2 (by decide) rfl (hts (.fieldLink RJx4a65c 48 "java/util/ArrayList" "size" "I") (List.mem_of_getElem? (i := 1) rfl)) (fun _ h9 => h9) (v := .int (qs_I SA 2 a0z)) rfl dJx4a65c_isEmpty_aae02_1 ?_
  refine lv_topi (fun v4 ev4 => ?_)
  have h := h v4 ev4
  refine lv_if_ne (tgt := 11) hx hb dJx4a65c_isEmpty_aae02_4 (by decide) (fun c5 => ?_) (fun c5 => ?_)
  · have h := h.1 c5
    refine lv_iconst (v := (0 : Int32)) hx hb dJx4a65c_isEmpty_aae02_11 (by decide +kernel) ?_
    exact b12 SA (0 : Int32) _ _ ls h hG (lv_sub hl [] rfl)
  · have h := h.2 c5
    refine lv_iconst (v := (1 : Int32)) hx hb dJx4a65c_isEmpty_aae02_7 (by decide +kernel) ?_
    refine lv_goto (tgt := 12) hx hb dJx4a65c_isEmpty_aae02_8 (by decide) ?_
    exact b12 SA (1 : Int32) _ _ ls h hG (lv_sub hl [] rfl)
def wp_Jxa1e45_init_da8c8 (t0 m9 : Nat) (post : qs_S → Prop) (SA : qs_S) (a0z : Nat) : Prop := post SA
set_option maxHeartbeats 4000000 in
set_option maxRecDepth 100000 in
theorem c_Jxa1e45_init_da8c8 (l : Launch) (g : qs_G) (sz : Nat) (SA : qs_S) (a0z : Nat) {post : qs_S → Prop} (h : wp_Jxa1e45_init_da8c8 g.2.2.2.2.2.2.1 g.2.2.2.2.2.2.2 post SA a0z) : Met l yJxa1e45_init_da8c8 wsJxa1e45_init_da8c8 ({ frames := 1, cells := 0, slots := 0, locals := 20 } : Room) (qs_Pc g sz SA [.ref a0z]) (qs_Qv g (qs_F g SA sz) post) 0 0 (qs_F g SA sz) := by
  refine Met.ofW (cc := cJxa1e45_init_da8c8) (maxL := 1) (ret := none) (by decide +kernel) rfl ?_
  intro p e s m args below meth c s₁ B hml hv
  obtain ⟨rfl, hsz, hG⟩ := qs_Gd.start hv
  subst hsz
  have hx := B.exec
  have hb := B.bytes
  have hr := B.returns
  have hts := atoms_spec (ws := wsJxa1e45_init_da8c8) B.pre
  have hown : s.vm.findClass RJxa1e45 = some m.cls := findClass_of_methodNamed B.named
  have hlk := B.notSynchronized
  have hin9 : meth.name = "<init>" := (name_of_methodNamed B.named B.method).1
  have hl := lv_entry ([.ref a0z]) (n := 1) (Nat.le_of_ble_eq_true rfl)
  rw [lg_entry_eq]
  generalize (lg_sl ([.ref a0z]) ++ List.replicate (1 - (lg_sl ([.ref a0z])).length) Slot.unset).toArray = ls at hl ⊢
  have hl : lv_has ls 1 [(0, .ref a0z)] := hl
  unfold wp_Jxa1e45_init_da8c8 at h
  refine lv_aload_n hx hb dJxa1e45_init_da8c8_0 rfl (lv_at hl 0 rfl) ?_
  refine W.objInit hx hb hown (hts (.methodLink RJxa1e45 1 objectInit) (List.mem_of_getElem? (i := 1) rfl)) (hts (.instanceMethod objectInit) (List.mem_of_getElem? (i := 2) rfl)) (hts (.code objectInit ⟨#[0xb1]⟩ 1 none) (List.mem_of_getElem? (i := 3) rfl)) rfl (hl.1.trans hml.symm) rfl dJxa1e45_init_da8c8_1 (Nat.le_of_ble_eq_true rfl) (Nat.le_of_ble_eq_true rfl) ?_
  refine W.eq (g2 := F0 m 4 ls []) rfl ?_
  exact qe_v hx hb hr hlk hG h (Nat.le_refl _) (Nat.le_refl _) dJxa1e45_init_da8c8_4
def wp_Jxc12de_init_da8c8 (t0 m9 : Nat) (post : qs_S → Prop) (SA : qs_S) (a0z : Nat) : Prop := wp_Jxa1e45_init_da8c8 t0 m9 (fun (S3 : qs_S) => (a0z ∈ qs_L S3 ∧ qs_K S3 a0z = 0) ∧ (post (qs_wI S3 0 a0z (0 : Int32)))) SA a0z
set_option maxHeartbeats 4000000 in
set_option maxRecDepth 100000 in
theorem c_Jxc12de_init_da8c8 (l : Launch) (g : qs_G) (sz : Nat) (SA : qs_S) (a0z : Nat) {post : qs_S → Prop} (h : wp_Jxc12de_init_da8c8 g.2.2.2.2.2.2.1 g.2.2.2.2.2.2.2 post SA a0z) : Met l yJxc12de_init_da8c8 wsJxc12de_init_da8c8 ({ frames := 2, cells := 0, slots := 0, locals := 40 } : Room) (qs_Pc g sz SA [.ref a0z]) (qs_Qv g (qs_F g SA sz) post) 0 0 (qs_F g SA sz) := by
  refine Met.ofW (cc := cJxc12de_init_da8c8) (maxL := 1) (ret := none) (by decide +kernel) rfl ?_
  intro p e s m args below meth c s₁ B hml hv
  obtain ⟨rfl, hsz, hG⟩ := qs_Gd.start hv
  subst hsz
  have hx := B.exec
  have hb := B.bytes
  have hr := B.returns
  have hts := atoms_spec (ws := wsJxc12de_init_da8c8) B.pre
  have hown : s.vm.findClass RJxc12de = some m.cls := findClass_of_methodNamed B.named
  have hlk := B.notSynchronized
  have hin9 : meth.name = "<init>" := (name_of_methodNamed B.named B.method).1
  have in0 : ∀ w ∈ u_ws RJx4a65c TJx4a65c 3, w ∈ wsJxc12de_init_da8c8 := fun w h => List.mem_cons_of_mem _ (List.mem_append_right _ (h))
  have hl := lv_entry ([.ref a0z]) (n := 1) (Nat.le_of_ble_eq_true rfl)
  rw [lg_entry_eq]
  generalize (lg_sl ([.ref a0z]) ++ List.replicate (1 - (lg_sl ([.ref a0z])).length) Slot.unset).toArray = ls at hl ⊢
  have hl : lv_has ls 1 [(0, .ref a0z)] := hl
  unfold wp_Jxc12de_init_da8c8 at h
  refine lv_aload_n hx hb dJxc12de_init_da8c8_0 rfl (lv_at hl 0 rfl) ?_
  refine qc_v hG (va_runI (As := []) (rest := []) ⟨hx, hb, hml, hown, hts⟩ (c_Jxa1e45_init_da8c8 l g _ SA a0z h) (cwI 0 hts gJxc12de_init_da8c8_Jxa1e45_init_da8c8 rfl rfl rfl (hts (.initialized RJxa1e45) (List.mem_of_getElem? (i := 4) rfl)) (hts (.methodLink RJxc12de 1 yJxa1e45_init_da8c8) (List.mem_of_getElem? (i := 2) rfl)) (hts (.instanceMethod yJxa1e45_init_da8c8) (List.mem_of_getElem? (i := 3) rfl)) rfl (by decide +kernel) ⟨(Nat.le_of_ble_eq_true rfl), (Nat.le_of_ble_eq_true rfl)⟩) ⟨qs_Pc.blind _ _ _ _, hG.pre _⟩ rfl rfl hl.1 rfl (lv_room (Nat.le_of_ble_eq_true rfl)) dJxc12de_init_da8c8_1 ⟨Nat.zero_le _, Nat.zero_le _⟩) (fun S3 H locs h hG => ?_)
  refine lv_aload_n hx hb dJxc12de_init_da8c8_4 rfl (lv_at hl 0 rfl) ?_
  refine lv_iconst (v := (0 : Int32)) hx hb dJxc12de_init_da8c8_5 (by decide +kernel) ?_
  obtain ⟨⟨hL4, hK5⟩, h⟩ := h
  refine qr_putI (C := RJx4a65c) (T := TJx4a65c) (N := 3) (ci := 0) hx hb hts in0 tyJx4a65c tyJx4a65c_ok nmJx4a65c hown hG hL4 hK5 (by decide) rfl 0 (by decide) rfl (hts (.fieldLink RJxc12de 7 "java/util/AbstractList" "modCount" "I") (List.mem_of_getElem? (i := 1) rfl)) (fun _ h9 => h9) rfl (x := (0 : Int32)) (tyJx4a65c_ok 0 (by decide)) rfl rfl dJxc12de_init_da8c8_6 (fun H locs hG => ?_)
  exact qe_v hx hb hr hlk hG h (Nat.le_refl _) (Nat.le_refl _) dJxc12de_init_da8c8_9
def wp_Jx4a65c_init_da8c8 (t0 m9 : Nat) (post : qs_S → Prop) (SA : qs_S) (a0z : Nat) : Prop := wp_Jxc12de_init_da8c8 t0 m9 (fun (S3 : qs_S) => (a0z ∈ qs_L S3 ∧ qs_K S3 a0z = 0) ∧ (post (qs_wR S3 1 a0z (some t0)))) SA a0z
set_option maxHeartbeats 4000000 in
set_option maxRecDepth 100000 in
theorem c_Jx4a65c_init_da8c8 (l : Launch) (g : qs_G) (sz : Nat) (SA : qs_S) (a0z : Nat) {post : qs_S → Prop} (h : wp_Jx4a65c_init_da8c8 g.2.2.2.2.2.2.1 g.2.2.2.2.2.2.2 post SA a0z) : Met l yJx4a65c_init_da8c8 wsJx4a65c_init_da8c8 ({ frames := 3, cells := 0, slots := 0, locals := 60 } : Room) (qs_Pc g sz SA [.ref a0z]) (qs_Qv g (qs_F g SA sz) post) 0 0 (qs_F g SA sz) := by
  refine Met.ofW (cc := cJx4a65c_init_da8c8) (maxL := 1) (ret := none) (by decide +kernel) rfl ?_
  intro p e s m args below meth c s₁ B hml hv
  obtain ⟨rfl, hsz, hG⟩ := qs_Gd.start hv
  subst hsz
  have hx := B.exec
  have hb := B.bytes
  have hr := B.returns
  have hts := atoms_spec (ws := wsJx4a65c_init_da8c8) B.pre
  have hown : s.vm.findClass RJx4a65c = some m.cls := findClass_of_methodNamed B.named
  have hlk := B.notSynchronized
  have hin9 : meth.name = "<init>" := (name_of_methodNamed B.named B.method).1
  have in0 : ∀ w ∈ u_ws RJx4a65c TJx4a65c 3, w ∈ wsJx4a65c_init_da8c8 := fun w h => List.mem_cons_of_mem _ (List.mem_append_right _ (h))
  have hl := lv_entry ([.ref a0z]) (n := 1) (Nat.le_of_ble_eq_true rfl)
  rw [lg_entry_eq]
  generalize (lg_sl ([.ref a0z]) ++ List.replicate (1 - (lg_sl ([.ref a0z])).length) Slot.unset).toArray = ls at hl ⊢
  have hl : lv_has ls 1 [(0, .ref a0z)] := hl
  unfold wp_Jx4a65c_init_da8c8 at h
  refine lv_aload_n hx hb dJx4a65c_init_da8c8_0 rfl (lv_at hl 0 rfl) ?_
  refine qc_v hG (va_runI (As := []) (rest := []) ⟨hx, hb, hml, hown, hts⟩ (c_Jxc12de_init_da8c8 l g _ SA a0z h) (cwI 0 hts gJx4a65c_init_da8c8_Jxc12de_init_da8c8 rfl rfl rfl (hts (.initialized RJxc12de) (List.mem_of_getElem? (i := 5) rfl)) (hts (.methodLink RJx4a65c 1 yJxc12de_init_da8c8) (List.mem_of_getElem? (i := 3) rfl)) (hts (.instanceMethod yJxc12de_init_da8c8) (List.mem_of_getElem? (i := 4) rfl)) rfl (by decide +kernel) ⟨(Nat.le_of_ble_eq_true rfl), (Nat.le_of_ble_eq_true rfl)⟩) ⟨qs_Pc.blind _ _ _ _, hG.pre _⟩ rfl rfl hl.1 rfl (lv_room (Nat.le_of_ble_eq_true rfl)) dJx4a65c_init_da8c8_1 ⟨Nat.zero_le _, Nat.zero_le _⟩) (fun S3 H locs h hG => ?_)
  refine lv_aload_n hx hb dJx4a65c_init_da8c8_4 rfl (lv_at hl 0 rfl) ?_
  refine qr_empty hx hb hG hown (hts (.fieldLink RJx4a65c 39 "java/util/ArrayList" "DEFAULTCAPACITY_EMPTY_ELEMENTDATA" "[Ljava/lang/Object;") (List.mem_of_getElem? (i := 1) rfl)) (fun _ h9 => h9) dJx4a65c_init_da8c8_5 ?_
  obtain ⟨⟨hL4, hK5⟩, h⟩ := h
  refine qr_putR (C := RJx4a65c) (T := TJx4a65c) (N := 3) (ci := 0) hx hb hts in0 tyJx4a65c tyJx4a65c_ok nmJx4a65c hown hG hL4 hK5 (by decide) rfl 1 (by decide) rfl (hts (.fieldLink RJx4a65c 9 "java/util/ArrayList" "elementData" "[Ljava/lang/Object;") (List.mem_of_getElem? (i := 2) rfl)) (fun _ h9 => h9) rfl (x := some g.2.2.2.2.2.2.1) rfl (tyJx4a65c_ok 1 (by decide)) rfl rfl dJx4a65c_init_da8c8_8 (fun H locs hG => ?_)
  exact qe_v hx hb hr hlk hG h (Nat.le_refl _) (Nat.le_refl _) dJx4a65c_init_da8c8_11
def wp_J8_newLength_cabcc_b21 (t0 m9 : Nat) (post : Int32 → qs_S → Prop) (S : qs_S) (x0 : Int32) (x1 : Int32) : Prop := False
def wp_J8_newLength_cabcc (t0 m9 : Nat) (post : Int32 → qs_S → Prop) (SA : qs_S) (x0z : Int32) (x1z : Int32) (x2z : Int32) : Prop := ∀ v1 : Int32, v1 = (if x1z < x2z then x2z else x1z) → ∀ v2 : Int32, v2 = x0z + v1 → (v2 ≤ (0 : Int32) → (wp_J8_newLength_cabcc_b21 t0 m9 post SA x0z x1z)) ∧ (¬ v2 ≤ (0 : Int32) → (((2147483639 : Int32) < v2 → (wp_J8_newLength_cabcc_b21 t0 m9 post SA x0z x1z)) ∧ (¬ (2147483639 : Int32) < v2 → (post v2 SA))))
set_option maxHeartbeats 4000000 in
set_option maxRecDepth 100000 in
theorem c_J8_newLength_cabcc (l : Launch) (g : qs_G) (sz : Nat) (SA : qs_S) (x0z : Int32) (x1z : Int32) (x2z : Int32) {post : Int32 → qs_S → Prop} (h : wp_J8_newLength_cabcc g.2.2.2.2.2.2.1 g.2.2.2.2.2.2.2 post SA x0z x1z x2z) : Met l yJ8_newLength_cabcc wsJ8_newLength_cabcc ({ frames := 1, cells := 0, slots := 0, locals := 40 } : Room) (qs_Pc g sz SA [.int x0z, .int x1z, .int x2z]) (qs_Qi g (qs_F g SA sz) post) 0 0 (qs_F g SA sz) := by
  refine Met.ofW (cc := cJ8_newLength_cabcc) (maxL := 4) (ret := (some .int)) (by decide +kernel) rfl ?_
  intro p e s m args below meth c s₁ B hml hv
  obtain ⟨rfl, hsz, hG⟩ := qs_Gd.start hv
  subst hsz
  have hx := B.exec
  have hb := B.bytes
  have hr := B.returns
  have hts := atoms_spec (ws := wsJ8_newLength_cabcc) B.pre
  have hown : s.vm.findClass RJ8 = some m.cls := findClass_of_methodNamed B.named
  have hlk := B.notSynchronized
  have b21 : ∀ (S : qs_S) (x0 : Int32) (x1 : Int32) (H : Heap) (locs : List Loc) (ls : Array Slot), wp_J8_newLength_cabcc_b21 g.2.2.2.2.2.2.1 g.2.2.2.2.2.2.2 post S x0 x1 → qs_Gd g (qs_F g SA s.heap.size) s S H locs → lv_has ls 4 [(0, .int x0), (1, .int x1)] → W p l e (headSpec wsJ8_newLength_cabcc ({ frames := 1, cells := 0, slots := 0, locals := 40 } : Room)).room s m (([.int x0z, .int x1z, .int x2z] : List Value)).toArray below meth c H locs 0 0 (MQ below (qs_Qi g (qs_F g SA s.heap.size) post) (([.int x0z, .int x1z, .int x2z] : List Value)).toArray s 0 0 (qs_F g SA s.heap.size)) (F0 m 21 ls []) := by
    intro S x0 x1 H locs ls h hG hl
    unfold wp_J8_newLength_cabcc_b21 at h
    refine lv_iload_n hx hb dJ8_newLength_cabcc_21 rfl (lv_at hl 0 rfl) ?_
    refine lv_iload_n hx hb dJ8_newLength_cabcc_22 rfl (lv_at hl 1 rfl) ?_
    exact h.elim
  have hl := lv_entry ([.int x0z, .int x1z, .int x2z]) (n := 4) (Nat.le_of_ble_eq_true rfl)
  rw [lg_entry_eq]
  generalize (lg_sl ([.int x0z, .int x1z, .int x2z]) ++ List.replicate (4 - (lg_sl ([.int x0z, .int x1z, .int x2z])).length) Slot.unset).toArray = ls at hl ⊢
  have hl : lv_has ls 4 [(0, .int x0z), (1, .int x1z), (2, .int x2z)] := hl
  unfold wp_J8_newLength_cabcc at h
  refine lv_iload_n hx hb dJ8_newLength_cabcc_0 rfl (lv_at hl 0 rfl) ?_
  refine lv_iload_n hx hb dJ8_newLength_cabcc_1 rfl (lv_at hl 1 rfl) ?_
  refine lv_iload_n hx hb dJ8_newLength_cabcc_2 rfl (lv_at hl 2 rfl) ?_
  refine va_mmax hx hb (hml.trans hl.1.symm) hown (hts (.methodLink RJ8 194 Lib.Math.max.name) (List.mem_of_getElem? (i := 1) rfl)) (hts (.static Lib.Math.max.name) (List.mem_of_getElem? (i := 2) rfl)) (hts (.initialized "java/lang/Math") (List.mem_of_getElem? (i := 3) rfl)) (hts (.code Lib.Math.max.name Lib.Math.max.code 2 (some .int)) (List.mem_of_getElem? (i := 4) rfl)) (Nat.le_of_ble_eq_true rfl) (Nat.le_of_ble_eq_true rfl) (Nat.zero_le _) (Nat.zero_le _) dJ8_newLength_cabcc_3 ?_
  refine lv_topi (fun v1 ev1 => ?_)
  have h := h v1 ev1
  refine lv_iadd hx hb dJ8_newLength_cabcc_6 ?_
  refine lv_topi (fun v2 ev2 => ?_)
  have h := h v2 ev2
  refine lv_istore_n (lv' := [(3, .int v2), (0, .int x0z), (1, .int x1z), (2, .int x2z)]) hx hb dJ8_newLength_cabcc_7 rfl hl (by decide) rfl (fun ls hl => ?_)
  refine lv_iconst (v := (0 : Int32)) hx hb dJ8_newLength_cabcc_8 (by decide +kernel) ?_
  refine lv_iload_n hx hb dJ8_newLength_cabcc_9 rfl (lv_at hl 0 rfl) ?_
  refine lv_icmp_ge (tgt := 21) hx hb dJ8_newLength_cabcc_10 (by decide) (fun c3 => ?_) (fun c3 => ?_)
  · have h := h.1 c3
    exact b21 SA x0z x1z _ _ ls h hG (lv_sub hl [1, 2] rfl)
  · have h := h.2 c3
    refine lv_iload_n hx hb dJ8_newLength_cabcc_13 rfl (lv_at hl 0 rfl) ?_
    refine lv_ldc hx hb hown (hts (.constant RJ8 200 (2147483639)) (List.mem_of_getElem? (i := 5) rfl)) dJ8_newLength_cabcc_14 ?_
    refine lv_icmp_gt (tgt := 21) hx hb dJ8_newLength_cabcc_16 (by decide) (fun c4 => ?_) (fun c4 => ?_)
    · have h := h.1 c4
      exact b21 SA x0z x1z _ _ ls h hG (lv_sub hl [1, 2] rfl)
    · have h := h.2 c4
      refine lv_iload_n hx hb dJ8_newLength_cabcc_19 rfl (lv_at hl 0 rfl) ?_
      exact qe_i hx hb hr hlk hG h (Nat.le_refl _) (Nat.le_refl _) dJ8_newLength_cabcc_20
def wp_J7_copyOf_6403c (t0 m9 : Nat) (mc ms : Nat) (post : Option Nat → qs_S → Prop) (SA : qs_S) (a0z : Nat) (x1z : Int32) (a2z : Nat) : Prop := (¬ a2z = m9 → (False)) ∧ (a2z = m9 → (((0 + 1 ≤ mc ∧ 0 + x1z.toNatClampNeg ≤ ms) ∧ ¬ x1z < 0 ∧ x1z.toNatClampNeg * 4 ≤ 536870912) ∧ (∀ q3 : Nat, q3 ∉ qs_L SA → q3 ≠ t0 → (a0z = t0 ∨ (a0z ∈ qs_L (qs_nA SA q3 10 x1z.toNatClampNeg) ∧ qs_K (qs_nA SA q3 10 x1z.toNatClampNeg) a0z = 10)) ∧ (∀ v9 : Int32, v9 = nI (qs_len t0 (qs_nA SA q3 10 x1z.toNatClampNeg) a0z) → ∀ v10 : Int32, v10 = (if x1z < v9 then x1z else v9) → (a0z ∈ qs_L (qs_nA SA q3 10 x1z.toNatClampNeg) ∧ qs_K (qs_nA SA q3 10 x1z.toNatClampNeg) a0z = 10) ∧ ((¬ (0 : Int32) < 0 ∧ ¬ (0 : Int32) < 0 ∧ ¬ v10 < 0 ∧ (0 : Int32).toNatClampNeg + v10.toNatClampNeg ≤ qs_Z (qs_nA SA q3 10 x1z.toNatClampNeg) a0z ∧ (0 : Int32).toNatClampNeg + v10.toNatClampNeg ≤ qs_Z (qs_nA SA q3 10 x1z.toNatClampNeg) q3 ∧ ∀ i : Nat, i < v10.toNatClampNeg → ∀ y : Nat, qs_O (qs_nA SA q3 10 x1z.toNatClampNeg) a0z ((0 : Int32).toNatClampNeg + i) = some y → y ∈ qs_L (qs_nA SA q3 10 x1z.toNatClampNeg) ∧ qs_K (qs_nA SA q3 10 x1z.toNatClampNeg) y < 8) ∧ (post (some q3) (qs_cO (qs_nA SA q3 10 x1z.toNatClampNeg) a0z q3 (0 : Int32).toNatClampNeg (0 : Int32).toNatClampNeg v10.toNatClampNeg)))))))
set_option maxHeartbeats 4000000 in
set_option maxRecDepth 100000 in
theorem c_J7_copyOf_6403c (l : Launch) (g : qs_G) (sz : Nat) (SA : qs_S) (a0z : Nat) (x1z : Int32) (a2z : Nat) {mc ms : Nat} {post : Option Nat → qs_S → Prop} (h : wp_J7_copyOf_6403c g.2.2.2.2.2.2.1 g.2.2.2.2.2.2.2 mc ms post SA a0z x1z a2z) : Met l yJ7_copyOf_6403c wsJ7_copyOf_6403c ({ frames := 1, cells := mc, slots := ms, locals := 60 } : Room) (qs_Pc g sz SA [.ref a0z, .int x1z, .ref a2z]) (qs_Qq g (qs_F g SA sz) post) mc ms (qs_F g SA sz) := by
  refine Met.ofW (cc := cJ7_copyOf_6403c) (maxL := 4) (ret := (some (.array (.object "java/lang/Object")))) (by decide +kernel) rfl ?_
  intro p e s m args below meth c s₁ B hml hv
  obtain ⟨rfl, hsz, hG⟩ := qs_Gd.start hv
  subst hsz
  have hx := B.exec
  have hb := B.bytes
  have hr := B.returns
  have hts := atoms_spec (ws := wsJ7_copyOf_6403c) B.pre
  have hown : s.vm.findClass RJ7 = some m.cls := findClass_of_methodNamed B.named
  have hlk := B.notSynchronized
  have hkc : 0 ≤ mc := Nat.zero_le _
  have hks : 0 ≤ ms := Nat.zero_le _
  have hmR : mc ≤ (headSpec wsJ7_copyOf_6403c ({ frames := 1, cells := mc, slots := ms, locals := 60 } : Room)).room.cells := Nat.le_refl _
  have hsR : ms ≤ (headSpec wsJ7_copyOf_6403c ({ frames := 1, cells := mc, slots := ms, locals := 60 } : Room)).room.slots := Nat.le_refl _
  have hao := hG.2.2.2.2.2.2.2.2.2.2.2.2.2.1.1
  have hmi := hG.2.2.2.2.2.2.2.2.2.1
  have hl := lv_entry ([.ref a0z, .int x1z, .ref a2z]) (n := 4) (Nat.le_of_ble_eq_true rfl)
  rw [lg_entry_eq]
  generalize (lg_sl ([.ref a0z, .int x1z, .ref a2z]) ++ List.replicate (4 - (lg_sl ([.ref a0z, .int x1z, .ref a2z])).length) Slot.unset).toArray = ls at hl ⊢
  have hl : lv_has ls 4 [(0, .ref a0z), (1, .int x1z), (2, .ref a2z)] := hl
  unfold wp_J7_copyOf_6403c at h
  refine lv_aload_n hx hb dJ7_copyOf_6403c_0 rfl (lv_at hl 2 rfl) ?_
  refine va_ldcM hx hb hown (hts (.classLink RJ7 110 "[Ljava/lang/Object;") (List.mem_of_getElem? (i := 1) rfl)) hmi dJ7_copyOf_6403c_1 ?_
  refine lv_acmp_ne (rx := (some a2z)) (ry := (some g.2.2.2.2.2.2.2)) (tgt := 13) hx hb dJ7_copyOf_6403c_3 (by decide) (fun c2 => ?_) (fun c2 => ?_)
  · have h := h.1 (fun z => c2 (congrArg some z))
    refine lv_aload_n hx hb dJ7_copyOf_6403c_13 rfl (lv_at hl 2 rfl) ?_
    exact h.elim
  · have h := h.2 (Option.some.inj c2)
    refine lv_iload_n hx hb dJ7_copyOf_6403c_6 rfl (lv_at hl 1 rfl) ?_
    obtain ⟨⟨⟨hs4c, hs4s⟩, hs4n, hs4b⟩, h⟩ := h
    refine qr_newO hx hb hown (hts (.classLink RJ7 2 "java/lang/Object") (List.mem_of_getElem? (i := 2) rfl)) hao hG hs4n rfl hs4b (Nat.le_trans hs4c hmR) (Nat.le_trans hs4s hsR) dJ7_copyOf_6403c_7 (fun q3 H hq5 hq5t hG => ?_)
    have hkc := hs4c
    have hks := hs4s
    have h := h q3 hq5 hq5t
    have hL6 := qs_nAN (S := SA) (q := q3) (ci := 10) (n := x1z.toNatClampNeg)
    have hK7 := qs_nAM (S := SA) (q := q3) (ci := 10) (n := x1z.toNatClampNeg)
    refine lv_goto (tgt := 24) hx hb dJ7_copyOf_6403c_10 (by decide) ?_
    refine lv_astore_n (lv' := [(3, .ref q3), (0, .ref a0z), (1, .int x1z), (2, .ref a2z)]) hx hb dJ7_copyOf_6403c_24 rfl hl (by decide) rfl (fun ls hl => ?_)
    refine lv_aload_n hx hb dJ7_copyOf_6403c_25 rfl (lv_at hl 1 rfl) ?_
    refine lv_iconst (v := (0 : Int32)) hx hb dJ7_copyOf_6403c_26 (by decide +kernel) ?_
    refine lv_aload_n hx hb dJ7_copyOf_6403c_27 rfl (lv_at hl 0 rfl) ?_
    refine lv_iconst (v := (0 : Int32)) hx hb dJ7_copyOf_6403c_28 (by decide +kernel) ?_
    refine lv_aload_n hx hb dJ7_copyOf_6403c_29 rfl (lv_at hl 1 rfl) ?_
    obtain ⟨hL8, h⟩ := h
    refine qr_alen hx hb hG hL8 dJ7_copyOf_6403c_30 ?_
    refine lv_topi (fun v9 ev9 => ?_)
    have h := h v9 ev9
    refine lv_iload_n hx hb dJ7_copyOf_6403c_31 rfl (lv_at hl 2 rfl) ?_
    refine va_mmin hx hb (hml.trans hl.1.symm) hown (hts (.methodLink RJ7 304 Lib.Math.min.name) (List.mem_of_getElem? (i := 3) rfl)) (hts (.static Lib.Math.min.name) (List.mem_of_getElem? (i := 4) rfl)) (hts (.initialized "java/lang/Math") (List.mem_of_getElem? (i := 5) rfl)) (hts (.code Lib.Math.min.name Lib.Math.min.code 2 (some .int)) (List.mem_of_getElem? (i := 6) rfl)) (Nat.le_of_ble_eq_true rfl) (Nat.le_of_ble_eq_true rfl) (Nat.le_trans hkc hmR) (Nat.le_trans hks hsR) dJ7_copyOf_6403c_32 ?_
    refine lv_topi (fun v10 ev10 => ?_)
    have h := h v10 ev10
    obtain ⟨⟨hL11, hK12⟩, h⟩ := h
    obtain ⟨⟨u131, u132, u133, u134, u135, u136⟩, h⟩ := h
    refine qr_copy hx hb (hml.trans hl.1.symm) hown (hts (.methodLink RJ7 150 arraycopyName) (List.mem_of_getElem? (i := 7) rfl)) (hts (.native arraycopyName) (List.mem_of_getElem? (i := 8) rfl)) (hts (.static arraycopyName) (List.mem_of_getElem? (i := 9) rfl)) (hts (.initialized "java/lang/System") (List.mem_of_getElem? (i := 10) rfl)) hG hL11 hK12 hL6 hK7 u131 u132 u133 u134 u135 u136 (Nat.le_of_ble_eq_true rfl) (Nat.le_of_ble_eq_true rfl) dJ7_copyOf_6403c_35 (fun H locs hG => ?_)
    refine lv_aload_n hx hb dJ7_copyOf_6403c_38 rfl (lv_at hl 0 rfl) ?_
    exact qe_q (o := (some q3)) hx hb hr hlk rfl (Or.inr ⟨_, rfl⟩) hG h hkc hks dJ7_copyOf_6403c_39
def wp_J7_copyOf_1904c (t0 m9 : Nat) (mc ms : Nat) (post : Option Nat → qs_S → Prop) (SA : qs_S) (a0z : Nat) (x1z : Int32) : Prop := (a0z ∈ qs_L SA ∧ qs_K SA a0z = 10) ∧ (∃ mck3 msk3 : Nat, (0 + mck3 ≤ mc ∧ 0 + msk3 ≤ ms) ∧ (wp_J7_copyOf_6403c t0 m9 mck3 msk3 (fun (o6 : Option Nat) (S5 : qs_S) => ∃ q7 : Nat, o6 = some q7 ∧ (post (some q7) S5)) SA a0z x1z m9))
set_option maxHeartbeats 4000000 in
set_option maxRecDepth 100000 in
theorem c_J7_copyOf_1904c (l : Launch) (g : qs_G) (sz : Nat) (SA : qs_S) (a0z : Nat) (x1z : Int32) {mc ms : Nat} {post : Option Nat → qs_S → Prop} (h : wp_J7_copyOf_1904c g.2.2.2.2.2.2.1 g.2.2.2.2.2.2.2 mc ms post SA a0z x1z) : Met l yJ7_copyOf_1904c wsJ7_copyOf_1904c ({ frames := 2, cells := mc, slots := ms, locals := 83 } : Room) (qs_Pc g sz SA [.ref a0z, .int x1z]) (qs_Qq g (qs_F g SA sz) post) mc ms (qs_F g SA sz) := by
  refine Met.ofW (cc := cJ7_copyOf_1904c) (maxL := 2) (ret := (some (.array (.object "java/lang/Object")))) (by decide +kernel) rfl ?_
  intro p e s m args below meth c s₁ B hml hv
  obtain ⟨rfl, hsz, hG⟩ := qs_Gd.start hv
  subst hsz
  have hx := B.exec
  have hb := B.bytes
  have hr := B.returns
  have hts := atoms_spec (ws := wsJ7_copyOf_1904c) B.pre
  have hown : s.vm.findClass RJ7 = some m.cls := findClass_of_methodNamed B.named
  have hlk := B.notSynchronized
  have hkc : 0 ≤ mc := Nat.zero_le _
  have hks : 0 ≤ ms := Nat.zero_le _
  have hmR : mc ≤ (headSpec wsJ7_copyOf_1904c ({ frames := 2, cells := mc, slots := ms, locals := 83 } : Room)).room.cells := Nat.le_refl _
  have hsR : ms ≤ (headSpec wsJ7_copyOf_1904c ({ frames := 2, cells := mc, slots := ms, locals := 83 } : Room)).room.slots := Nat.le_refl _
  have hl := lv_entry ([.ref a0z, .int x1z]) (n := 2) (Nat.le_of_ble_eq_true rfl)
  rw [lg_entry_eq]
  generalize (lg_sl ([.ref a0z, .int x1z]) ++ List.replicate (2 - (lg_sl ([.ref a0z, .int x1z])).length) Slot.unset).toArray = ls at hl ⊢
  have hl : lv_has ls 2 [(0, .ref a0z), (1, .int x1z)] := hl
  unfold wp_J7_copyOf_1904c at h
  refine lv_aload_n hx hb dJ7_copyOf_1904c_0 rfl (lv_at hl 0 rfl) ?_
  refine lv_iload_n hx hb dJ7_copyOf_1904c_1 rfl (lv_at hl 1 rfl) ?_
  refine lv_aload_n hx hb dJ7_copyOf_1904c_2 rfl (lv_at hl 0 rfl) ?_
  obtain ⟨⟨hL1, hK2⟩, h⟩ := h
  refine va_getC hx hb (hml.trans hl.1.symm) hown (hts (.methodLink RJ7 86 ⟨"java/lang/Object", "getClass", "()Ljava/lang/Class;"⟩) (List.mem_of_getElem? (i := 1) rfl)) (va_Dc.use hG.2.2.2.2.2.2.2.2.2.2.1) (hts (.selects "[Ljava/lang/Object;" ⟨"java/lang/Object", "getClass", "()Ljava/lang/Class;"⟩ ⟨"java/lang/Object", "getClass", "()Ljava/lang/Class;"⟩) (List.mem_of_getElem? (i := 2) rfl)) (hts (.instanceMethod ⟨"java/lang/Object", "getClass", "()Ljava/lang/Class;"⟩) (List.mem_of_getElem? (i := 3) rfl)) (hts (.native ⟨"java/lang/Object", "getClass", "()Ljava/lang/Class;"⟩) (List.mem_of_getElem? (i := 4) rfl)) hG.2.2.2.2.2.2.2.2.2.1 (hG.recvO hL1 hK2) (Nat.le_of_ble_eq_true rfl) (Nat.le_of_ble_eq_true rfl) dJ7_copyOf_1904c_3 ?_
  obtain ⟨mck3, msk3, ⟨hs4c, hs4s⟩, h⟩ := h
  refine qc_q hG (va_runS (As := [.ref a0z, .int x1z, .ref g.2.2.2.2.2.2.2]) (rest := []) ⟨hx, hb, hml, hown, hts⟩ (c_J7_copyOf_6403c l g _ SA a0z x1z g.2.2.2.2.2.2.2 h) (va_cwS 3 hts gJ7_copyOf_1904c_J7_copyOf_6403c rfl rfl rfl (by decide +kernel) ⟨(Nat.le_of_ble_eq_true rfl), (Nat.le_of_ble_eq_true rfl)⟩) ⟨qs_Pc.blind _ _ _ _, hG.pre _⟩ rfl rfl hl.1 rfl (lv_room (Nat.le_of_ble_eq_true rfl)) dJ7_copyOf_1904c_6 ⟨Nat.le_trans hs4c hmR, Nat.le_trans hs4s hsR⟩) (fun o6 S5 H locs h hG => ?_)
  have hkc := hs4c
  have hks := hs4s
  obtain ⟨q7, rfl, h⟩ := h
  exact qe_q (o := (some q7)) hx hb hr hlk rfl (Or.inr ⟨_, rfl⟩) hG h hkc hks dJ7_copyOf_1904c_9
def wp_Jx4a65c_grow_92f84_b20 (t0 m9 : Nat) (mc ms : Nat) (post : Option Nat → qs_S → Prop) (k n : Nat) (S : qs_S) (a0 : Nat) (x1 : Int32) (x2 : Int32) : Prop := ∀ v1 : Int32, v1 = x1 - x2 → ∀ v2 : Int32, v2 = x2 >>> ((1 : Int32) &&& 31) → wp_J8_newLength_cabcc t0 m9 (fun (v6 : Int32) (S5 : qs_S) => (a0 ∈ qs_L S5 ∧ qs_K S5 a0 = 0) ∧ (∃ q9 : Nat, qs_R S5 1 a0 = some q9 ∧ (∃ mck10 msk10 : Nat, (k + mck10 ≤ mc ∧ n + msk10 ≤ ms) ∧ (wp_J7_copyOf_1904c t0 m9 mck10 msk10 (fun (o13 : Option Nat) (S12 : qs_S) => ∃ q14 : Nat, o13 = some q14 ∧ ((a0 ∈ qs_L S12 ∧ qs_K S12 a0 = 0) ∧ (post (some q14) (qs_wR S12 1 a0 (some q14))))) S5 q9 v6)))) S x2 v1 v2
def wp_Jx4a65c_grow_92f84 (t0 m9 : Nat) (mc ms : Nat) (post : Option Nat → qs_S → Prop) (SA : qs_S) (a0z : Nat) (x1z : Int32) : Prop := (a0z ∈ qs_L SA ∧ qs_K SA a0z = 0) ∧ (∃ q19 : Nat, qs_R SA 1 a0z = some q19 ∧ ((q19 = t0 ∨ (q19 ∈ qs_L SA ∧ qs_K SA q19 = 10)) ∧ (∀ v21 : Int32, v21 = nI (qs_len t0 SA q19) → (0 < v21 → (wp_Jx4a65c_grow_92f84_b20 t0 m9 mc ms post 0 0 SA a0z x1z v21)) ∧ (¬ 0 < v21 → (∃ q23 : Nat, qs_R SA 1 a0z = some q23 ∧ ((q23 = t0 → (∀ v25 : Int32, v25 = (if (10 : Int32) < x1z then x1z else (10 : Int32)) → ((0 + 1 ≤ mc ∧ 0 + v25.toNatClampNeg ≤ ms) ∧ ¬ v25 < 0 ∧ v25.toNatClampNeg * 4 ≤ 536870912) ∧ (∀ q26 : Nat, q26 ∉ qs_L SA → q26 ≠ t0 → post (some q26) (qs_wR (qs_nA SA q26 10 v25.toNatClampNeg) 1 a0z (some q26))))) ∧ (¬ q23 = t0 → (wp_Jx4a65c_grow_92f84_b20 t0 m9 mc ms post 0 0 SA a0z x1z v21))))))))
set_option maxHeartbeats 4000000 in
set_option maxRecDepth 100000 in
theorem c_Jx4a65c_grow_92f84 (l : Launch) (g : qs_G) (sz : Nat) (SA : qs_S) (a0z : Nat) (x1z : Int32) {mc ms : Nat} {post : Option Nat → qs_S → Prop} (h : wp_Jx4a65c_grow_92f84 g.2.2.2.2.2.2.1 g.2.2.2.2.2.2.2 mc ms post SA a0z x1z) : Met l yJx4a65c_grow_92f84 wsJx4a65c_grow_92f84 ({ frames := 3, cells := mc, slots := ms, locals := 104 } : Room) (qs_Pc g sz SA [.ref a0z, .int x1z]) (qs_Qq g (qs_F g SA sz) post) mc ms (qs_F g SA sz) := by
  refine Met.ofW (cc := cJx4a65c_grow_92f84) (maxL := 4) (ret := (some (.array (.object "java/lang/Object")))) (by decide +kernel) rfl ?_
  intro p e s m args below meth c s₁ B hml hv
  obtain ⟨rfl, hsz, hG⟩ := qs_Gd.start hv
  subst hsz
  have hx := B.exec
  have hb := B.bytes
  have hr := B.returns
  have hts := atoms_spec (ws := wsJx4a65c_grow_92f84) B.pre
  have hown : s.vm.findClass RJx4a65c = some m.cls := findClass_of_methodNamed B.named
  have hlk := B.notSynchronized
  have in0 : ∀ w ∈ u_ws RJx4a65c TJx4a65c 3, w ∈ wsJx4a65c_grow_92f84 := fun w h => List.mem_cons_of_mem _ (List.mem_append_right _ (h))
  have hkc : 0 ≤ mc := Nat.zero_le _
  have hks : 0 ≤ ms := Nat.zero_le _
  have hmR : mc ≤ (headSpec wsJx4a65c_grow_92f84 ({ frames := 3, cells := mc, slots := ms, locals := 104 } : Room)).room.cells := Nat.le_refl _
  have hsR : ms ≤ (headSpec wsJx4a65c_grow_92f84 ({ frames := 3, cells := mc, slots := ms, locals := 104 } : Room)).room.slots := Nat.le_refl _
  have hao := hG.2.2.2.2.2.2.2.2.2.2.2.2.2.1.1
  have b20 : ∀ (S : qs_S) (a0 : Nat) (x1 : Int32) (x2 : Int32) (H : Heap) (locs : List Loc) (k n : Nat) (ls : Array Slot), k ≤ mc → n ≤ ms → wp_Jx4a65c_grow_92f84_b20 g.2.2.2.2.2.2.1 g.2.2.2.2.2.2.2 mc ms post k n S a0 x1 x2 → qs_Gd g (qs_F g SA s.heap.size) s S H locs → lv_has ls 4 [(0, .ref a0), (1, .int x1), (2, .int x2)] → W p l e (headSpec wsJx4a65c_grow_92f84 ({ frames := 3, cells := mc, slots := ms, locals := 104 } : Room)).room s m (([.ref a0z, .int x1z] : List Value)).toArray below meth c H locs k n (MQ below (qs_Qq g (qs_F g SA s.heap.size) post) (([.ref a0z, .int x1z] : List Value)).toArray s mc ms (qs_F g SA s.heap.size)) (F0 m 20 ls []) := by
    intro S a0 x1 x2 H locs k n ls hkc hks h hG hl
    unfold wp_Jx4a65c_grow_92f84_b20 at h
    refine lv_iload_n hx hb dJx4a65c_grow_92f84_20 rfl (lv_at hl 2 rfl) ?_
    refine lv_iload_n hx hb dJx4a65c_grow_92f84_21 rfl (lv_at hl 1 rfl) ?_
    refine lv_iload_n hx hb dJx4a65c_grow_92f84_22 rfl (lv_at hl 2 rfl) ?_
    refine lv_isub hx hb dJx4a65c_grow_92f84_23 ?_
    refine lv_topi (fun v1 ev1 => ?_)
    have h := h v1 ev1
    refine lv_iload_n hx hb dJx4a65c_grow_92f84_24 rfl (lv_at hl 2 rfl) ?_
    refine lv_iconst (v := (1 : Int32)) hx hb dJx4a65c_grow_92f84_25 (by decide +kernel) ?_
    refine lv_ishr hx hb dJx4a65c_grow_92f84_26 ?_
    refine lv_topi (fun v2 ev2 => ?_)
    have h := h v2 ev2
    refine qc_i hG (va_runS (As := [.int x2, .int v1, .int v2]) (rest := []) ⟨hx, hb, hml, hown, hts⟩ (c_J8_newLength_cabcc l g _ S x2 v1 v2 h) (va_cwS 3 hts gJx4a65c_grow_92f84_J8_newLength_cabcc rfl rfl rfl (by decide +kernel) ⟨(Nat.le_of_ble_eq_true rfl), (Nat.le_of_ble_eq_true rfl)⟩) ⟨qs_Pc.blind _ _ _ _, hG.pre _⟩ rfl rfl hl.1 rfl (lv_room (Nat.le_of_ble_eq_true rfl)) dJx4a65c_grow_92f84_27 ⟨Nat.le_trans hkc hmR, Nat.le_trans hks hsR⟩) (fun v6 S5 H locs h hG => ?_)
    refine lv_istore_n (lv' := [(3, .int v6), (0, .ref a0), (1, .int x1), (2, .int x2)]) hx hb dJx4a65c_grow_92f84_30 rfl hl (by decide) rfl (fun ls hl => ?_)
    refine lv_aload_n hx hb dJx4a65c_grow_92f84_31 rfl (lv_at hl 1 rfl) ?_
    refine lv_aload_n hx hb dJx4a65c_grow_92f84_32 rfl (lv_at hl 1 rfl) ?_
    obtain ⟨⟨hL7, hK8⟩, h⟩ := h
    obtain ⟨q9, eq9, h⟩ := h
    refine qr_get (C := RJx4a65c) (T := TJx4a65c) (N := 3) (ci := 0) hx hb hts in0 hown hG hL7 hK8 (by decide) rfl 1 (by decide) rfl (hts (.fieldLink RJx4a65c 9 "java/util/ArrayList" "elementData" "[Ljava/lang/Object;") (List.mem_of_getElem? (i := 1) rfl)) (fun _ h9 => h9) (v := .ref q9) (qs_rf eq9) dJx4a65c_grow_92f84_33 ?_
    refine lv_iload_n hx hb dJx4a65c_grow_92f84_36 rfl (lv_at hl 0 rfl) ?_
    obtain ⟨mck10, msk10, ⟨hs11c, hs11s⟩, h⟩ := h
    refine qc_q hG (va_runS (As := [.ref q9, .int v6]) (rest := [.ref a0]) ⟨hx, hb, hml, hown, hts⟩ (c_J7_copyOf_1904c l g _ S5 q9 v6 h) (va_cwS 2 hts gJx4a65c_grow_92f84_J7_copyOf_1904c rfl rfl rfl (by decide +kernel) ⟨(Nat.le_of_ble_eq_true rfl), (Nat.le_of_ble_eq_true rfl)⟩) ⟨qs_Pc.blind _ _ _ _, hG.pre _⟩ rfl rfl hl.1 rfl (lv_room (Nat.le_of_ble_eq_true rfl)) dJx4a65c_grow_92f84_37 ⟨Nat.le_trans hs11c hmR, Nat.le_trans hs11s hsR⟩) (fun o13 S12 H locs h hG => ?_)
    have hkc := hs11c
    have hks := hs11s
    obtain ⟨q14, rfl, h⟩ := h
    refine lv_dup_x1 hx hb dJx4a65c_grow_92f84_40 rfl rfl ?_
    obtain ⟨⟨hL15, hK16⟩, h⟩ := h
    refine qr_putR (C := RJx4a65c) (T := TJx4a65c) (N := 3) (ci := 0) hx hb hts in0 tyJx4a65c tyJx4a65c_ok nmJx4a65c hown hG hL15 hK16 (by decide) rfl 1 (by decide) rfl (hts (.fieldLink RJx4a65c 9 "java/util/ArrayList" "elementData" "[Ljava/lang/Object;") (List.mem_of_getElem? (i := 1) rfl)) (fun _ h9 => h9) rfl (x := some q14) rfl (tyJx4a65c_ok 1 (by decide)) rfl rfl dJx4a65c_grow_92f84_41 (fun H locs hG => ?_)
    exact qe_q (o := (some q14)) hx hb hr hlk rfl (Or.inr ⟨_, rfl⟩) hG h hkc hks dJx4a65c_grow_92f84_44
  have hl := lv_entry ([.ref a0z, .int x1z]) (n := 4) (Nat.le_of_ble_eq_true rfl)
  rw [lg_entry_eq]
  generalize (lg_sl ([.ref a0z, .int x1z]) ++ List.replicate (4 - (lg_sl ([.ref a0z, .int x1z])).length) Slot.unset).toArray = ls at hl ⊢
  have hl : lv_has ls 4 [(0, .ref a0z), (1, .int x1z)] := hl
  unfold wp_Jx4a65c_grow_92f84 at h
  refine lv_aload_n hx hb dJx4a65c_grow_92f84_0 rfl (lv_at hl 0 rfl) ?_
  obtain ⟨⟨hL17, hK18⟩, h⟩ := h
  obtain ⟨q19, eq19, h⟩ := h
  refine qr_get (C := RJx4a65c) (T := TJx4a65c) (N := 3) (ci := 0) hx hb hts in0 hown hG hL17 hK18 (by decide) rfl 1 (by decide) rfl (hts (.fieldLink RJx4a65c 9 "java/util/ArrayList" "elementData" "[Ljava/lang/Object;") (List.mem_of_getElem? (i := 1) rfl)) (fun _ h9 => h9) (v := .ref q19) (qs_rf eq19) dJx4a65c_grow_92f84_1 ?_
  obtain ⟨hL20, h⟩ := h
  refine qr_alen hx hb hG hL20 dJx4a65c_grow_92f84_4 ?_
  refine lv_topi (fun v21 ev21 => ?_)
  have h := h v21 ev21
  refine lv_istore_n (lv' := [(2, .int v21), (0, .ref a0z), (1, .int x1z)]) hx hb dJx4a65c_grow_92f84_5 rfl hl (by decide) rfl (fun ls hl => ?_)
  refine lv_iload_n hx hb dJx4a65c_grow_92f84_6 rfl (lv_at hl 0 rfl) ?_
  refine lv_if_gt (tgt := 20) hx hb dJx4a65c_grow_92f84_7 (by decide) (fun c22 => ?_) (fun c22 => ?_)
  · have h := h.1 c22
    exact b20 SA a0z x1z v21 _ _ 0 0 ls hkc hks h hG (lv_sub hl [1, 2, 0] rfl)
  · have h := h.2 c22
    refine lv_aload_n hx hb dJx4a65c_grow_92f84_10 rfl (lv_at hl 1 rfl) ?_
    obtain ⟨q23, eq23, h⟩ := h
    refine qr_get (C := RJx4a65c) (T := TJx4a65c) (N := 3) (ci := 0) hx hb hts in0 hown hG hL17 hK18 (by decide) rfl 1 (by decide) rfl (hts (.fieldLink RJx4a65c 9 "java/util/ArrayList" "elementData" "[Ljava/lang/Object;") (List.mem_of_getElem? (i := 1) rfl)) (fun _ h9 => h9) (v := .ref q23) (qs_rf eq23) dJx4a65c_grow_92f84_11 ?_
    refine qr_empty hx hb hG hown (hts (.fieldLink RJx4a65c 39 "java/util/ArrayList" "DEFAULTCAPACITY_EMPTY_ELEMENTDATA" "[Ljava/lang/Object;") (List.mem_of_getElem? (i := 2) rfl)) (fun _ h9 => h9) dJx4a65c_grow_92f84_14 ?_
    refine lv_acmp_eq (rx := (some q23)) (ry := (some g.2.2.2.2.2.2.1)) (tgt := 45) hx hb dJx4a65c_grow_92f84_17 (by decide) (fun c24 => ?_) (fun c24 => ?_)
    · have h := h.1 (Option.some.inj c24)
      refine lv_aload_n hx hb dJx4a65c_grow_92f84_45 rfl (lv_at hl 1 rfl) ?_
      refine lv_bipush (v := (10 : Int32)) hx hb dJx4a65c_grow_92f84_46 (by decide +kernel) ?_
      refine lv_iload_n hx hb dJx4a65c_grow_92f84_48 rfl (lv_at hl 2 rfl) ?_
      refine va_mmax hx hb (hml.trans hl.1.symm) hown (hts (.methodLink RJx4a65c 79 Lib.Math.max.name) (List.mem_of_getElem? (i := 3) rfl)) (hts (.static Lib.Math.max.name) (List.mem_of_getElem? (i := 4) rfl)) (hts (.initialized "java/lang/Math") (List.mem_of_getElem? (i := 5) rfl)) (hts (.code Lib.Math.max.name Lib.Math.max.code 2 (some .int)) (List.mem_of_getElem? (i := 6) rfl)) (Nat.le_of_ble_eq_true rfl) (Nat.le_of_ble_eq_true rfl) (Nat.le_trans hkc hmR) (Nat.le_trans hks hsR) dJx4a65c_grow_92f84_49 ?_
      refine lv_topi (fun v25 ev25 => ?_)
      have h := h v25 ev25
      obtain ⟨⟨⟨hs27c, hs27s⟩, hs27n, hs27b⟩, h⟩ := h
      refine qr_newO hx hb hown (hts (.classLink RJx4a65c 7 "java/lang/Object") (List.mem_of_getElem? (i := 7) rfl)) hao hG hs27n rfl hs27b (Nat.le_trans hs27c hmR) (Nat.le_trans hs27s hsR) dJx4a65c_grow_92f84_52 (fun q26 H hq28 hq28t hG => ?_)
      have hkc := hs27c
      have hks := hs27s
      have h := h q26 hq28 hq28t
      have hL29 := qs_nAL (S := SA) (q := q26) (ci := 10) (n := v25.toNatClampNeg) hL17
      have hK30 := qs_nAK (S := SA) (q := q26) (ci := 10) (n := v25.toNatClampNeg) hq28 hL17 hK18
      have hL31 := qs_nAN (S := SA) (q := q26) (ci := 10) (n := v25.toNatClampNeg)
      have hK32 := qs_nAM (S := SA) (q := q26) (ci := 10) (n := v25.toNatClampNeg)
      refine lv_dup_x1 hx hb dJx4a65c_grow_92f84_55 rfl rfl ?_
      refine qr_putR (C := RJx4a65c) (T := TJx4a65c) (N := 3) (ci := 0) hx hb hts in0 tyJx4a65c tyJx4a65c_ok nmJx4a65c hown hG hL29 hK30 (by decide) rfl 1 (by decide) rfl (hts (.fieldLink RJx4a65c 9 "java/util/ArrayList" "elementData" "[Ljava/lang/Object;") (List.mem_of_getElem? (i := 1) rfl)) (fun _ h9 => h9) rfl (x := some q26) rfl (tyJx4a65c_ok 1 (by decide)) rfl rfl dJx4a65c_grow_92f84_56 (fun H locs hG => ?_)
      exact qe_q (o := (some q26)) hx hb hr hlk rfl (Or.inr ⟨_, rfl⟩) hG h hkc hks dJx4a65c_grow_92f84_59
    · have h := h.2 (fun z => c24 (congrArg some z))
      exact b20 SA a0z x1z v21 _ _ 0 0 ls hkc hks h hG (lv_sub hl [1, 2, 0] rfl)
def wp_Jx4a65c_grow_d5877 (t0 m9 : Nat) (mc ms : Nat) (post : Option Nat → qs_S → Prop) (SA : qs_S) (a0z : Nat) : Prop := (a0z ∈ qs_L SA ∧ qs_K SA a0z = 0) ∧ (∀ v3 : Int32, v3 = qs_I SA 2 a0z → ∀ v4 : Int32, v4 = v3 + (1 : Int32) → ∃ mck5 msk5 : Nat, (0 + mck5 ≤ mc ∧ 0 + msk5 ≤ ms) ∧ (wp_Jx4a65c_grow_92f84 t0 m9 mck5 msk5 (fun (o8 : Option Nat) (S7 : qs_S) => ∃ q9 : Nat, o8 = some q9 ∧ (post (some q9) S7)) SA a0z v4))
set_option maxHeartbeats 4000000 in
set_option maxRecDepth 100000 in
theorem c_Jx4a65c_grow_d5877 (l : Launch) (g : qs_G) (sz : Nat) (SA : qs_S) (a0z : Nat) {mc ms : Nat} {post : Option Nat → qs_S → Prop} (h : wp_Jx4a65c_grow_d5877 g.2.2.2.2.2.2.1 g.2.2.2.2.2.2.2 mc ms post SA a0z) : Met l yJx4a65c_grow_d5877 wsJx4a65c_grow_d5877 ({ frames := 4, cells := mc, slots := ms, locals := 127 } : Room) (qs_Pc g sz SA [.ref a0z]) (qs_Qq g (qs_F g SA sz) post) mc ms (qs_F g SA sz) := by
  refine Met.ofW (cc := cJx4a65c_grow_d5877) (maxL := 1) (ret := (some (.array (.object "java/lang/Object")))) (by decide +kernel) rfl ?_
  intro p e s m args below meth c s₁ B hml hv
  obtain ⟨rfl, hsz, hG⟩ := qs_Gd.start hv
  subst hsz
  have hx := B.exec
  have hb := B.bytes
  have hr := B.returns
  have hts := atoms_spec (ws := wsJx4a65c_grow_d5877) B.pre
  have hown : s.vm.findClass RJx4a65c = some m.cls := findClass_of_methodNamed B.named
  have hlk := B.notSynchronized
  have in0 : ∀ w ∈ u_ws RJx4a65c TJx4a65c 3, w ∈ wsJx4a65c_grow_d5877 := fun w h => List.mem_cons_of_mem _ (List.mem_append_right _ (h))
  have hkc : 0 ≤ mc := Nat.zero_le _
  have hks : 0 ≤ ms := Nat.zero_le _
  have hmR : mc ≤ (headSpec wsJx4a65c_grow_d5877 ({ frames := 4, cells := mc, slots := ms, locals := 127 } : Room)).room.cells := Nat.le_refl _
  have hsR : ms ≤ (headSpec wsJx4a65c_grow_d5877 ({ frames := 4, cells := mc, slots := ms, locals := 127 } : Room)).room.slots := Nat.le_refl _
  have hl := lv_entry ([.ref a0z]) (n := 1) (Nat.le_of_ble_eq_true rfl)
  rw [lg_entry_eq]
  generalize (lg_sl ([.ref a0z]) ++ List.replicate (1 - (lg_sl ([.ref a0z])).length) Slot.unset).toArray = ls at hl ⊢
  have hl : lv_has ls 1 [(0, .ref a0z)] := hl
  unfold wp_Jx4a65c_grow_d5877 at h
  refine lv_aload_n hx hb dJx4a65c_grow_d5877_0 rfl (lv_at hl 0 rfl) ?_
  refine lv_aload_n hx hb dJx4a65c_grow_d5877_1 rfl (lv_at hl 0 rfl) ?_
  obtain ⟨⟨hL1, hK2⟩, h⟩ := h
  refine qr_get (C := RJx4a65c) (T := TJx4a65c) (N := 3) (ci := 0) hx hb hts in0 hown hG hL1 hK2 (by decide) rfl 2 (by decide) rfl (hts (.fieldLink RJx4a65c 48 "java/util/ArrayList" "size" "I") (List.mem_of_getElem? (i := 1) rfl)) (fun _ h9 => h9) (v := .int (qs_I SA 2 a0z)) rfl dJx4a65c_grow_d5877_2 ?_
  refine lv_topi (fun v3 ev3 => ?_)
  have h := h v3 ev3
  refine lv_iconst (v := (1 : Int32)) hx hb dJx4a65c_grow_d5877_5 (by decide +kernel) ?_
  refine lv_iadd hx hb dJx4a65c_grow_d5877_6 ?_
  refine lv_topi (fun v4 ev4 => ?_)
  have h := h v4 ev4
  obtain ⟨mck5, msk5, ⟨hs6c, hs6s⟩, h⟩ := h
  refine qc_q hG (va_runV (As := [.int v4]) (rest := []) ⟨hx, hb, hml, hown, hts⟩ (c_Jx4a65c_grow_92f84 l g _ SA a0z v4 h) (cwV 1 hts gJx4a65c_grow_d5877_Jx4a65c_grow_92f84 rfl rfl rfl (by decide +kernel) ⟨(Nat.le_of_ble_eq_true rfl), (Nat.le_of_ble_eq_true rfl)⟩) ⟨qs_Pc.blind _ _ _ _, hG.recv hL1 hK2 (by decide) rfl, hG.pre _⟩ rfl rfl hl.1 rfl (lv_room (Nat.le_of_ble_eq_true rfl)) dJx4a65c_grow_d5877_7 ⟨Nat.le_trans hs6c hmR, Nat.le_trans hs6s hsR⟩) (fun o8 S7 H locs h hG => ?_)
  have hkc := hs6c
  have hks := hs6s
  obtain ⟨q9, rfl, h⟩ := h
  exact qe_q (o := (some q9)) hx hb hr hlk rfl (Or.inr ⟨_, rfl⟩) hG h hkc hks dJx4a65c_grow_d5877_10
def wp_Jx4a65c_add_72be8_b11 (t0 m9 : Nat) (mc ms : Nat) (post : qs_S → Prop) (k n : Nat) (S : qs_S) (a0 : Nat) (a1 : Nat) (a2 : Nat) (x3 : Int32) : Prop := (a2 ∈ qs_L S ∧ qs_K S a2 = 10) ∧ (vp_in x3 (qs_Z S a2) ∧ ((a1 ∈ qs_L S ∧ qs_K S a1 < 8) ∧ (∀ v6 : Int32, v6 = x3 + (1 : Int32) → (a0 ∈ qs_L (qs_wO S a2 x3.toNatClampNeg (some a1)) ∧ qs_K (qs_wO S a2 x3.toNatClampNeg (some a1)) a0 = 0) ∧ (post (qs_wI (qs_wO S a2 x3.toNatClampNeg (some a1)) 2 a0 v6)))))
def wp_Jx4a65c_add_72be8 (t0 m9 : Nat) (mc ms : Nat) (post : qs_S → Prop) (SA : qs_S) (a0z : Nat) (a1z : Nat) (a2z : Nat) (x3z : Int32) : Prop := (a2z = t0 ∨ (a2z ∈ qs_L SA ∧ qs_K SA a2z = 10)) ∧ (∀ v10 : Int32, v10 = nI (qs_len t0 SA a2z) → (¬ x3z = v10 → (wp_Jx4a65c_add_72be8_b11 t0 m9 mc ms post 0 0 SA a0z a1z a2z x3z)) ∧ (x3z = v10 → ((a0z ∈ qs_L SA ∧ qs_K SA a0z = 0) ∧ (∃ mck12 msk12 : Nat, (0 + mck12 ≤ mc ∧ 0 + msk12 ≤ ms) ∧ (wp_Jx4a65c_grow_d5877 t0 m9 mck12 msk12 (fun (o17 : Option Nat) (S16 : qs_S) => ∃ q18 : Nat, o17 = some q18 ∧ (wp_Jx4a65c_add_72be8_b11 t0 m9 mc ms post (0 + mck12) (0 + msk12) S16 a0z a1z q18 x3z)) SA a0z)))))
set_option maxHeartbeats 4000000 in
set_option maxRecDepth 100000 in
theorem c_Jx4a65c_add_72be8 (l : Launch) (g : qs_G) (sz : Nat) (SA : qs_S) (a0z : Nat) (a1z : Nat) (a2z : Nat) (x3z : Int32) {mc ms : Nat} {post : qs_S → Prop} (h : wp_Jx4a65c_add_72be8 g.2.2.2.2.2.2.1 g.2.2.2.2.2.2.2 mc ms post SA a0z a1z a2z x3z) : Met l yJx4a65c_add_72be8 wsJx4a65c_add_72be8 ({ frames := 5, cells := mc, slots := ms, locals := 147 } : Room) (qs_Pc g sz SA [.ref a0z, .ref a1z, .ref a2z, .int x3z]) (qs_Qv g (qs_F g SA sz) post) mc ms (qs_F g SA sz) := by
  refine Met.ofW (cc := cJx4a65c_add_72be8) (maxL := 4) (ret := none) (by decide +kernel) rfl ?_
  intro p e s m args below meth c s₁ B hml hv
  obtain ⟨rfl, hsz, hG⟩ := qs_Gd.start hv
  subst hsz
  have hx := B.exec
  have hb := B.bytes
  have hr := B.returns
  have hts := atoms_spec (ws := wsJx4a65c_add_72be8) B.pre
  have hown : s.vm.findClass RJx4a65c = some m.cls := findClass_of_methodNamed B.named
  have hlk := B.notSynchronized
  have in0 : ∀ w ∈ u_ws RJx4a65c TJx4a65c 3, w ∈ wsJx4a65c_add_72be8 := fun w h => List.mem_cons_of_mem _ (List.mem_append_right _ (h))
  have hkc : 0 ≤ mc := Nat.zero_le _
  have hks : 0 ≤ ms := Nat.zero_le _
  have hmR : mc ≤ (headSpec wsJx4a65c_add_72be8 ({ frames := 5, cells := mc, slots := ms, locals := 147 } : Room)).room.cells := Nat.le_refl _
  have hsR : ms ≤ (headSpec wsJx4a65c_add_72be8 ({ frames := 5, cells := mc, slots := ms, locals := 147 } : Room)).room.slots := Nat.le_refl _
  have b11 : ∀ (S : qs_S) (a0 : Nat) (a1 : Nat) (a2 : Nat) (x3 : Int32) (H : Heap) (locs : List Loc) (k n : Nat) (ls : Array Slot), k ≤ mc → n ≤ ms → wp_Jx4a65c_add_72be8_b11 g.2.2.2.2.2.2.1 g.2.2.2.2.2.2.2 mc ms post k n S a0 a1 a2 x3 → qs_Gd g (qs_F g SA s.heap.size) s S H locs → lv_has ls 4 [(0, .ref a0), (1, .ref a1), (2, .ref a2), (3, .int x3)] → W p l e (headSpec wsJx4a65c_add_72be8 ({ frames := 5, cells := mc, slots := ms, locals := 147 } : Room)).room s m (([.ref a0z, .ref a1z, .ref a2z, .int x3z] : List Value)).toArray below meth c H locs k n (MQ below (qs_Qv g (qs_F g SA s.heap.size) post) (([.ref a0z, .ref a1z, .ref a2z, .int x3z] : List Value)).toArray s mc ms (qs_F g SA s.heap.size)) (F0 m 11 ls []) := by
    intro S a0 a1 a2 x3 H locs k n ls hkc hks h hG hl
    unfold wp_Jx4a65c_add_72be8_b11 at h
    refine lv_aload_n hx hb dJx4a65c_add_72be8_11 rfl (lv_at hl 2 rfl) ?_
    refine lv_iload_n hx hb dJx4a65c_add_72be8_12 rfl (lv_at hl 3 rfl) ?_
    refine lv_aload_n hx hb dJx4a65c_add_72be8_13 rfl (lv_at hl 1 rfl) ?_
    obtain ⟨⟨hL1, hK2⟩, h⟩ := h
    obtain ⟨hi3, h⟩ := h
    obtain ⟨⟨hL4, hK5⟩, h⟩ := h
    refine qr_aast hx hb hG hL1 hK2 hi3 hL4 hK5 dJx4a65c_add_72be8_14 (fun H locs hG => ?_)
    refine lv_aload_n hx hb dJx4a65c_add_72be8_15 rfl (lv_at hl 0 rfl) ?_
    refine lv_iload_n hx hb dJx4a65c_add_72be8_16 rfl (lv_at hl 3 rfl) ?_
    refine lv_iconst (v := (1 : Int32)) hx hb dJx4a65c_add_72be8_17 (by decide +kernel) ?_
    refine lv_iadd hx hb dJx4a65c_add_72be8_18 ?_
    refine lv_topi (fun v6 ev6 => ?_)
    have h := h v6 ev6
    obtain ⟨⟨hL7, hK8⟩, h⟩ := h
    refine qr_putI (C := RJx4a65c) (T := TJx4a65c) (N := 3) (ci := 0) hx hb hts in0 tyJx4a65c tyJx4a65c_ok nmJx4a65c hown hG hL7 hK8 (by decide) rfl 2 (by decide) rfl (hts (.fieldLink RJx4a65c 48 "java/util/ArrayList" "size" "I") (List.mem_of_getElem? (i := 1) rfl)) (fun _ h9 => h9) rfl (x := v6) (tyJx4a65c_ok 2 (by decide)) rfl rfl dJx4a65c_add_72be8_19 (fun H locs hG => ?_)
    exact qe_v hx hb hr hlk hG h hkc hks dJx4a65c_add_72be8_22
  have hl := lv_entry ([.ref a0z, .ref a1z, .ref a2z, .int x3z]) (n := 4) (Nat.le_of_ble_eq_true rfl)
  rw [lg_entry_eq]
  generalize (lg_sl ([.ref a0z, .ref a1z, .ref a2z, .int x3z]) ++ List.replicate (4 - (lg_sl ([.ref a0z, .ref a1z, .ref a2z, .int x3z])).length) Slot.unset).toArray = ls at hl ⊢
  have hl : lv_has ls 4 [(0, .ref a0z), (1, .ref a1z), (2, .ref a2z), (3, .int x3z)] := hl
  unfold wp_Jx4a65c_add_72be8 at h
  refine lv_iload_n hx hb dJx4a65c_add_72be8_0 rfl (lv_at hl 3 rfl) ?_
  refine lv_aload_n hx hb dJx4a65c_add_72be8_1 rfl (lv_at hl 2 rfl) ?_
  obtain ⟨hL9, h⟩ := h
  refine qr_alen hx hb hG hL9 dJx4a65c_add_72be8_2 ?_
  refine lv_topi (fun v10 ev10 => ?_)
  have h := h v10 ev10
  refine lv_icmp_ne (tgt := 11) hx hb dJx4a65c_add_72be8_3 (by decide) (fun c11 => ?_) (fun c11 => ?_)
  · have h := h.1 c11
    exact b11 SA a0z a1z a2z x3z _ _ 0 0 ls hkc hks h hG (lv_sub hl [0, 1, 2, 3] rfl)
  · have h := h.2 c11
    refine lv_aload_n hx hb dJx4a65c_add_72be8_6 rfl (lv_at hl 0 rfl) ?_
    obtain ⟨⟨hL14, hK15⟩, h⟩ := h
    obtain ⟨mck12, msk12, ⟨hs13c, hs13s⟩, h⟩ := h
    refine qc_q hG (va_runV (As := []) (rest := []) ⟨hx, hb, hml, hown, hts⟩ (c_Jx4a65c_grow_d5877 l g _ SA a0z h) (cwV 0 hts gJx4a65c_add_72be8_Jx4a65c_grow_d5877 rfl rfl rfl (by decide +kernel) ⟨(Nat.le_of_ble_eq_true rfl), (Nat.le_of_ble_eq_true rfl)⟩) ⟨qs_Pc.blind _ _ _ _, hG.recv hL14 hK15 (by decide) rfl, hG.pre _⟩ rfl rfl hl.1 rfl (lv_room (Nat.le_of_ble_eq_true rfl)) dJx4a65c_add_72be8_7 ⟨Nat.le_trans hs13c hmR, Nat.le_trans hs13s hsR⟩) (fun o17 S16 H locs h hG => ?_)
    have hkc := hs13c
    have hks := hs13s
    obtain ⟨q18, rfl, h⟩ := h
    refine lv_astore_n (lv' := [(2, .ref q18), (0, .ref a0z), (1, .ref a1z), (3, .int x3z)]) hx hb dJx4a65c_add_72be8_10 rfl hl (by decide) rfl (fun ls hl => ?_)
    exact b11 S16 a0z a1z q18 x3z _ _ (0 + mck12) (0 + msk12) ls hkc hks h hG (lv_sub hl [1, 2, 0, 3] rfl)
def wp_Jx4a65c_add_9ea2d (t0 m9 : Nat) (mc ms : Nat) (post : Int32 → qs_S → Prop) (SA : qs_S) (a0z : Nat) (a1z : Nat) : Prop := (a0z ∈ qs_L SA ∧ qs_K SA a0z = 0) ∧ (∀ v3 : Int32, v3 = qs_I SA 0 a0z → ∀ v4 : Int32, v4 = v3 + (1 : Int32) → ∃ q5 : Nat, qs_R (qs_wI SA 0 a0z v4) 1 a0z = some q5 ∧ (∀ v6 : Int32, v6 = qs_I (qs_wI SA 0 a0z v4) 2 a0z → ∃ mck7 msk7 : Nat, (0 + mck7 ≤ mc ∧ 0 + msk7 ≤ ms) ∧ (wp_Jx4a65c_add_72be8 t0 m9 mck7 msk7 (fun (S9 : qs_S) => post (1 : Int32) S9) (qs_wI SA 0 a0z v4) a0z a1z q5 v6)))
set_option maxHeartbeats 4000000 in
set_option maxRecDepth 100000 in
theorem c_Jx4a65c_add_9ea2d (l : Launch) (g : qs_G) (sz : Nat) (SA : qs_S) (a0z : Nat) (a1z : Nat) {mc ms : Nat} {post : Int32 → qs_S → Prop} (h : wp_Jx4a65c_add_9ea2d g.2.2.2.2.2.2.1 g.2.2.2.2.2.2.2 mc ms post SA a0z a1z) : Met l yJx4a65c_add_9ea2d wsJx4a65c_add_9ea2d ({ frames := 6, cells := mc, slots := ms, locals := 170 } : Room) (qs_Pc g sz SA [.ref a0z, .ref a1z]) (qs_Qi g (qs_F g SA sz) post) mc ms (qs_F g SA sz) := by
  refine Met.ofW (cc := cJx4a65c_add_9ea2d) (maxL := 2) (ret := (some .boolean)) (by decide +kernel) rfl ?_
  intro p e s m args below meth c s₁ B hml hv
  obtain ⟨rfl, hsz, hG⟩ := qs_Gd.start hv
  subst hsz
  have hx := B.exec
  have hb := B.bytes
  have hr := B.returns
  have hts := atoms_spec (ws := wsJx4a65c_add_9ea2d) B.pre
  have hown : s.vm.findClass RJx4a65c = some m.cls := findClass_of_methodNamed B.named
  have hlk := B.notSynchronized
  have in0 : ∀ w ∈ u_ws RJx4a65c TJx4a65c 3, w ∈ wsJx4a65c_add_9ea2d := fun w h => List.mem_cons_of_mem _ (List.mem_append_right _ (h))
  have hkc : 0 ≤ mc := Nat.zero_le _
  have hks : 0 ≤ ms := Nat.zero_le _
  have hmR : mc ≤ (headSpec wsJx4a65c_add_9ea2d ({ frames := 6, cells := mc, slots := ms, locals := 170 } : Room)).room.cells := Nat.le_refl _
  have hsR : ms ≤ (headSpec wsJx4a65c_add_9ea2d ({ frames := 6, cells := mc, slots := ms, locals := 170 } : Room)).room.slots := Nat.le_refl _
  have hl := lv_entry ([.ref a0z, .ref a1z]) (n := 2) (Nat.le_of_ble_eq_true rfl)
  rw [lg_entry_eq]
  generalize (lg_sl ([.ref a0z, .ref a1z]) ++ List.replicate (2 - (lg_sl ([.ref a0z, .ref a1z])).length) Slot.unset).toArray = ls at hl ⊢
  have hl : lv_has ls 2 [(0, .ref a0z), (1, .ref a1z)] := hl
  unfold wp_Jx4a65c_add_9ea2d at h
  refine lv_aload_n hx hb dJx4a65c_add_9ea2d_0 rfl (lv_at hl 0 rfl) ?_
  refine lv_dup hx hb dJx4a65c_add_9ea2d_1 rfl ?_
  obtain ⟨⟨hL1, hK2⟩, h⟩ := h
  refine qr_get (C := RJx4a65c) (T := TJx4a65c) (N := 3) (ci := 0) hx hb hts in0 hown hG hL1 hK2 (by decide) rfl 0 (by decide) rfl (hts (.fieldLink RJx4a65c 63 "java/util/ArrayList" "modCount" "I") (List.mem_of_getElem? (i := 1) rfl)) (u_same (hts (.sameField "java/util/ArrayList" "java/util/AbstractList" "modCount" "I") (List.mem_of_getElem? (i := 2) rfl))) (v := .int (qs_I SA 0 a0z)) rfl dJx4a65c_add_9ea2d_2 ?_
  refine lv_topi (fun v3 ev3 => ?_)
  have h := h v3 ev3
  refine lv_iconst (v := (1 : Int32)) hx hb dJx4a65c_add_9ea2d_5 (by decide +kernel) ?_
  refine lv_iadd hx hb dJx4a65c_add_9ea2d_6 ?_
  refine lv_topi (fun v4 ev4 => ?_)
  have h := h v4 ev4
  refine qr_putI (C := RJx4a65c) (T := TJx4a65c) (N := 3) (ci := 0) hx hb hts in0 tyJx4a65c tyJx4a65c_ok nmJx4a65c hown hG hL1 hK2 (by decide) rfl 0 (by decide) rfl (hts (.fieldLink RJx4a65c 63 "java/util/ArrayList" "modCount" "I") (List.mem_of_getElem? (i := 1) rfl)) (u_same (hts (.sameField "java/util/ArrayList" "java/util/AbstractList" "modCount" "I") (List.mem_of_getElem? (i := 2) rfl))) rfl (x := v4) (tyJx4a65c_ok 0 (by decide)) rfl rfl dJx4a65c_add_9ea2d_7 (fun H locs hG => ?_)
  refine lv_aload_n hx hb dJx4a65c_add_9ea2d_10 rfl (lv_at hl 0 rfl) ?_
  refine lv_aload_n hx hb dJx4a65c_add_9ea2d_11 rfl (lv_at hl 1 rfl) ?_
  refine lv_aload_n hx hb dJx4a65c_add_9ea2d_12 rfl (lv_at hl 0 rfl) ?_
  obtain ⟨q5, eq5, h⟩ := h
  refine qr_get (C := RJx4a65c) (T := TJx4a65c) (N := 3) (ci := 0) hx hb hts in0 hown hG hL1 hK2 (by decide) rfl 1 (by decide) rfl (hts (.fieldLink RJx4a65c 9 "java/util/ArrayList" "elementData" "[Ljava/lang/Object;") (List.mem_of_getElem? (i := 3) rfl)) (fun _ h9 => h9) (v := .ref q5) (qs_rf eq5) dJx4a65c_add_9ea2d_13 ?_
  refine lv_aload_n hx hb dJx4a65c_add_9ea2d_16 rfl (lv_at hl 0 rfl) ?_
  refine qr_get (C := RJx4a65c) (T := TJx4a65c) (N := 3) (ci := 0) hx hb hts in0 hown hG hL1 hK2 (by decide) rfl 2 (by decide) rfl (hts (.fieldLink RJx4a65c 48 "java/util/ArrayList" "size" "I") (List.mem_of_getElem? (i := 4) rfl)) (fun _ h9 => h9) (v := .int (qs_I (qs_wI SA 0 a0z v4) 2 a0z)) rfl dJx4a65c_add_9ea2d_17 ?_
  refine lv_topi (fun v6 ev6 => ?_)
  have h := h v6 ev6
  obtain ⟨mck7, msk7, ⟨hs8c, hs8s⟩, h⟩ := h
  refine qc_v hG (va_runV (As := [.ref a1z, .ref q5, .int v6]) (rest := []) ⟨hx, hb, hml, hown, hts⟩ (c_Jx4a65c_add_72be8 l g _ (qs_wI SA 0 a0z v4) a0z a1z q5 v6 h) (cwV 3 hts gJx4a65c_add_9ea2d_Jx4a65c_add_72be8 rfl rfl rfl (by decide +kernel) ⟨(Nat.le_of_ble_eq_true rfl), (Nat.le_of_ble_eq_true rfl)⟩) ⟨qs_Pc.blind _ _ _ _, hG.recv hL1 hK2 (by decide) rfl, hG.pre _⟩ rfl rfl hl.1 rfl (lv_room (Nat.le_of_ble_eq_true rfl)) dJx4a65c_add_9ea2d_20 ⟨Nat.le_trans hs8c hmR, Nat.le_trans hs8s hsR⟩) (fun S9 H locs h hG => ?_)
  have hkc := hs8c
  have hks := hs8s
  refine lv_iconst (v := (1 : Int32)) hx hb dJx4a65c_add_9ea2d_23 (by decide +kernel) ?_
  exact qe_z hx hb hr hlk (Or.inr rfl) hG h hkc hks dJx4a65c_add_9ea2d_24
def wp_Jx4a65c_fastRemove_b59b0_b34 (t0 m9 : Nat) (post : qs_S → Prop) (S : qs_S) (a0 : Nat) (a1 : Nat) (x3 : Int32) : Prop := (a0 ∈ qs_L S ∧ qs_K S a0 = 0) ∧ ((a1 ∈ qs_L (qs_wI S 2 a0 x3) ∧ qs_K (qs_wI S 2 a0 x3) a1 = 10) ∧ (vp_in x3 (qs_Z (qs_wI S 2 a0 x3) a1) ∧ (post (qs_wO (qs_wI S 2 a0 x3) a1 x3.toNatClampNeg none))))
def wp_Jx4a65c_fastRemove_b59b0 (t0 m9 : Nat) (post : qs_S → Prop) (SA : qs_S) (a0z : Nat) (a1z : Nat) (x2z : Int32) : Prop := (a0z ∈ qs_L SA ∧ qs_K SA a0z = 0) ∧ (∀ v8 : Int32, v8 = qs_I SA 0 a0z → ∀ v9 : Int32, v9 = v8 + (1 : Int32) → ∀ v10 : Int32, v10 = qs_I (qs_wI SA 0 a0z v9) 2 a0z → ∀ v11 : Int32, v11 = v10 - (1 : Int32) → (v11 ≤ x2z → (wp_Jx4a65c_fastRemove_b59b0_b34 t0 m9 post (qs_wI SA 0 a0z v9) a0z a1z v11)) ∧ (¬ v11 ≤ x2z → (∀ v13 : Int32, v13 = x2z + (1 : Int32) → ∀ v14 : Int32, v14 = v11 - x2z → (a1z ∈ qs_L (qs_wI SA 0 a0z v9) ∧ qs_K (qs_wI SA 0 a0z v9) a1z = 10) ∧ ((¬ v13 < 0 ∧ ¬ x2z < 0 ∧ ¬ v14 < 0 ∧ v13.toNatClampNeg + v14.toNatClampNeg ≤ qs_Z (qs_wI SA 0 a0z v9) a1z ∧ x2z.toNatClampNeg + v14.toNatClampNeg ≤ qs_Z (qs_wI SA 0 a0z v9) a1z ∧ ∀ i : Nat, i < v14.toNatClampNeg → ∀ y : Nat, qs_O (qs_wI SA 0 a0z v9) a1z (v13.toNatClampNeg + i) = some y → y ∈ qs_L (qs_wI SA 0 a0z v9) ∧ qs_K (qs_wI SA 0 a0z v9) y < 8) ∧ (wp_Jx4a65c_fastRemove_b59b0_b34 t0 m9 post (qs_cO (qs_wI SA 0 a0z v9) a1z a1z v13.toNatClampNeg x2z.toNatClampNeg v14.toNatClampNeg) a0z a1z v11)))))
set_option maxHeartbeats 4000000 in
set_option maxRecDepth 100000 in
theorem c_Jx4a65c_fastRemove_b59b0 (l : Launch) (g : qs_G) (sz : Nat) (SA : qs_S) (a0z : Nat) (a1z : Nat) (x2z : Int32) {post : qs_S → Prop} (h : wp_Jx4a65c_fastRemove_b59b0 g.2.2.2.2.2.2.1 g.2.2.2.2.2.2.2 post SA a0z a1z x2z) : Met l yJx4a65c_fastRemove_b59b0 wsJx4a65c_fastRemove_b59b0 ({ frames := 1, cells := 0, slots := 0, locals := 60 } : Room) (qs_Pc g sz SA [.ref a0z, .ref a1z, .int x2z]) (qs_Qv g (qs_F g SA sz) post) 0 0 (qs_F g SA sz) := by
  refine Met.ofW (cc := cJx4a65c_fastRemove_b59b0) (maxL := 4) (ret := none) (by decide +kernel) rfl ?_
  intro p e s m args below meth c s₁ B hml hv
  obtain ⟨rfl, hsz, hG⟩ := qs_Gd.start hv
  subst hsz
  have hx := B.exec
  have hb := B.bytes
  have hr := B.returns
  have hts := atoms_spec (ws := wsJx4a65c_fastRemove_b59b0) B.pre
  have hown : s.vm.findClass RJx4a65c = some m.cls := findClass_of_methodNamed B.named
  have hlk := B.notSynchronized
  have in0 : ∀ w ∈ u_ws RJx4a65c TJx4a65c 3, w ∈ wsJx4a65c_fastRemove_b59b0 := fun w h => List.mem_cons_of_mem _ (List.mem_append_right _ (h))
  have b34 : ∀ (S : qs_S) (a0 : Nat) (a1 : Nat) (x3 : Int32) (H : Heap) (locs : List Loc) (ls : Array Slot), wp_Jx4a65c_fastRemove_b59b0_b34 g.2.2.2.2.2.2.1 g.2.2.2.2.2.2.2 post S a0 a1 x3 → qs_Gd g (qs_F g SA s.heap.size) s S H locs → lv_has ls 4 [(0, .ref a0), (1, .ref a1), (3, .int x3)] → W p l e (headSpec wsJx4a65c_fastRemove_b59b0 ({ frames := 1, cells := 0, slots := 0, locals := 60 } : Room)).room s m (([.ref a0z, .ref a1z, .int x2z] : List Value)).toArray below meth c H locs 0 0 (MQ below (qs_Qv g (qs_F g SA s.heap.size) post) (([.ref a0z, .ref a1z, .int x2z] : List Value)).toArray s 0 0 (qs_F g SA s.heap.size)) (F0 m 34 ls []) := by
    intro S a0 a1 x3 H locs ls h hG hl
    unfold wp_Jx4a65c_fastRemove_b59b0_b34 at h
    refine lv_aload_n hx hb dJx4a65c_fastRemove_b59b0_34 rfl (lv_at hl 1 rfl) ?_
    refine lv_aload_n hx hb dJx4a65c_fastRemove_b59b0_35 rfl (lv_at hl 0 rfl) ?_
    refine lv_iload_n hx hb dJx4a65c_fastRemove_b59b0_36 rfl (lv_at hl 2 rfl) ?_
    refine lv_dup_x1 hx hb dJx4a65c_fastRemove_b59b0_37 rfl rfl ?_
    obtain ⟨⟨hL1, hK2⟩, h⟩ := h
    refine qr_putI (C := RJx4a65c) (T := TJx4a65c) (N := 3) (ci := 0) hx hb hts in0 tyJx4a65c tyJx4a65c_ok nmJx4a65c hown hG hL1 hK2 (by decide) rfl 2 (by decide) rfl (hts (.fieldLink RJx4a65c 48 "java/util/ArrayList" "size" "I") (List.mem_of_getElem? (i := 3) rfl)) (fun _ h9 => h9) rfl (x := x3) (tyJx4a65c_ok 2 (by decide)) rfl rfl dJx4a65c_fastRemove_b59b0_38 (fun H locs hG => ?_)
    refine lv_null hx hb dJx4a65c_fastRemove_b59b0_41 ?_
    obtain ⟨⟨hL3, hK4⟩, h⟩ := h
    obtain ⟨hi5, h⟩ := h
    refine qr_aastN hx hb hG hL3 hK4 hi5 dJx4a65c_fastRemove_b59b0_42 (fun H locs hG => ?_)
    exact qe_v hx hb hr hlk hG h (Nat.le_refl _) (Nat.le_refl _) dJx4a65c_fastRemove_b59b0_43
  have hl := lv_entry ([.ref a0z, .ref a1z, .int x2z]) (n := 4) (Nat.le_of_ble_eq_true rfl)
  rw [lg_entry_eq]
  generalize (lg_sl ([.ref a0z, .ref a1z, .int x2z]) ++ List.replicate (4 - (lg_sl ([.ref a0z, .ref a1z, .int x2z])).length) Slot.unset).toArray = ls at hl ⊢
  have hl : lv_has ls 4 [(0, .ref a0z), (1, .ref a1z), (2, .int x2z)] := hl
  unfold wp_Jx4a65c_fastRemove_b59b0 at h
  refine lv_aload_n hx hb dJx4a65c_fastRemove_b59b0_0 rfl (lv_at hl 0 rfl) ?_
  refine lv_dup hx hb dJx4a65c_fastRemove_b59b0_1 rfl ?_
  obtain ⟨⟨hL6, hK7⟩, h⟩ := h
  refine qr_get (C := RJx4a65c) (T := TJx4a65c) (N := 3) (ci := 0) hx hb hts in0 hown hG hL6 hK7 (by decide) rfl 0 (by decide) rfl (hts (.fieldLink RJx4a65c 63 "java/util/ArrayList" "modCount" "I") (List.mem_of_getElem? (i := 1) rfl)) (u_same (hts (.sameField "java/util/ArrayList" "java/util/AbstractList" "modCount" "I") (List.mem_of_getElem? (i := 2) rfl))) (v := .int (qs_I SA 0 a0z)) rfl dJx4a65c_fastRemove_b59b0_2 ?_
  refine lv_topi (fun v8 ev8 => ?_)
  have h := h v8 ev8
  refine lv_iconst (v := (1 : Int32)) hx hb dJx4a65c_fastRemove_b59b0_5 (by decide +kernel) ?_
  refine lv_iadd hx hb dJx4a65c_fastRemove_b59b0_6 ?_
  refine lv_topi (fun v9 ev9 => ?_)
  have h := h v9 ev9
  refine qr_putI (C := RJx4a65c) (T := TJx4a65c) (N := 3) (ci := 0) hx hb hts in0 tyJx4a65c tyJx4a65c_ok nmJx4a65c hown hG hL6 hK7 (by decide) rfl 0 (by decide) rfl (hts (.fieldLink RJx4a65c 63 "java/util/ArrayList" "modCount" "I") (List.mem_of_getElem? (i := 1) rfl)) (u_same (hts (.sameField "java/util/ArrayList" "java/util/AbstractList" "modCount" "I") (List.mem_of_getElem? (i := 2) rfl))) rfl (x := v9) (tyJx4a65c_ok 0 (by decide)) rfl rfl dJx4a65c_fastRemove_b59b0_7 (fun H locs hG => ?_)
  refine lv_aload_n hx hb dJx4a65c_fastRemove_b59b0_10 rfl (lv_at hl 0 rfl) ?_
  refine qr_get (C := RJx4a65c) (T := TJx4a65c) (N := 3) (ci := 0) hx hb hts in0 hown hG hL6 hK7 (by decide) rfl 2 (by decide) rfl (hts (.fieldLink RJx4a65c 48 "java/util/ArrayList" "size" "I") (List.mem_of_getElem? (i := 3) rfl)) (fun _ h9 => h9) (v := .int (qs_I (qs_wI SA 0 a0z v9) 2 a0z)) rfl dJx4a65c_fastRemove_b59b0_11 ?_
  refine lv_topi (fun v10 ev10 => ?_)
  have h := h v10 ev10
  refine lv_iconst (v := (1 : Int32)) hx hb dJx4a65c_fastRemove_b59b0_14 (by decide +kernel) ?_
  refine lv_isub hx hb dJx4a65c_fastRemove_b59b0_15 ?_
  refine lv_topi (fun v11 ev11 => ?_)
  have h := h v11 ev11
  refine lv_dup hx hb dJx4a65c_fastRemove_b59b0_16 rfl ?_
  refine lv_istore_n (lv' := [(3, .int v11), (0, .ref a0z), (1, .ref a1z), (2, .int x2z)]) hx hb dJx4a65c_fastRemove_b59b0_17 rfl hl (by decide) rfl (fun ls hl => ?_)
  refine lv_iload_n hx hb dJx4a65c_fastRemove_b59b0_18 rfl (lv_at hl 3 rfl) ?_
  refine lv_icmp_le (tgt := 34) hx hb dJx4a65c_fastRemove_b59b0_19 (by decide) (fun c12 => ?_) (fun c12 => ?_)
  · have h := h.1 c12
    exact b34 (qs_wI SA 0 a0z v9) a0z a1z v11 _ _ ls h hG (lv_sub hl [1, 2, 0] rfl)
  · have h := h.2 c12
    refine lv_aload_n hx hb dJx4a65c_fastRemove_b59b0_22 rfl (lv_at hl 2 rfl) ?_
    refine lv_iload_n hx hb dJx4a65c_fastRemove_b59b0_23 rfl (lv_at hl 3 rfl) ?_
    refine lv_iconst (v := (1 : Int32)) hx hb dJx4a65c_fastRemove_b59b0_24 (by decide +kernel) ?_
    refine lv_iadd hx hb dJx4a65c_fastRemove_b59b0_25 ?_
    refine lv_topi (fun v13 ev13 => ?_)
    have h := h v13 ev13
    refine lv_aload_n hx hb dJx4a65c_fastRemove_b59b0_26 rfl (lv_at hl 2 rfl) ?_
    refine lv_iload_n hx hb dJx4a65c_fastRemove_b59b0_27 rfl (lv_at hl 3 rfl) ?_
    refine lv_iload_n hx hb dJx4a65c_fastRemove_b59b0_28 rfl (lv_at hl 0 rfl) ?_
    refine lv_iload_n hx hb dJx4a65c_fastRemove_b59b0_29 rfl (lv_at hl 3 rfl) ?_
    refine lv_isub hx hb dJx4a65c_fastRemove_b59b0_30 ?_
    refine lv_topi (fun v14 ev14 => ?_)
    have h := h v14 ev14
    obtain ⟨⟨hL15, hK16⟩, h⟩ := h
    obtain ⟨⟨u171, u172, u173, u174, u175, u176⟩, h⟩ := h
    refine qr_copy hx hb (hml.trans hl.1.symm) hown (hts (.methodLink RJx4a65c 112 arraycopyName) (List.mem_of_getElem? (i := 4) rfl)) (hts (.native arraycopyName) (List.mem_of_getElem? (i := 5) rfl)) (hts (.static arraycopyName) (List.mem_of_getElem? (i := 6) rfl)) (hts (.initialized "java/lang/System") (List.mem_of_getElem? (i := 7) rfl)) hG hL15 hK16 hL15 hK16 u171 u172 u173 u174 u175 u176 (Nat.le_of_ble_eq_true rfl) (Nat.le_of_ble_eq_true rfl) dJx4a65c_fastRemove_b59b0_31 (fun H locs hG => ?_)
    exact b34 (qs_cO (qs_wI SA 0 a0z v9) a1z a1z v13.toNatClampNeg x2z.toNatClampNeg v14.toNatClampNeg) a0z a1z v11 _ _ ls h hG (lv_sub hl [1, 2, 0] rfl)
def wp_Jx4a65c_remove_915e3 (t0 m9 : Nat) (post : Option Nat → qs_S → Prop) (SA : qs_S) (a0z : Nat) (x1z : Int32) : Prop := (a0z ∈ qs_L SA ∧ qs_K SA a0z = 0) ∧ (∀ v3 : Int32, v3 = qs_I SA 2 a0z → wp_J15_checkIndex_7cf53 t0 m9 (fun (v7 : Int32) (S6 : qs_S) => (a0z ∈ qs_L S6 ∧ qs_K S6 a0z = 0) ∧ (∃ q10 : Nat, qs_R S6 1 a0z = some q10 ∧ ((q10 ∈ qs_L S6 ∧ qs_K S6 q10 = 10) ∧ (vp_in x1z (qs_Z S6 q10) ∧ (∃ q14 : Nat, qs_O S6 q10 x1z.toNatClampNeg = some q14 ∧ (wp_Jx4a65c_fastRemove_b59b0 t0 m9 (fun (S17 : qs_S) => post (some q14) S17) S6 a0z q10 x1z)))))) SA x1z v3)
set_option maxHeartbeats 4000000 in
set_option maxRecDepth 100000 in
theorem c_Jx4a65c_remove_915e3 (l : Launch) (g : qs_G) (sz : Nat) (SA : qs_S) (a0z : Nat) (x1z : Int32) {post : Option Nat → qs_S → Prop} (h : wp_Jx4a65c_remove_915e3 g.2.2.2.2.2.2.1 g.2.2.2.2.2.2.2 post SA a0z x1z) : Met l yJx4a65c_remove_915e3 wsJx4a65c_remove_915e3 ({ frames := 2, cells := 0, slots := 0, locals := 83 } : Room) (qs_Pc g sz SA [.ref a0z, .int x1z]) (qs_Qq g (qs_F g SA sz) post) 0 0 (qs_F g SA sz) := by
  refine Met.ofW (cc := cJx4a65c_remove_915e3) (maxL := 4) (ret := (some (.object "java/lang/Object"))) (by decide +kernel) rfl ?_
  intro p e s m args below meth c s₁ B hml hv
  obtain ⟨rfl, hsz, hG⟩ := qs_Gd.start hv
  subst hsz
  have hx := B.exec
  have hb := B.bytes
  have hr := B.returns
  have hts := atoms_spec (ws := wsJx4a65c_remove_915e3) B.pre
  have hown : s.vm.findClass RJx4a65c = some m.cls := findClass_of_methodNamed B.named
  have hlk := B.notSynchronized
  have in0 : ∀ w ∈ u_ws RJx4a65c TJx4a65c 3, w ∈ wsJx4a65c_remove_915e3 := fun w h => List.mem_cons_of_mem _ (List.mem_append_right _ (h))
  have hl := lv_entry ([.ref a0z, .int x1z]) (n := 4) (Nat.le_of_ble_eq_true rfl)
  rw [lg_entry_eq]
  generalize (lg_sl ([.ref a0z, .int x1z]) ++ List.replicate (4 - (lg_sl ([.ref a0z, .int x1z])).length) Slot.unset).toArray = ls at hl ⊢
  have hl : lv_has ls 4 [(0, .ref a0z), (1, .int x1z)] := hl
  unfold wp_Jx4a65c_remove_915e3 at h
  refine lv_iload_n hx hb dJx4a65c_remove_915e3_0 rfl (lv_at hl 1 rfl) ?_
  refine lv_aload_n hx hb dJx4a65c_remove_915e3_1 rfl (lv_at hl 0 rfl) ?_
  obtain ⟨⟨hL1, hK2⟩, h⟩ := h
  refine qr_get (C := RJx4a65c) (T := TJx4a65c) (N := 3) (ci := 0) hx hb hts in0 hown hG hL1 hK2 (by decide) rfl 2 (by decide) rfl (hts (.fieldLink RJx4a65c 48 "java/util/ArrayList" "size" "I") (List.mem_of_getElem? (i := 1) rfl)) (fun _ h9 => h9) (v := .int (qs_I SA 2 a0z)) rfl dJx4a65c_remove_915e3_2 ?_
  refine lv_topi (fun v3 ev3 => ?_)
  have h := h v3 ev3
  refine qc_i hG (va_runS (As := [.int x1z, .int v3]) (rest := []) ⟨hx, hb, hml, hown, hts⟩ (c_J15_checkIndex_7cf53 l g _ SA x1z v3 h) (va_cwS 2 hts gJx4a65c_remove_915e3_J15_checkIndex_7cf53 rfl rfl rfl (by decide +kernel) ⟨(Nat.le_of_ble_eq_true rfl), (Nat.le_of_ble_eq_true rfl)⟩) ⟨qs_Pc.blind _ _ _ _, hG.pre _⟩ rfl rfl hl.1 rfl (lv_room (Nat.le_of_ble_eq_true rfl)) dJx4a65c_remove_915e3_5 ⟨Nat.zero_le _, Nat.zero_le _⟩) (fun v7 S6 H locs h hG => ?_)
  refine lv_pop hx hb dJx4a65c_remove_915e3_8 rfl ?_
  refine lv_aload_n hx hb dJx4a65c_remove_915e3_9 rfl (lv_at hl 0 rfl) ?_
  obtain ⟨⟨hL8, hK9⟩, h⟩ := h
  obtain ⟨q10, eq10, h⟩ := h
  refine qr_get (C := RJx4a65c) (T := TJx4a65c) (N := 3) (ci := 0) hx hb hts in0 hown hG hL8 hK9 (by decide) rfl 1 (by decide) rfl (hts (.fieldLink RJx4a65c 9 "java/util/ArrayList" "elementData" "[Ljava/lang/Object;") (List.mem_of_getElem? (i := 2) rfl)) (fun _ h9 => h9) (v := .ref q10) (qs_rf eq10) dJx4a65c_remove_915e3_10 ?_
  refine lv_astore_n (lv' := [(2, .ref q10), (0, .ref a0z), (1, .int x1z)]) hx hb dJx4a65c_remove_915e3_13 rfl hl (by decide) rfl (fun ls hl => ?_)
  refine lv_aload_n hx hb dJx4a65c_remove_915e3_14 rfl (lv_at hl 0 rfl) ?_
  refine lv_iload_n hx hb dJx4a65c_remove_915e3_15 rfl (lv_at hl 2 rfl) ?_
  obtain ⟨⟨hL11, hK12⟩, h⟩ := h
  obtain ⟨hi13, q14, eq14, h⟩ := h
  refine qr_aald hx hb hG hL11 hK12 hi13 (v := .ref q14) (qs_rf eq14) dJx4a65c_remove_915e3_16 ?_
  refine lv_astore_n (lv' := [(3, .ref q14), (2, .ref q10), (0, .ref a0z), (1, .int x1z)]) hx hb dJx4a65c_remove_915e3_17 rfl hl (by decide) rfl (fun ls hl => ?_)
  refine lv_aload_n hx hb dJx4a65c_remove_915e3_18 rfl (lv_at hl 2 rfl) ?_
  refine lv_aload_n hx hb dJx4a65c_remove_915e3_19 rfl (lv_at hl 1 rfl) ?_
  refine lv_iload_n hx hb dJx4a65c_remove_915e3_20 rfl (lv_at hl 3 rfl) ?_
  refine qc_v hG (va_runV (As := [.ref q10, .int x1z]) (rest := []) ⟨hx, hb, hml, hown, hts⟩ (c_Jx4a65c_fastRemove_b59b0 l g _ S6 a0z q10 x1z h) (cwV 2 hts gJx4a65c_remove_915e3_Jx4a65c_fastRemove_b59b0 rfl rfl rfl (by decide +kernel) ⟨(Nat.le_of_ble_eq_true rfl), (Nat.le_of_ble_eq_true rfl)⟩) ⟨qs_Pc.blind _ _ _ _, hG.recv hL8 hK9 (by decide) rfl, hG.pre _⟩ rfl rfl hl.1 rfl (lv_room (Nat.le_of_ble_eq_true rfl)) dJx4a65c_remove_915e3_21 ⟨Nat.zero_le _, Nat.zero_le _⟩) (fun S17 H locs h hG => ?_)
  refine lv_aload_n hx hb dJx4a65c_remove_915e3_24 rfl (lv_at hl 0 rfl) ?_
  exact qe_q (o := (some q14)) hx hb hr hlk rfl (Or.inl ⟨_, rfl⟩) hG h (Nat.le_refl _) (Nat.le_refl _) dJx4a65c_remove_915e3_25
def wp_Jx4a65c_clear_da8c8_c27 (t0 m9 : Nat) (post : qs_S → Prop) (K27 : qs_S → Nat → Int32 → Int32 → Prop) (S : qs_S) (a1 : Nat) (x2 : Int32) (x3 : Int32) : Prop := (x2 ≤ x3 → (post S)) ∧ (¬ x2 ≤ x3 → ((a1 ∈ qs_L S ∧ qs_K S a1 = 10) ∧ (vp_in x3 (qs_Z S a1) ∧ (∀ v5 : Int32, v5 = x3 + 1 → K27 (qs_wO S a1 x3.toNatClampNeg none) a1 x2 v5))))
def wp_Jx4a65c_clear_da8c8_b27 (t0 m9 : Nat) (post : qs_S → Prop) : Nat → qs_S → Nat → Int32 → Int32 → Prop
  | 0 => fun _ _ _ _ => False
  | n9 + 1 => wp_Jx4a65c_clear_da8c8_c27 t0 m9 post (wp_Jx4a65c_clear_da8c8_b27 t0 m9 post n9)
def wp_Jx4a65c_clear_da8c8 (t0 m9 : Nat) (post : qs_S → Prop) (SA : qs_S) (a0z : Nat) : Prop := (a0z ∈ qs_L SA ∧ qs_K SA a0z = 0) ∧ (∀ v8 : Int32, v8 = qs_I SA 0 a0z → ∀ v9 : Int32, v9 = v8 + (1 : Int32) → ∃ q10 : Nat, qs_R (qs_wI SA 0 a0z v9) 1 a0z = some q10 ∧ (∀ v11 : Int32, v11 = qs_I (qs_wI SA 0 a0z v9) 2 a0z → ∃ n12 : Nat, wp_Jx4a65c_clear_da8c8_b27 t0 m9 post n12 (qs_wI (qs_wI SA 0 a0z v9) 2 a0z (0 : Int32)) q10 v11 (0 : Int32)))
set_option maxHeartbeats 4000000 in
set_option maxRecDepth 100000 in
theorem c_Jx4a65c_clear_da8c8 (l : Launch) (g : qs_G) (sz : Nat) (SA : qs_S) (a0z : Nat) {post : qs_S → Prop} (h : wp_Jx4a65c_clear_da8c8 g.2.2.2.2.2.2.1 g.2.2.2.2.2.2.2 post SA a0z) : Met l yJx4a65c_clear_da8c8 wsJx4a65c_clear_da8c8 ({ frames := 0, cells := 0, slots := 0, locals := 0 } : Room) (qs_Pc g sz SA [.ref a0z]) (qs_Qv g (qs_F g SA sz) post) 0 0 (qs_F g SA sz) := by
  refine Met.ofW (cc := cJx4a65c_clear_da8c8) (maxL := 4) (ret := none) (by decide +kernel) rfl ?_
  intro p e s m args below meth c s₁ B hml hv
  obtain ⟨rfl, hsz, hG⟩ := qs_Gd.start hv
  subst hsz
  have hx := B.exec
  have hb := B.bytes
  have hr := B.returns
  have hts := atoms_spec (ws := wsJx4a65c_clear_da8c8) B.pre
  have hown : s.vm.findClass RJx4a65c = some m.cls := findClass_of_methodNamed B.named
  have hlk := B.notSynchronized
  have in0 : ∀ w ∈ u_ws RJx4a65c TJx4a65c 3, w ∈ wsJx4a65c_clear_da8c8 := fun w h => List.mem_cons_of_mem _ (List.mem_append_right _ (h))
  have c27 : ∀ (K27 : qs_S → Nat → Int32 → Int32 → Prop), (∀ (S : qs_S) (a1 : Nat) (x2 : Int32) (x3 : Int32) (H : Heap) (locs : List Loc) (ls : Array Slot), K27 S a1 x2 x3 → qs_Gd g (qs_F g SA s.heap.size) s S H locs → lv_has ls 4 [(1, .ref a1), (2, .int x2), (3, .int x3)] → W p l e (headSpec wsJx4a65c_clear_da8c8 ({ frames := 0, cells := 0, slots := 0, locals := 0 } : Room)).room s m (([.ref a0z] : List Value)).toArray below meth c H locs 0 0 (MQ below (qs_Qv g (qs_F g SA s.heap.size) post) (([.ref a0z] : List Value)).toArray s 0 0 (qs_F g SA s.heap.size)) (F0 m 27 ls [])) → ∀ (S : qs_S) (a1 : Nat) (x2 : Int32) (x3 : Int32) (H : Heap) (locs : List Loc) (ls : Array Slot), wp_Jx4a65c_clear_da8c8_c27 g.2.2.2.2.2.2.1 g.2.2.2.2.2.2.2 post K27 S a1 x2 x3 → qs_Gd g (qs_F g SA s.heap.size) s S H locs → lv_has ls 4 [(1, .ref a1), (2, .int x2), (3, .int x3)] → W p l e (headSpec wsJx4a65c_clear_da8c8 ({ frames := 0, cells := 0, slots := 0, locals := 0 } : Room)).room s m (([.ref a0z] : List Value)).toArray below meth c H locs 0 0 (MQ below (qs_Qv g (qs_F g SA s.heap.size) post) (([.ref a0z] : List Value)).toArray s 0 0 (qs_F g SA s.heap.size)) (F0 m 27 ls []) := by
    intro K27 hK27 S a1 x2 x3 H locs ls h hG hl
    unfold wp_Jx4a65c_clear_da8c8_c27 at h
    refine lv_iload_n hx hb dJx4a65c_clear_da8c8_27 rfl (lv_at hl 2 rfl) ?_
    refine lv_iload_n hx hb dJx4a65c_clear_da8c8_28 rfl (lv_at hl 1 rfl) ?_
    refine lv_icmp_ge (tgt := 42) hx hb dJx4a65c_clear_da8c8_29 (by decide) (fun c1 => ?_) (fun c1 => ?_)
    · have h := h.1 c1
      exact qe_v hx hb hr hlk hG h (Nat.le_refl _) (Nat.le_refl _) dJx4a65c_clear_da8c8_42
    · have h := h.2 c1
      refine lv_aload_n hx hb dJx4a65c_clear_da8c8_32 rfl (lv_at hl 0 rfl) ?_
      refine lv_iload_n hx hb dJx4a65c_clear_da8c8_33 rfl (lv_at hl 2 rfl) ?_
      refine lv_null hx hb dJx4a65c_clear_da8c8_34 ?_
      obtain ⟨⟨hL2, hK3⟩, h⟩ := h
      obtain ⟨hi4, h⟩ := h
      refine qr_aastN hx hb hG hL2 hK3 hi4 dJx4a65c_clear_da8c8_35 (fun H locs hG => ?_)
      obtain ⟨v5, ev5⟩ : ∃ y : Int32, y = x3 + 1 := ⟨_, rfl⟩
      have h := h v5 ev5
      refine lv_iinc (v := v5) (lv' := [(3, .int v5), (1, .ref a1), (2, .int x2)]) hx hb dJx4a65c_clear_da8c8_36 hl (k := 2) rfl (by rw [ev5]; rfl) (by decide) rfl (fun ls hl => ?_)
      refine lv_goto (tgt := 27) hx hb dJx4a65c_clear_da8c8_39 (by decide) ?_
      exact hK27 (qs_wO S a1 x3.toNatClampNeg none) a1 x2 v5 _ _ ls h hG (lv_sub hl [1, 2, 0] rfl)
  have b27 : ∀ n9 : Nat, ∀ (S : qs_S) (a1 : Nat) (x2 : Int32) (x3 : Int32) (H : Heap) (locs : List Loc) (ls : Array Slot), wp_Jx4a65c_clear_da8c8_b27 g.2.2.2.2.2.2.1 g.2.2.2.2.2.2.2 post n9 S a1 x2 x3 → qs_Gd g (qs_F g SA s.heap.size) s S H locs → lv_has ls 4 [(1, .ref a1), (2, .int x2), (3, .int x3)] → W p l e (headSpec wsJx4a65c_clear_da8c8 ({ frames := 0, cells := 0, slots := 0, locals := 0 } : Room)).room s m (([.ref a0z] : List Value)).toArray below meth c H locs 0 0 (MQ below (qs_Qv g (qs_F g SA s.heap.size) post) (([.ref a0z] : List Value)).toArray s 0 0 (qs_F g SA s.heap.size)) (F0 m 27 ls []) := by
    intro n9
    induction n9 with
    | zero =>
      intro S a1 x2 x3 H locs ls h hG hl
      exact False.elim h
    | succ n9 ih => exact c27 _ ih
  have hl := lv_entry ([.ref a0z]) (n := 4) (Nat.le_of_ble_eq_true rfl)
  rw [lg_entry_eq]
  generalize (lg_sl ([.ref a0z]) ++ List.replicate (4 - (lg_sl ([.ref a0z])).length) Slot.unset).toArray = ls at hl ⊢
  have hl : lv_has ls 4 [(0, .ref a0z)] := hl
  unfold wp_Jx4a65c_clear_da8c8 at h
  refine lv_aload_n hx hb dJx4a65c_clear_da8c8_0 rfl (lv_at hl 0 rfl) ?_
  refine lv_dup hx hb dJx4a65c_clear_da8c8_1 rfl ?_
  obtain ⟨⟨hL6, hK7⟩, h⟩ := h
  refine qr_get (C := RJx4a65c) (T := TJx4a65c) (N := 3) (ci := 0) hx hb hts in0 hown hG hL6 hK7 (by decide) rfl 0 (by decide) rfl (hts (.fieldLink RJx4a65c 63 "java/util/ArrayList" "modCount" "I") (List.mem_of_getElem? (i := 1) rfl)) (u_same (hts (.sameField "java/util/ArrayList" "java/util/AbstractList" "modCount" "I") (List.mem_of_getElem? (i := 2) rfl))) (v := .int (qs_I SA 0 a0z)) rfl dJx4a65c_clear_da8c8_2 ?_
  refine lv_topi (fun v8 ev8 => ?_)
  have h := h v8 ev8
  refine lv_iconst (v := (1 : Int32)) hx hb dJx4a65c_clear_da8c8_5 (by decide +kernel) ?_
  refine lv_iadd hx hb dJx4a65c_clear_da8c8_6 ?_
  refine lv_topi (fun v9 ev9 => ?_)
  have h := h v9 ev9
  refine qr_putI (C := RJx4a65c) (T := TJx4a65c) (N := 3) (ci := 0) hx hb hts in0 tyJx4a65c tyJx4a65c_ok nmJx4a65c hown hG hL6 hK7 (by decide) rfl 0 (by decide) rfl (hts (.fieldLink RJx4a65c 63 "java/util/ArrayList" "modCount" "I") (List.mem_of_getElem? (i := 1) rfl)) (u_same (hts (.sameField "java/util/ArrayList" "java/util/AbstractList" "modCount" "I") (List.mem_of_getElem? (i := 2) rfl))) rfl (x := v9) (tyJx4a65c_ok 0 (by decide)) rfl rfl dJx4a65c_clear_da8c8_7 (fun H locs hG => ?_)
  refine lv_aload_n hx hb dJx4a65c_clear_da8c8_10 rfl (lv_at hl 0 rfl) ?_
  obtain ⟨q10, eq10, h⟩ := h
  refine qr_get (C := RJx4a65c) (T := TJx4a65c) (N := 3) (ci := 0) hx hb hts in0 hown hG hL6 hK7 (by decide) rfl 1 (by decide) rfl (hts (.fieldLink RJx4a65c 9 "java/util/ArrayList" "elementData" "[Ljava/lang/Object;") (List.mem_of_getElem? (i := 3) rfl)) (fun _ h9 => h9) (v := .ref q10) (qs_rf eq10) dJx4a65c_clear_da8c8_11 ?_
  refine lv_astore_n (lv' := [(1, .ref q10), (0, .ref a0z)]) hx hb dJx4a65c_clear_da8c8_14 rfl hl (by decide) rfl (fun ls hl => ?_)
  refine lv_aload_n hx hb dJx4a65c_clear_da8c8_15 rfl (lv_at hl 1 rfl) ?_
  refine qr_get (C := RJx4a65c) (T := TJx4a65c) (N := 3) (ci := 0) hx hb hts in0 hown hG hL6 hK7 (by decide) rfl 2 (by decide) rfl (hts (.fieldLink RJx4a65c 48 "java/util/ArrayList" "size" "I") (List.mem_of_getElem? (i := 4) rfl)) (fun _ h9 => h9) (v := .int (qs_I (qs_wI SA 0 a0z v9) 2 a0z)) rfl dJx4a65c_clear_da8c8_16 ?_
  refine lv_topi (fun v11 ev11 => ?_)
  have h := h v11 ev11
  refine lv_istore_n (lv' := [(2, .int v11), (1, .ref q10), (0, .ref a0z)]) hx hb dJx4a65c_clear_da8c8_19 rfl hl (by decide) rfl (fun ls hl => ?_)
  refine lv_aload_n hx hb dJx4a65c_clear_da8c8_20 rfl (lv_at hl 2 rfl) ?_
  refine lv_iconst (v := (0 : Int32)) hx hb dJx4a65c_clear_da8c8_21 (by decide +kernel) ?_
  refine lv_dup_x1 hx hb dJx4a65c_clear_da8c8_22 rfl rfl ?_
  refine qr_putI (C := RJx4a65c) (T := TJx4a65c) (N := 3) (ci := 0) hx hb hts in0 tyJx4a65c tyJx4a65c_ok nmJx4a65c hown hG hL6 hK7 (by decide) rfl 2 (by decide) rfl (hts (.fieldLink RJx4a65c 48 "java/util/ArrayList" "size" "I") (List.mem_of_getElem? (i := 4) rfl)) (fun _ h9 => h9) rfl (x := (0 : Int32)) (tyJx4a65c_ok 2 (by decide)) rfl rfl dJx4a65c_clear_da8c8_23 (fun H locs hG => ?_)
  refine lv_istore_n (lv' := [(3, .int (0 : Int32)), (2, .int v11), (1, .ref q10), (0, .ref a0z)]) hx hb dJx4a65c_clear_da8c8_26 rfl hl (by decide) rfl (fun ls hl => ?_)
  obtain ⟨n12, h⟩ := h
  exact b27 n12 (qs_wI (qs_wI SA 0 a0z v9) 2 a0z (0 : Int32)) q10 v11 (0 : Int32) _ _ ls h hG (lv_sub hl [2, 1, 0] rfl)
end
