section
-- ===== PART A: goes FIRST, ahead of the names: the tables' words, and 'selects' of the private methods out of them =====
/-- a private method of a class that the tables say can be made, by its rows of tables_1 -/
def lw_okq (q : MethodName × Nat) : Prop := (q.1.cls ≠ "java/lang/invoke/MethodHandle" ∧ q.1.cls ≠ "java/lang/invoke/VarHandle") ∧ Cond.instantiable q.1.cls q.2 ∈ tables_1 ∧ Cond.privateMethod q.1 ∈ tables_1 ∧ Cond.instanceMethod q.1 ∈ tables_1
theorem lw_p0 : lw_okq (⟨"SwingDesk", "sheetOf", "(I)LSwingDesk$Sheet;"⟩, 6) := ⟨⟨by decide +kernel, by decide +kernel⟩, List.mem_of_getElem? (i := 14) (by decide +kernel), List.mem_of_getElem? (i := 288) (by decide +kernel), List.mem_of_getElem? (i := 289) (by decide +kernel)⟩
theorem lw_p1 : lw_okq (⟨"SwingDesk$Company", "sinceDay", "(I)I"⟩, 9) := ⟨⟨by decide +kernel, by decide +kernel⟩, List.mem_of_getElem? (i := 52) (by decide +kernel), List.mem_of_getElem? (i := 381) (by decide +kernel), List.mem_of_getElem? (i := 382) (by decide +kernel)⟩
theorem lw_p2 : lw_okq (⟨"SwingDesk$CastSearch", "readPeople", "(I)V"⟩, 14) := ⟨⟨by decide +kernel, by decide +kernel⟩, List.mem_of_getElem? (i := 112) (by decide +kernel), List.mem_of_getElem? (i := 476) (by decide +kernel), List.mem_of_getElem? (i := 477) (by decide +kernel)⟩
theorem lw_p3 : lw_okq (⟨"SwingDesk$CastSearch", "coverLoss", "(III)I"⟩, 14) := ⟨⟨by decide +kernel, by decide +kernel⟩, List.mem_of_getElem? (i := 112) (by decide +kernel), List.mem_of_getElem? (i := 507) (by decide +kernel), List.mem_of_getElem? (i := 508) (by decide +kernel)⟩
theorem lw_p4 : lw_okq (⟨"SwingDesk$CastSearch", "readEarlierTracks", "(I)V"⟩, 14) := ⟨⟨by decide +kernel, by decide +kernel⟩, List.mem_of_getElem? (i := 112) (by decide +kernel), List.mem_of_getElem? (i := 514) (by decide +kernel), List.mem_of_getElem? (i := 515) (by decide +kernel)⟩
theorem lw_p5 : lw_okq (⟨"SwingDesk$Show", "isFarStep", "(III)Z"⟩, 6) := ⟨⟨by decide +kernel, by decide +kernel⟩, List.mem_of_getElem? (i := 22) (by decide +kernel), List.mem_of_getElem? (i := 522) (by decide +kernel), List.mem_of_getElem? (i := 523) (by decide +kernel)⟩
theorem lw_p6 : lw_okq (⟨"SwingDesk$CastSearch", "readLifts", "()V"⟩, 14) := ⟨⟨by decide +kernel, by decide +kernel⟩, List.mem_of_getElem? (i := 112) (by decide +kernel), List.mem_of_getElem? (i := 537) (by decide +kernel), List.mem_of_getElem? (i := 538) (by decide +kernel)⟩
theorem lw_p7 : lw_okq (⟨"SwingDesk$CastSearch", "seek", "(II)V"⟩, 14) := ⟨⟨by decide +kernel, by decide +kernel⟩, List.mem_of_getElem? (i := 112) (by decide +kernel), List.mem_of_getElem? (i := 546) (by decide +kernel), List.mem_of_getElem? (i := 547) (by decide +kernel)⟩
theorem lw_p8 : lw_okq (⟨"SwingDesk$CastSearch", "keepIfLess", "(I)V"⟩, 14) := ⟨⟨by decide +kernel, by decide +kernel⟩, List.mem_of_getElem? (i := 112) (by decide +kernel), List.mem_of_getElem? (i := 550) (by decide +kernel), List.mem_of_getElem? (i := 551) (by decide +kernel)⟩
theorem lw_p9 : lw_okq (⟨"SwingDesk$CastSearch", "barred", "(I)I"⟩, 14) := ⟨⟨by decide +kernel, by decide +kernel⟩, List.mem_of_getElem? (i := 112) (by decide +kernel), List.mem_of_getElem? (i := 557) (by decide +kernel), List.mem_of_getElem? (i := 558) (by decide +kernel)⟩
theorem lw_p10 : lw_okq (⟨"SwingDesk$CastSearch", "tryPerson", "(III)V"⟩, 14) := ⟨⟨by decide +kernel, by decide +kernel⟩, List.mem_of_getElem? (i := 112) (by decide +kernel), List.mem_of_getElem? (i := 562) (by decide +kernel), List.mem_of_getElem? (i := 563) (by decide +kernel)⟩
theorem lw_p11 : lw_okq (⟨"SwingDesk$CastSearch", "liftLoss", "(I)I"⟩, 14) := ⟨⟨by decide +kernel, by decide +kernel⟩, List.mem_of_getElem? (i := 112) (by decide +kernel), List.mem_of_getElem? (i := 566) (by decide +kernel), List.mem_of_getElem? (i := 567) (by decide +kernel)⟩
theorem lw_p12 : lw_okq (⟨"SwingDesk$Night", "holdFrom", "(III)V"⟩, 5) := ⟨⟨by decide +kernel, by decide +kernel⟩, List.mem_of_getElem? (i := 88) (by decide +kernel), List.mem_of_getElem? (i := 590) (by decide +kernel), List.mem_of_getElem? (i := 591) (by decide +kernel)⟩
theorem lw_p13 : lw_okq (⟨"SwingDesk$Night", "firstHeld", "(III)I"⟩, 5) := ⟨⟨by decide +kernel, by decide +kernel⟩, List.mem_of_getElem? (i := 88) (by decide +kernel), List.mem_of_getElem? (i := 641) (by decide +kernel), List.mem_of_getElem? (i := 642) (by decide +kernel)⟩
theorem lw_p14 : lw_okq (⟨"SwingDesk$Night", "handOn", "(II)Z"⟩, 5) := ⟨⟨by decide +kernel, by decide +kernel⟩, List.mem_of_getElem? (i := 88) (by decide +kernel), List.mem_of_getElem? (i := 645) (by decide +kernel), List.mem_of_getElem? (i := 646) (by decide +kernel)⟩
theorem lw_p15 : lw_okq (⟨"SwingDesk$Night", "busyFrom", "(II)I"⟩, 5) := ⟨⟨by decide +kernel, by decide +kernel⟩, List.mem_of_getElem? (i := 88) (by decide +kernel), List.mem_of_getElem? (i := 650) (by decide +kernel), List.mem_of_getElem? (i := 651) (by decide +kernel)⟩
def lw_privs_1 : List (MethodName × Nat) := [(⟨"SwingDesk", "sheetOf", "(I)LSwingDesk$Sheet;"⟩, 6), (⟨"SwingDesk$Company", "sinceDay", "(I)I"⟩, 9), (⟨"SwingDesk$CastSearch", "readPeople", "(I)V"⟩, 14), (⟨"SwingDesk$CastSearch", "coverLoss", "(III)I"⟩, 14), (⟨"SwingDesk$CastSearch", "readEarlierTracks", "(I)V"⟩, 14), (⟨"SwingDesk$Show", "isFarStep", "(III)Z"⟩, 6), (⟨"SwingDesk$CastSearch", "readLifts", "()V"⟩, 14), (⟨"SwingDesk$CastSearch", "seek", "(II)V"⟩, 14), (⟨"SwingDesk$CastSearch", "keepIfLess", "(I)V"⟩, 14), (⟨"SwingDesk$CastSearch", "barred", "(I)I"⟩, 14), (⟨"SwingDesk$CastSearch", "tryPerson", "(III)V"⟩, 14), (⟨"SwingDesk$CastSearch", "liftLoss", "(I)I"⟩, 14), (⟨"SwingDesk$Night", "holdFrom", "(III)V"⟩, 5), (⟨"SwingDesk$Night", "firstHeld", "(III)I"⟩, 5), (⟨"SwingDesk$Night", "handOn", "(II)Z"⟩, 5), (⟨"SwingDesk$Night", "busyFrom", "(II)I"⟩, 5)]
theorem lw_r1 : ∀ q ∈ lw_privs_1, lw_okq q := List.forall_mem_cons.mpr ⟨lw_p0, List.forall_mem_cons.mpr ⟨lw_p1, List.forall_mem_cons.mpr ⟨lw_p2, List.forall_mem_cons.mpr ⟨lw_p3, List.forall_mem_cons.mpr ⟨lw_p4, List.forall_mem_cons.mpr ⟨lw_p5, List.forall_mem_cons.mpr ⟨lw_p6, List.forall_mem_cons.mpr ⟨lw_p7, List.forall_mem_cons.mpr ⟨lw_p8, List.forall_mem_cons.mpr ⟨lw_p9, List.forall_mem_cons.mpr ⟨lw_p10, List.forall_mem_cons.mpr ⟨lw_p11, List.forall_mem_cons.mpr ⟨lw_p12, List.forall_mem_cons.mpr ⟨lw_p13, List.forall_mem_cons.mpr ⟨lw_p14, List.forall_mem_cons.mpr ⟨lw_p15, fun _ h => absurd h List.not_mem_nil⟩⟩⟩⟩⟩⟩⟩⟩⟩⟩⟩⟩⟩⟩⟩⟩
theorem lw_p16 : lw_okq (⟨"SwingDesk$PutIns", "readNeeds", "()Z"⟩, 7) := ⟨⟨by decide +kernel, by decide +kernel⟩, List.mem_of_getElem? (i := 161) (by decide +kernel), List.mem_of_getElem? (i := 676) (by decide +kernel), List.mem_of_getElem? (i := 677) (by decide +kernel)⟩
theorem lw_p17 : lw_okq (⟨"SwingDesk$PutIns", "countFresh", "(I)I"⟩, 7) := ⟨⟨by decide +kernel, by decide +kernel⟩, List.mem_of_getElem? (i := 161) (by decide +kernel), List.mem_of_getElem? (i := 681) (by decide +kernel), List.mem_of_getElem? (i := 682) (by decide +kernel)⟩
theorem lw_p18 : lw_okq (⟨"SwingDesk$PutIns", "addPerson", "(IJ)V"⟩, 7) := ⟨⟨by decide +kernel, by decide +kernel⟩, List.mem_of_getElem? (i := 161) (by decide +kernel), List.mem_of_getElem? (i := 699) (by decide +kernel), List.mem_of_getElem? (i := 700) (by decide +kernel)⟩
theorem lw_p19 : lw_okq (⟨"SwingDesk$PutIns", "staleTracks", "(I)I"⟩, 7) := ⟨⟨by decide +kernel, by decide +kernel⟩, List.mem_of_getElem? (i := 161) (by decide +kernel), List.mem_of_getElem? (i := 703) (by decide +kernel), List.mem_of_getElem? (i := 704) (by decide +kernel)⟩
theorem lw_p20 : lw_okq (⟨"SwingDesk$PutIns", "leastWith", "(IJI)J"⟩, 7) := ⟨⟨by decide +kernel, by decide +kernel⟩, List.mem_of_getElem? (i := 161) (by decide +kernel), List.mem_of_getElem? (i := 708) (by decide +kernel), List.mem_of_getElem? (i := 709) (by decide +kernel)⟩
theorem lw_p21 : lw_okq (⟨"SwingDesk$PutIns", "hasPutIn", "(II)Z"⟩, 7) := ⟨⟨by decide +kernel, by decide +kernel⟩, List.mem_of_getElem? (i := 161) (by decide +kernel), List.mem_of_getElem? (i := 716) (by decide +kernel), List.mem_of_getElem? (i := 717) (by decide +kernel)⟩
theorem lw_p22 : lw_okq (⟨"SwingDesk$PutIns", "leastWorth", "()J"⟩, 7) := ⟨⟨by decide +kernel, by decide +kernel⟩, List.mem_of_getElem? (i := 161) (by decide +kernel), List.mem_of_getElem? (i := 725) (by decide +kernel), List.mem_of_getElem? (i := 726) (by decide +kernel)⟩
theorem lw_p23 : lw_okq (⟨"SwingDeskModel", "isTrack", "(I)Z"⟩, 28) := ⟨⟨by decide +kernel, by decide +kernel⟩, List.mem_of_getElem? (i := 808) (by decide +kernel), List.mem_of_getElem? (i := 913) (by decide +kernel), List.mem_of_getElem? (i := 914) (by decide +kernel)⟩
theorem lw_p24 : lw_okq (⟨"SwingDeskModel", "put", "(IIII)V"⟩, 28) := ⟨⟨by decide +kernel, by decide +kernel⟩, List.mem_of_getElem? (i := 808) (by decide +kernel), List.mem_of_getElem? (i := 921) (by decide +kernel), List.mem_of_getElem? (i := 922) (by decide +kernel)⟩
theorem lw_p25 : lw_okq (⟨"SwingDeskModel", "is", "(II)Z"⟩, 28) := ⟨⟨by decide +kernel, by decide +kernel⟩, List.mem_of_getElem? (i := 808) (by decide +kernel), List.mem_of_getElem? (i := 929) (by decide +kernel), List.mem_of_getElem? (i := 930) (by decide +kernel)⟩
theorem lw_p26 : lw_okq (⟨"SwingDeskModel", "isPerson", "(I)Z"⟩, 28) := ⟨⟨by decide +kernel, by decide +kernel⟩, List.mem_of_getElem? (i := 808) (by decide +kernel), List.mem_of_getElem? (i := 955) (by decide +kernel), List.mem_of_getElem? (i := 956) (by decide +kernel)⟩
theorem lw_p27 : lw_okq (⟨"SwingDeskModel", "isSwing", "(I)Z"⟩, 28) := ⟨⟨by decide +kernel, by decide +kernel⟩, List.mem_of_getElem? (i := 808) (by decide +kernel), List.mem_of_getElem? (i := 959) (by decide +kernel), List.mem_of_getElem? (i := 960) (by decide +kernel)⟩
theorem lw_p28 : lw_okq (⟨"SwingDeskModel", "owner", "(I)I"⟩, 28) := ⟨⟨by decide +kernel, by decide +kernel⟩, List.mem_of_getElem? (i := 808) (by decide +kernel), List.mem_of_getElem? (i := 967) (by decide +kernel), List.mem_of_getElem? (i := 968) (by decide +kernel)⟩
theorem lw_p29 : lw_okq (⟨"SwingDeskModel", "knows", "(II)Z"⟩, 28) := ⟨⟨by decide +kernel, by decide +kernel⟩, List.mem_of_getElem? (i := 808) (by decide +kernel), List.mem_of_getElem? (i := 979) (by decide +kernel), List.mem_of_getElem? (i := 980) (by decide +kernel)⟩
theorem lw_p30 : lw_okq (⟨"SwingDeskModel", "isFresh", "(II)Z"⟩, 28) := ⟨⟨by decide +kernel, by decide +kernel⟩, List.mem_of_getElem? (i := 808) (by decide +kernel), List.mem_of_getElem? (i := 983) (by decide +kernel), List.mem_of_getElem? (i := 984) (by decide +kernel)⟩
theorem lw_p31 : lw_okq (⟨"SwingDeskModel", "tryFrom", "(I)V"⟩, 28) := ⟨⟨by decide +kernel, by decide +kernel⟩, List.mem_of_getElem? (i := 808) (by decide +kernel), List.mem_of_getElem? (i := 1007) (by decide +kernel), List.mem_of_getElem? (i := 1008) (by decide +kernel)⟩
def lw_privs_2 : List (MethodName × Nat) := [(⟨"SwingDesk$PutIns", "readNeeds", "()Z"⟩, 7), (⟨"SwingDesk$PutIns", "countFresh", "(I)I"⟩, 7), (⟨"SwingDesk$PutIns", "addPerson", "(IJ)V"⟩, 7), (⟨"SwingDesk$PutIns", "staleTracks", "(I)I"⟩, 7), (⟨"SwingDesk$PutIns", "leastWith", "(IJI)J"⟩, 7), (⟨"SwingDesk$PutIns", "hasPutIn", "(II)Z"⟩, 7), (⟨"SwingDesk$PutIns", "leastWorth", "()J"⟩, 7), (⟨"SwingDeskModel", "isTrack", "(I)Z"⟩, 28), (⟨"SwingDeskModel", "put", "(IIII)V"⟩, 28), (⟨"SwingDeskModel", "is", "(II)Z"⟩, 28), (⟨"SwingDeskModel", "isPerson", "(I)Z"⟩, 28), (⟨"SwingDeskModel", "isSwing", "(I)Z"⟩, 28), (⟨"SwingDeskModel", "owner", "(I)I"⟩, 28), (⟨"SwingDeskModel", "knows", "(II)Z"⟩, 28), (⟨"SwingDeskModel", "isFresh", "(II)Z"⟩, 28), (⟨"SwingDeskModel", "tryFrom", "(I)V"⟩, 28)]
theorem lw_r2 : ∀ q ∈ lw_privs_2, lw_okq q := List.forall_mem_cons.mpr ⟨lw_p16, List.forall_mem_cons.mpr ⟨lw_p17, List.forall_mem_cons.mpr ⟨lw_p18, List.forall_mem_cons.mpr ⟨lw_p19, List.forall_mem_cons.mpr ⟨lw_p20, List.forall_mem_cons.mpr ⟨lw_p21, List.forall_mem_cons.mpr ⟨lw_p22, List.forall_mem_cons.mpr ⟨lw_p23, List.forall_mem_cons.mpr ⟨lw_p24, List.forall_mem_cons.mpr ⟨lw_p25, List.forall_mem_cons.mpr ⟨lw_p26, List.forall_mem_cons.mpr ⟨lw_p27, List.forall_mem_cons.mpr ⟨lw_p28, List.forall_mem_cons.mpr ⟨lw_p29, List.forall_mem_cons.mpr ⟨lw_p30, List.forall_mem_cons.mpr ⟨lw_p31, fun _ h => absurd h List.not_mem_nil⟩⟩⟩⟩⟩⟩⟩⟩⟩⟩⟩⟩⟩⟩⟩⟩
theorem lw_p32 : lw_okq (⟨"SwingDeskModel", "loss", "()I"⟩, 28) := ⟨⟨by decide +kernel, by decide +kernel⟩, List.mem_of_getElem? (i := 808) (by decide +kernel), List.mem_of_getElem? (i := 1011) (by decide +kernel), List.mem_of_getElem? (i := 1012) (by decide +kernel)⟩
theorem lw_p33 : lw_okq (⟨"SwingDeskModel", "lossOf", "(I)I"⟩, 28) := ⟨⟨by decide +kernel, by decide +kernel⟩, List.mem_of_getElem? (i := 808) (by decide +kernel), List.mem_of_getElem? (i := 1015) (by decide +kernel), List.mem_of_getElem? (i := 1016) (by decide +kernel)⟩
theorem lw_p34 : lw_okq (⟨"SwingDeskModel", "isDone", "(I[I)Z"⟩, 28) := ⟨⟨by decide +kernel, by decide +kernel⟩, List.mem_of_getElem? (i := 808) (by decide +kernel), List.mem_of_getElem? (i := 1019) (by decide +kernel), List.mem_of_getElem? (i := 1020) (by decide +kernel)⟩
theorem lw_p35 : lw_okq (⟨"SwingDeskModel", "isRehearsed", "(II)Z"⟩, 28) := ⟨⟨by decide +kernel, by decide +kernel⟩, List.mem_of_getElem? (i := 808) (by decide +kernel), List.mem_of_getElem? (i := 1023) (by decide +kernel), List.mem_of_getElem? (i := 1024) (by decide +kernel)⟩
theorem lw_p36 : lw_okq (⟨"SwingDeskModel", "fits", "(II)Z"⟩, 28) := ⟨⟨by decide +kernel, by decide +kernel⟩, List.mem_of_getElem? (i := 808) (by decide +kernel), List.mem_of_getElem? (i := 1027) (by decide +kernel), List.mem_of_getElem? (i := 1028) (by decide +kernel)⟩
theorem lw_p37 : lw_okq (⟨"SwingDeskModel", "canHave", "(II)Z"⟩, 28) := ⟨⟨by decide +kernel, by decide +kernel⟩, List.mem_of_getElem? (i := 808) (by decide +kernel), List.mem_of_getElem? (i := 1031) (by decide +kernel), List.mem_of_getElem? (i := 1032) (by decide +kernel)⟩
theorem lw_p38 : lw_okq (⟨"SwingDeskModel", "isInFrom", "(II)Z"⟩, 28) := ⟨⟨by decide +kernel, by decide +kernel⟩, List.mem_of_getElem? (i := 808) (by decide +kernel), List.mem_of_getElem? (i := 1038) (by decide +kernel), List.mem_of_getElem? (i := 1039) (by decide +kernel)⟩
theorem lw_p39 : lw_okq (⟨"SwingDeskModel", "meet", "(II)Z"⟩, 28) := ⟨⟨by decide +kernel, by decide +kernel⟩, List.mem_of_getElem? (i := 808) (by decide +kernel), List.mem_of_getElem? (i := 1042) (by decide +kernel), List.mem_of_getElem? (i := 1043) (by decide +kernel)⟩
theorem lw_p40 : lw_okq (⟨"SwingDeskModel", "isFar", "(III)Z"⟩, 28) := ⟨⟨by decide +kernel, by decide +kernel⟩, List.mem_of_getElem? (i := 808) (by decide +kernel), List.mem_of_getElem? (i := 1046) (by decide +kernel), List.mem_of_getElem? (i := 1047) (by decide +kernel)⟩
theorem lw_p41 : lw_okq (⟨"SwingDeskModel", "areBeside", "(II)Z"⟩, 28) := ⟨⟨by decide +kernel, by decide +kernel⟩, List.mem_of_getElem? (i := 808) (by decide +kernel), List.mem_of_getElem? (i := 1050) (by decide +kernel), List.mem_of_getElem? (i := 1051) (by decide +kernel)⟩
theorem lw_p42 : lw_okq (⟨"SwingDeskModel", "takesOver", "(II)Z"⟩, 28) := ⟨⟨by decide +kernel, by decide +kernel⟩, List.mem_of_getElem? (i := 808) (by decide +kernel), List.mem_of_getElem? (i := 1071) (by decide +kernel), List.mem_of_getElem? (i := 1072) (by decide +kernel)⟩
theorem lw_p43 : lw_okq (⟨"SwingDeskModel", "canTake", "(III)Z"⟩, 28) := ⟨⟨by decide +kernel, by decide +kernel⟩, List.mem_of_getElem? (i := 808) (by decide +kernel), List.mem_of_getElem? (i := 1075) (by decide +kernel), List.mem_of_getElem? (i := 1076) (by decide +kernel)⟩
theorem lw_p44 : lw_okq (⟨"SwingDeskModel", "findPlan", "()I"⟩, 28) := ⟨⟨by decide +kernel, by decide +kernel⟩, List.mem_of_getElem? (i := 808) (by decide +kernel), List.mem_of_getElem? (i := 1087) (by decide +kernel), List.mem_of_getElem? (i := 1088) (by decide +kernel)⟩
theorem lw_p45 : lw_okq (⟨"SwingDeskModel", "mayPut", "(II)Z"⟩, 28) := ⟨⟨by decide +kernel, by decide +kernel⟩, List.mem_of_getElem? (i := 808) (by decide +kernel), List.mem_of_getElem? (i := 1091) (by decide +kernel), List.mem_of_getElem? (i := 1092) (by decide +kernel)⟩
theorem lw_p46 : lw_okq (⟨"SwingDeskModel", "behind", "(II)I"⟩, 28) := ⟨⟨by decide +kernel, by decide +kernel⟩, List.mem_of_getElem? (i := 808) (by decide +kernel), List.mem_of_getElem? (i := 1095) (by decide +kernel), List.mem_of_getElem? (i := 1096) (by decide +kernel)⟩
theorem lw_p47 : lw_okq (⟨"SwingDeskModel", "hours", "(I)I"⟩, 28) := ⟨⟨by decide +kernel, by decide +kernel⟩, List.mem_of_getElem? (i := 808) (by decide +kernel), List.mem_of_getElem? (i := 1099) (by decide +kernel), List.mem_of_getElem? (i := 1100) (by decide +kernel)⟩
def lw_privs_3 : List (MethodName × Nat) := [(⟨"SwingDeskModel", "loss", "()I"⟩, 28), (⟨"SwingDeskModel", "lossOf", "(I)I"⟩, 28), (⟨"SwingDeskModel", "isDone", "(I[I)Z"⟩, 28), (⟨"SwingDeskModel", "isRehearsed", "(II)Z"⟩, 28), (⟨"SwingDeskModel", "fits", "(II)Z"⟩, 28), (⟨"SwingDeskModel", "canHave", "(II)Z"⟩, 28), (⟨"SwingDeskModel", "isInFrom", "(II)Z"⟩, 28), (⟨"SwingDeskModel", "meet", "(II)Z"⟩, 28), (⟨"SwingDeskModel", "isFar", "(III)Z"⟩, 28), (⟨"SwingDeskModel", "areBeside", "(II)Z"⟩, 28), (⟨"SwingDeskModel", "takesOver", "(II)Z"⟩, 28), (⟨"SwingDeskModel", "canTake", "(III)Z"⟩, 28), (⟨"SwingDeskModel", "findPlan", "()I"⟩, 28), (⟨"SwingDeskModel", "mayPut", "(II)Z"⟩, 28), (⟨"SwingDeskModel", "behind", "(II)I"⟩, 28), (⟨"SwingDeskModel", "hours", "(I)I"⟩, 28)]
theorem lw_r3 : ∀ q ∈ lw_privs_3, lw_okq q := List.forall_mem_cons.mpr ⟨lw_p32, List.forall_mem_cons.mpr ⟨lw_p33, List.forall_mem_cons.mpr ⟨lw_p34, List.forall_mem_cons.mpr ⟨lw_p35, List.forall_mem_cons.mpr ⟨lw_p36, List.forall_mem_cons.mpr ⟨lw_p37, List.forall_mem_cons.mpr ⟨lw_p38, List.forall_mem_cons.mpr ⟨lw_p39, List.forall_mem_cons.mpr ⟨lw_p40, List.forall_mem_cons.mpr ⟨lw_p41, List.forall_mem_cons.mpr ⟨lw_p42, List.forall_mem_cons.mpr ⟨lw_p43, List.forall_mem_cons.mpr ⟨lw_p44, List.forall_mem_cons.mpr ⟨lw_p45, List.forall_mem_cons.mpr ⟨lw_p46, List.forall_mem_cons.mpr ⟨lw_p47, fun _ h => absurd h List.not_mem_nil⟩⟩⟩⟩⟩⟩⟩⟩⟩⟩⟩⟩⟩⟩⟩⟩
def lw_privs : List (MethodName × Nat) := lw_privs_1 ++ (lw_privs_2 ++ (lw_privs_3))
def lw_tbl : List Cond := k2_sels lw_privs ++ tables_1
theorem lw_privs_ok : ∀ q ∈ lw_privs, lw_okq q := by
  show ∀ q ∈ lw_privs_1 ++ (lw_privs_2 ++ (lw_privs_3)), lw_okq q
  exact List.forall_mem_append.mpr ⟨lw_r1, List.forall_mem_append.mpr ⟨lw_r2, lw_r3⟩⟩
end
section
/-! the abstract heap: cells by their number; a reference k+1 stands for cell k, reference 0 for the law's own script -/
abbrev gAE : Type := (FieldType × vp_A) ⊕ (Nat × List Value)
abbrev gAH : Type := List gAE
def gRV (sg : List Nat) (v v' : Value) : Prop := match v with
  | .ref k => ∃ a : Nat, sg[k]? = some a ∧ v' = .ref a
  | w => v' = w
def gRS (sg : List Nat) : List Value → List Value → Prop
  | [], [] => True
  | v :: S, v' :: S' => gRV sg v v' ∧ gRS sg S S'
  | _, _ => False
def gRP (sg : List Nat) : List (Nat × Value) → List (Nat × Value) → Prop
  | [], [] => True
  | q :: L, q' :: L' => (q'.1 = q.1 ∧ gRV sg q.2 q'.2) ∧ gRP sg L L'
  | _, _ => False
def gRO (sg : List Nat) (r r' : Option Nat) : Prop := match r with
  | none => r' = none
  | some k => ∃ a : Nat, sg[k]? = some a ∧ r' = some a
def gRA (sg : List Nat) (a a' : (Nat → Int32) ⊕ (Nat → Int64) ⊕ (Nat → UInt32) ⊕ (Nat → UInt64) ⊕ (Nat → Option Nat)) : Prop := match a with
  | .inr (.inr (.inr (.inr f))) => ∃ f' : Nat → Option Nat, a' = .inr (.inr (.inr (.inr f'))) ∧ ∀ i, gRO sg (f i) (f' i)
  | x => a' = x
def gRE (U : State) (sg : List Nat) (x : gAE) (e : va_E) : Prop := match x with
  | .inl q => ∃ (cA : ClassId) (a' : (Nat → Int32) ⊕ (Nat → Int64) ⊕ (Nat → UInt32) ⊕ (Nat → UInt64) ⊕ (Nat → Option Nat)), e = .inl (cA, q.2.1, a') ∧ ArrOfT U cA q.1 ∧ va_RA U cA q.1 ∧ gRA sg q.2.2 a'
  | .inr q => ∃ fs' : List Value, e = .inr (q.1, fs') ∧ gRS sg q.2 fs'
def gRH (U : State) (sg : List Nat) (h : gAH) (ws : va_W) : Prop := h.length = ws.length ∧ ∀ (k : Nat) (x : gAE), h[k]? = some x → ∃ (a : Nat) (e : va_E), ws[k]? = some (a, e) ∧ gRE U sg x e
def gROV (sg : List Nat) (v v' : Option Value) : Prop := match v with
  | none => v' = none
  | some w => ∃ w', v' = some w' ∧ gRV sg w w'
theorem gRV_cat {sg : List Nat} {v v' : Value} (h : gRV sg v v') : v'.category = v.category := by
  cases v <;> first | (obtain ⟨a, -, rfl⟩ := h; rfl) | (cases h; rfl)
theorem gRV_mono {sg t : List Nat} {v v' : Value} (h : gRV sg v v') : gRV (sg ++ t) v v' := by
  cases v with
  | ref k =>
    obtain ⟨a, h1, h2⟩ := h
    exact ⟨a, by rw [List.getElem?_append_left (List.getElem?_eq_some_iff.mp h1).1]; exact h1, h2⟩
  | _ => exact h
theorem gRO_mono {sg t : List Nat} {v v' : Option Nat} (h : gRO sg v v') : gRO (sg ++ t) v v' := by
  cases v with
  | some k =>
    obtain ⟨a, h1, h2⟩ := h
    exact ⟨a, by rw [List.getElem?_append_left (List.getElem?_eq_some_iff.mp h1).1]; exact h1, h2⟩
  | none => exact h
theorem gRS_mono {sg t : List Nat} : ∀ {S S' : List Value}, gRS sg S S' → gRS (sg ++ t) S S'
  | [], [], _ => trivial
  | _ :: _, _ :: _, h => ⟨gRV_mono h.1, gRS_mono h.2⟩
  | [], _ :: _, h => h.elim
  | _ :: _, [], h => h.elim
theorem gRP_mono {sg t : List Nat} : ∀ {S S' : List (Nat × Value)}, gRP sg S S' → gRP (sg ++ t) S S'
  | [], [], _ => trivial
  | _ :: _, _ :: _, h => ⟨⟨h.1.1, gRV_mono h.1.2⟩, gRP_mono h.2⟩
  | [], _ :: _, h => h.elim
  | _ :: _, [], h => h.elim
theorem gRA_mono {sg t : List Nat} {a a' : (Nat → Int32) ⊕ (Nat → Int64) ⊕ (Nat → UInt32) ⊕ (Nat → UInt64) ⊕ (Nat → Option Nat)} (h : gRA sg a a') : gRA (sg ++ t) a a' := by
  rcases a with f | f | f | f | f
  · exact h
  · exact h
  · exact h
  · exact h
  · obtain ⟨f', h1, h2⟩ := h
    exact ⟨f', h1, fun i => gRO_mono (h2 i)⟩
theorem gRE_mono {U : State} {sg t : List Nat} {x : gAE} {e : va_E} (h : gRE U sg x e) : gRE U (sg ++ t) x e := by
  rcases x with q | q
  · obtain ⟨cA, a', h1, h2, h3, h4⟩ := h
    exact ⟨cA, a', h1, h2, h3, gRA_mono h4⟩
  · obtain ⟨fs', h1, h2⟩ := h
    exact ⟨fs', h1, gRS_mono h2⟩
theorem gRE_moved {u U : State} (hvm : u.vm.Alike U.vm) {sg : List Nat} {x : gAE} {e : va_E} (h : gRE u sg x e) : gRE U sg x e := by
  rcases x with q | q
  · obtain ⟨cA, a', h1, h2, h3, h4⟩ := h
    exact ⟨cA, a', h1, arrOfT_moved hvm h2, h3.moved hvm, h4⟩
  · exact h
theorem gRH_moved {u U : State} (hvm : u.vm.Alike U.vm) {sg : List Nat} {h : gAH} {ws : va_W} (hh : gRH u sg h ws) : gRH U sg h ws :=
  ⟨hh.1, fun k x hk => by obtain ⟨a, e, h1, h2⟩ := hh.2 k x hk; exact ⟨a, e, h1, gRE_moved hvm h2⟩⟩
theorem gRS_cons {sg : List Nat} {v : Value} {S S' : List Value} (h : gRS sg (v :: S) S') : ∃ (v' : Value) (S1 : List Value), S' = v' :: S1 ∧ gRV sg v v' ∧ gRS sg S S1 := by
  cases S' with
  | nil => exact h.elim
  | cons v' S1 => exact ⟨v', S1, rfl, h.1, h.2⟩
theorem gRS_nil {sg : List Nat} {S' : List Value} (h : gRS sg [] S') : S' = [] := by
  cases S' with
  | nil => rfl
  | cons v' S1 => exact h.elim
theorem gRS_int {sg : List Nat} {x : Int32} {S S' : List Value} (h : gRS sg (.int x :: S) S') : ∃ S1 : List Value, S' = .int x :: S1 ∧ gRS sg S S1 := by
  obtain ⟨v', S1, rfl, h1, h2⟩ := gRS_cons h
  cases h1
  exact ⟨S1, rfl, h2⟩
theorem gRS_long {sg : List Nat} {x : Int64} {S S' : List Value} (h : gRS sg (.long x :: S) S') : ∃ S1 : List Value, S' = .long x :: S1 ∧ gRS sg S S1 := by
  obtain ⟨v', S1, rfl, h1, h2⟩ := gRS_cons h
  cases h1
  exact ⟨S1, rfl, h2⟩
theorem gRS_null {sg : List Nat} {S S' : List Value} (h : gRS sg (.null :: S) S') : ∃ S1 : List Value, S' = .null :: S1 ∧ gRS sg S S1 := by
  obtain ⟨v', S1, rfl, h1, h2⟩ := gRS_cons h
  cases h1
  exact ⟨S1, rfl, h2⟩
theorem gRS_ref {sg : List Nat} {k : Nat} {S S' : List Value} (h : gRS sg (.ref k :: S) S') : ∃ (a : Nat) (S1 : List Value), sg[k]? = some a ∧ S' = .ref a :: S1 ∧ gRS sg S S1 := by
  obtain ⟨v', S1, rfl, ⟨a, h1, rfl⟩, h2⟩ := gRS_cons h
  exact ⟨a, S1, h1, rfl, h2⟩
theorem gRS_app {sg : List Nat} : ∀ {S S' T T' : List Value}, gRS sg S S' → gRS sg T T' → gRS sg (S ++ T) (S' ++ T')
  | [], [], _, _, _, h2 => h2
  | _ :: _, _ :: _, _, _, h, h2 => ⟨h.1, gRS_app h.2 h2⟩
  | [], _ :: _, _, _, h, _ => h.elim
  | _ :: _, [], _, _, h, _ => h.elim
theorem gRS_split {sg : List Nat} : ∀ {S T X : List Value}, gRS sg (S ++ T) X → ∃ S' T' : List Value, X = S' ++ T' ∧ gRS sg S S' ∧ gRS sg T T'
  | [], _, X, h => ⟨[], X, rfl, trivial, h⟩
  | v :: S, T, X, h => by
    obtain ⟨v', X1, rfl, h1, h2⟩ := gRS_cons (S := S ++ T) h
    obtain ⟨S', T', rfl, h3, h4⟩ := gRS_split h2
    exact ⟨v' :: S', T', rfl, ⟨h1, h3⟩, h4⟩
theorem gRS_rev {sg : List Nat} : ∀ {S S' : List Value}, gRS sg S S' → gRS sg S.reverse S'.reverse
  | [], [], _ => trivial
  | v :: S, v' :: S', h => by
    rw [List.reverse_cons, List.reverse_cons]
    exact gRS_app (gRS_rev h.2) ⟨h.1, trivial⟩
  | [], _ :: _, h => h.elim
  | _ :: _, [], h => h.elim
theorem gRS_len {sg : List Nat} : ∀ {S S' : List Value}, gRS sg S S' → S'.length = S.length
  | [], [], _ => rfl
  | _ :: _, _ :: _, h => by simp [gRS_len h.2]
  | [], _ :: _, h => h.elim
  | _ :: _, [], h => h.elim
theorem gRS_cat {sg : List Nat} : ∀ {S S' : List Value}, gRS sg S S' → S'.map (fun v => v.category) = S.map (fun v => v.category)
  | [], [], _ => rfl
  | _ :: _, _ :: _, h => by simp [gRS_cat h.2, gRV_cat h.1]
  | [], _ :: _, h => h.elim
  | _ :: _, [], h => h.elim
theorem gRS_get {sg : List Nat} : ∀ {S S' : List Value}, gRS sg S S' → ∀ {i : Nat} {v : Value}, S[i]? = some v → ∃ v', S'[i]? = some v' ∧ gRV sg v v'
  | [], [], _, i, v, h => by simp at h
  | v :: S, v' :: S', h, 0, w, hw => by
    simp at hw
    subst hw
    exact ⟨v', by simp, h.1⟩
  | v :: S, v' :: S', h, i + 1, w, hw => by
    simp at hw
    obtain ⟨w', h1, h2⟩ := gRS_get h.2 hw
    exact ⟨w', by simpa using h1, h2⟩
  | [], _ :: _, h, _, _, _ => h.elim
  | _ :: _, [], h, _, _, _ => h.elim
theorem gRS_set {sg : List Nat} {w w' : Value} (hw : gRV sg w w') : ∀ {S S' : List Value}, gRS sg S S' → ∀ (i : Nat), gRS sg (S.set i w) (S'.set i w')
  | [], [], _, i => by simp [gRS]
  | v :: S, v' :: S', h, 0 => ⟨hw, h.2⟩
  | v :: S, v' :: S', h, i + 1 => ⟨h.1, gRS_set hw h.2 i⟩
  | [], _ :: _, h, _ => h.elim
  | _ :: _, [], h, _ => h.elim
theorem gRP_get {sg : List Nat} : ∀ {S S' : List (Nat × Value)}, gRP sg S S' → ∀ {i : Nat} {q : Nat × Value}, S[i]? = some q → ∃ v', S'[i]? = some (q.1, v') ∧ gRV sg q.2 v'
  | [], [], _, i, v, h => by simp at h
  | v :: S, v' :: S', h, 0, w, hw => by
    simp at hw
    subst hw
    exact ⟨v'.2, by rw [← h.1.1]; simp, h.1.2⟩
  | v :: S, v' :: S', h, i + 1, w, hw => by
    simp at hw
    obtain ⟨w', h1, h2⟩ := gRP_get h.2 hw
    exact ⟨w', by simpa using h1, h2⟩
  | [], _ :: _, h, _, _, _ => h.elim
  | _ :: _, [], h, _, _, _ => h.elim
theorem gRP_none {sg : List Nat} : ∀ {S S' : List (Nat × Value)}, gRP sg S S' → S'.length = S.length
  | [], [], _ => rfl
  | _ :: _, _ :: _, h => by simp [gRP_none h.2]
  | [], _ :: _, h => h.elim
  | _ :: _, [], h => h.elim
theorem gRP_filter {sg : List Nat} {f : Nat × Value → Bool} (hf : ∀ q q' : Nat × Value, q'.1 = q.1 → q'.2.category = q.2.category → f q' = f q) : ∀ {S S' : List (Nat × Value)}, gRP sg S S' → gRP sg (S.filter f) (S'.filter f)
  | [], [], _ => trivial
  | v :: S, v' :: S', h => by
    have e := hf v v' h.1.1 (gRV_cat h.1.2)
    rw [List.filter_cons, List.filter_cons, e]
    cases f v with
    | true => exact ⟨h.1, gRP_filter hf h.2⟩
    | false => exact gRP_filter hf h.2
  | [], _ :: _, h => h.elim
  | _ :: _, [], h => h.elim
theorem gRP_pick {sg : List Nat} {S S' : List (Nat × Value)} (h : gRP sg S S') : ∀ ks : List Nat, gRP sg (lv_pick S ks) (lv_pick S' ks)
  | [] => trivial
  | k :: ks => by
    have ih := gRP_pick h ks
    unfold lv_pick at ih ⊢
    rw [List.filterMap_cons, List.filterMap_cons]
    cases hk : S[k]? with
    | none =>
      have : S'[k]? = none := by
        rw [List.getElem?_eq_none_iff] at hk ⊢
        rw [gRP_none h]
        exact hk
      rw [this]
      exact ih
    | some q =>
      obtain ⟨v', h1, h2⟩ := gRP_get h hk
      rw [h1]
      exact ⟨⟨rfl, h2⟩, ih⟩
theorem gRP_args {sg : List Nat} : ∀ {S S' : List Value}, gRS sg S S' → ∀ i : Nat, gRP sg (lv_args i S) (lv_args i S')
  | [], [], _, _ => trivial
  | v :: S, v' :: S', h, i => by
    unfold lv_args
    rw [gRV_cat h.1]
    exact ⟨⟨rfl, h.1⟩, gRP_args h.2 _⟩
  | [], _ :: _, h, _ => h.elim
  | _ :: _, [], h, _ => h.elim
theorem gRS_sl {sg : List Nat} : ∀ {S S' : List Value}, gRS sg S S' → (lg_sl S').length = (lg_sl S).length
  | [], [], _ => rfl
  | v :: S, v' :: S', h => by
    have ih := gRS_sl h.2
    unfold lg_sl at ih ⊢
    rw [List.flatMap_cons, List.flatMap_cons, List.length_append, List.length_append, ih, gRV_cat h.1]
    split <;> rfl
  | [], _ :: _, h => h.elim
  | _ :: _, [], h => h.elim
/-! the world behind a store or a new cell -/
theorem gmap_set {ws : va_W} {k a : Nat} {e e' : va_E} (h : ws[k]? = some (a, e)) : (ws.set k (a, e')).map Prod.fst = ws.map Prod.fst := by
  apply List.ext_getElem?
  intro i
  rw [List.getElem?_map, List.getElem?_map, List.getElem?_set]
  split
  · rename_i hi
    subst hi
    rw [if_pos (List.getElem?_eq_some_iff.mp h).1, h]
    rfl
  · rfl
theorem gRH_set {U : State} {b k a : Nat} {h : gAH} {ws : va_W} {x : gAE} {e e' : va_E} (hh : gRH U (b :: ws.map Prod.fst) h ws) (hk : ws[k]? = some (a, e)) (hx : gRE U (b :: ws.map Prod.fst) x e') : gRH U (b :: (ws.set k (a, e')).map Prod.fst) (h.set k x) (ws.set k (a, e')) := by
  rw [gmap_set hk]
  refine ⟨by simp [hh.1], fun i y hy => ?_⟩
  rw [List.getElem?_set] at hy ⊢
  by_cases hi : k = i
  · subst hi
    rw [if_pos rfl] at hy ⊢
    have hl := (List.getElem?_eq_some_iff.mp hk).1
    rw [if_pos (by rw [hh.1]; exact hl)] at hy
    rw [if_pos hl]
    cases hy
    exact ⟨a, e', rfl, hx⟩
  · rw [if_neg hi] at hy ⊢
    exact hh.2 i y hy
theorem gRH_push {U : State} {b q : Nat} {h : gAH} {ws : va_W} {x : gAE} {e : va_E} (hh : gRH U (b :: ws.map Prod.fst) h ws) (hx : gRE U (b :: (ws ++ [(q, e)]).map Prod.fst) x e) : gRH U (b :: (ws ++ [(q, e)]).map Prod.fst) (h ++ [x]) (ws ++ [(q, e)]) := by
  refine ⟨by simp [hh.1], fun i y hy => ?_⟩
  have es : b :: (ws ++ [(q, e)]).map Prod.fst = (b :: ws.map Prod.fst) ++ [q] := by simp
  by_cases hi : i < h.length
  · rw [List.getElem?_append_left hi] at hy
    obtain ⟨a, e1, h1, h2⟩ := hh.2 i y hy
    refine ⟨a, e1, ?_, ?_⟩
    · rw [List.getElem?_append_left (by rw [← hh.1]; exact hi)]
      exact h1
    · rw [es]
      exact gRE_mono h2
  · rw [List.getElem?_append_right (by omega)] at hy
    have hz : i - h.length < 1 := (List.getElem?_eq_some_iff.mp hy).1
    have hz0 : i - h.length = 0 := by omega
    rw [hz0] at hy
    cases hy
    refine ⟨q, e, ?_, hx⟩
    rw [List.getElem?_append_right (by rw [← hh.1]; omega), ← hh.1, hz0]
    rfl
/-- a reference to a cell of the heap: its address -/
theorem gRH_at {U : State} {b k a : Nat} {h : gAH} {ws : va_W} {x : gAE} (hh : gRH U (b :: ws.map Prod.fst) h ws) (hx : h[k]? = some x) (ha : (b :: ws.map Prod.fst)[k + 1]? = some a) : ∃ e : va_E, ws[k]? = some (a, e) ∧ gRE U (b :: ws.map Prod.fst) x e := by
  obtain ⟨a1, e, h1, h2⟩ := hh.2 k x hx
  rw [List.getElem?_cons_succ, List.getElem?_map, h1] at ha
  cases ha
  exact ⟨e, h1, h2⟩
end
section
/-! classes: their fields in the order of the slots -/
def gR_CastSearch : String := "SwingDesk$CastSearch"
def gF_CastSearch : u_T := fun k => match k with
  | 0 => ("SwingDesk$CastSearch", "show", "LSwingDesk$Show;", true)
  | 1 => ("SwingDesk$CastSearch", "company", "LSwingDesk$Company;", true)
  | 2 => ("SwingDesk$CastSearch", "able", "[I", true)
  | 3 => ("SwingDesk$CastSearch", "oneApart", "[I", true)
  | 4 => ("SwingDesk$CastSearch", "foesApart", "[I", true)
  | 5 => ("SwingDesk$CastSearch", "cutLosses", "[I", true)
  | 6 => ("SwingDesk$CastSearch", "coverLosses", "[I", true)
  | 7 => ("SwingDesk$CastSearch", "lifts", "[I", true)
  | 8 => ("SwingDesk$CastSearch", "put", "[I", true)
  | 9 => ("SwingDesk$CastSearch", "held", "[I", true)
  | 10 => ("SwingDesk$CastSearch", "best", "[I", true)
  | 11 => ("SwingDesk$CastSearch", "bestLoss", "I", false)
  | 12 => ("SwingDesk$CastSearch", "triesLeft", "I", false)
  | _ => ("SwingDesk$CastSearch", "isSpent", "Z", false)
def gt_CastSearch : Nat → FieldType := fun k => match k with
  | 0 => .object "SwingDesk$Show"
  | 1 => .object "SwingDesk$Company"
  | 2 => .array .int
  | 3 => .array .int
  | 4 => .array .int
  | 5 => .array .int
  | 6 => .array .int
  | 7 => .array .int
  | 8 => .array .int
  | 9 => .array .int
  | 10 => .array .int
  | 11 => .int
  | 12 => .int
  | _ => .boolean
def gR_Company : String := "SwingDesk$Company"
def gF_Company : u_T := fun k => match k with
  | 0 => ("SwingDesk$Company", "people", "I", false)
  | 1 => ("SwingDesk$Company", "today", "I", false)
  | 2 => ("SwingDesk$Company", "kinds", "[I", true)
  | 3 => ("SwingDesk$Company", "sizes", "[I", true)
  | 4 => ("SwingDesk$Company", "owned", "[I", true)
  | 5 => ("SwingDesk$Company", "didOn", "[I", true)
  | 6 => ("SwingDesk$Company", "rehearsedOn", "[I", true)
  | 7 => ("SwingDesk$Company", "foes", "[I", true)
  | _ => ("SwingDesk$Company", "outFrom", "[I", true)
def gt_Company : Nat → FieldType := fun k => match k with
  | 0 => .int
  | 1 => .int
  | 2 => .array .int
  | 3 => .array .int
  | 4 => .array .int
  | 5 => .array .int
  | 6 => .array .int
  | 7 => .array .int
  | _ => .array .int
def gR_Night : String := "SwingDesk$Night"
def gF_Night : u_T := fun k => match k with
  | 0 => ("SwingDesk$Night", "show", "LSwingDesk$Show;", true)
  | 1 => ("SwingDesk$Night", "company", "LSwingDesk$Company;", true)
  | 2 => ("SwingDesk$Night", "hasCast", "Z", false)
  | 3 => ("SwingDesk$Night", "cast", "[I", true)
  | _ => ("SwingDesk$Night", "holders", "[I", true)
def gt_Night : Nat → FieldType := fun k => match k with
  | 0 => .object "SwingDesk$Show"
  | 1 => .object "SwingDesk$Company"
  | 2 => .boolean
  | 3 => .array .int
  | _ => .array .int
def gR_PutIns : String := "SwingDesk$PutIns"
def gF_PutIns : u_T := fun k => match k with
  | 0 => ("SwingDesk$PutIns", "show", "LSwingDesk$Show;", true)
  | 1 => ("SwingDesk$PutIns", "company", "LSwingDesk$Company;", true)
  | 2 => ("SwingDesk$PutIns", "needs", "[I", true)
  | 3 => ("SwingDesk$PutIns", "steps", "[I", true)
  | 4 => ("SwingDesk$PutIns", "hours", "[I", true)
  | 5 => ("SwingDesk$PutIns", "worths", "[J", true)
  | _ => ("SwingDesk$PutIns", "states", "I", false)
def gt_PutIns : Nat → FieldType := fun k => match k with
  | 0 => .object "SwingDesk$Show"
  | 1 => .object "SwingDesk$Company"
  | 2 => .array .int
  | 3 => .array .int
  | 4 => .array .int
  | 5 => .array .long
  | _ => .int
def gR_Sheet : String := "SwingDesk$Sheet"
def gF_Sheet : u_T := fun k => match k with
  | 0 => ("SwingDesk$Sheet", "length", "I", false)
  | _ => ("SwingDesk$Sheet", "row", "[B", true)
def gt_Sheet : Nat → FieldType := fun k => match k with
  | 0 => .int
  | _ => .array .byte
def gR_Show : String := "SwingDesk$Show"
def gF_Show : u_T := fun k => match k with
  | 0 => ("SwingDesk$Show", "tracks", "I", false)
  | 1 => ("SwingDesk$Show", "dresses", "[I", true)
  | 2 => ("SwingDesk$Show", "places", "[I", true)
  | 3 => ("SwingDesk$Show", "musts", "[I", true)
  | 4 => ("SwingDesk$Show", "lifters", "[I", true)
  | _ => ("SwingDesk$Show", "lifted", "[I", true)
def gt_Show : Nat → FieldType := fun k => match k with
  | 0 => .int
  | 1 => .array .int
  | 2 => .array .int
  | 3 => .array .int
  | 4 => .array .int
  | _ => .array .int
def gR_SwingDesk : String := "SwingDesk"
def gF_SwingDesk : u_T := fun k => match k with
  | 0 => ("SwingDesk", "show", "LSwingDesk$Show;", true)
  | 1 => ("SwingDesk", "company", "LSwingDesk$Company;", true)
  | 2 => ("SwingDesk", "night", "LSwingDesk$Night;", true)
  | 3 => ("SwingDesk", "search", "LSwingDesk$CastSearch;", true)
  | 4 => ("SwingDesk", "putIns", "LSwingDesk$PutIns;", true)
  | _ => ("SwingDesk", "sheets", "[LSwingDesk$Sheet;", true)
def gt_SwingDesk : Nat → FieldType := fun k => match k with
  | 0 => .object "SwingDesk$Show"
  | 1 => .object "SwingDesk$Company"
  | 2 => .object "SwingDesk$Night"
  | 3 => .object "SwingDesk$CastSearch"
  | 4 => .object "SwingDesk$PutIns"
  | _ => .array (.object "SwingDesk$Sheet")
def gR_SwingDeskModel : String := "SwingDeskModel"
def gF_SwingDeskModel : u_T := fun k => match k with
  | 0 => ("SwingDeskModel", "tracks", "I", false)
  | 1 => ("SwingDeskModel", "dress", "[I", true)
  | 2 => ("SwingDeskModel", "place", "[I", true)
  | 3 => ("SwingDeskModel", "must", "[I", true)
  | 4 => ("SwingDeskModel", "lifts", "[I", true)
  | 5 => ("SwingDeskModel", "lifted", "[I", true)
  | 6 => ("SwingDeskModel", "people", "I", false)
  | 7 => ("SwingDeskModel", "kind", "[I", true)
  | 8 => ("SwingDeskModel", "size", "[I", true)
  | 9 => ("SwingDeskModel", "owns", "[I", true)
  | 10 => ("SwingDeskModel", "done", "[I", true)
  | 11 => ("SwingDeskModel", "rehearsed", "[I", true)
  | 12 => ("SwingDeskModel", "feuds", "[I", true)
  | 13 => ("SwingDeskModel", "outs", "[I", true)
  | 14 => ("SwingDeskModel", "today", "I", false)
  | 15 => ("SwingDeskModel", "hasCast", "Z", false)
  | 16 => ("SwingDeskModel", "cast", "[I", true)
  | 17 => ("SwingDeskModel", "holders", "[I", true)
  | 18 => ("SwingDeskModel", "places", "[I", true)
  | 19 => ("SwingDeskModel", "numbers", "[I", true)
  | 20 => ("SwingDeskModel", "trial", "[I", true)
  | 21 => ("SwingDeskModel", "best", "[I", true)
  | 22 => ("SwingDeskModel", "bestLoss", "I", false)
  | 23 => ("SwingDeskModel", "triesLeft", "I", false)
  | 24 => ("SwingDeskModel", "isSpent", "Z", false)
  | 25 => ("SwingDeskModel", "least", "[I", true)
  | 26 => ("SwingDeskModel", "power", "[I", true)
  | _ => ("SwingDeskModel", "carried", "[I", true)
def gt_SwingDeskModel : Nat → FieldType := fun k => match k with
  | 0 => .int
  | 1 => .array .int
  | 2 => .array .int
  | 3 => .array .int
  | 4 => .array .int
  | 5 => .array .int
  | 6 => .int
  | 7 => .array .int
  | 8 => .array .int
  | 9 => .array .int
  | 10 => .array .int
  | 11 => .array .int
  | 12 => .array .int
  | 13 => .array .int
  | 14 => .int
  | 15 => .boolean
  | 16 => .array .int
  | 17 => .array .int
  | 18 => .array .int
  | 19 => .array .int
  | 20 => .array .int
  | 21 => .array .int
  | 22 => .int
  | 23 => .int
  | 24 => .boolean
  | 25 => .array .int
  | 26 => .array .int
  | _ => .array .int
abbrev gcl : List vw_C := [(gR_CastSearch, gF_CastSearch, 14), (gR_Company, gF_Company, 9), (gR_Night, gF_Night, 5), (gR_PutIns, gF_PutIns, 7), (gR_Sheet, gF_Sheet, 2), (gR_Show, gF_Show, 6), (gR_SwingDesk, gF_SwingDesk, 6), (gR_SwingDeskModel, gF_SwingDeskModel, 28)]
def gT : List Cond := lw_tbl.filter goodWord
theorem gT_of {i : Nat} {w : Cond} (h : lw_tbl[i]? = some w) (hg : goodWord w = true) : w ∈ gT := List.mem_filter.mpr ⟨List.mem_of_getElem? h, hg⟩
theorem gn_CastSearch : ∀ a, a < 14 → ∀ b, b < 14 → a ≠ b → (gF_CastSearch a).2.1 ≠ (gF_CastSearch b).2.1 := by decide +kernel
theorem gty_CastSearch : ∀ k, k < 14 → parseFieldDescriptor (gF_CastSearch k).2.2.1 = some (gt_CastSearch k) := by decide +kernel
theorem gl_CastSearch : ∀ k, k < 14 → lw_tbl[([179, 181, 183, 185, 187, 189, 191, 193, 195, 197, 199, 201, 203, 205] : List Nat).getD k 0]? = some (u_lay gR_CastSearch gF_CastSearch k) ∧ goodWord (u_lay gR_CastSearch gF_CastSearch k) = true := by decide +kernel
theorem gi_CastSearch : ∀ w ∈ u_ws gR_CastSearch gF_CastSearch 14, w ∈ gT := by
  intro w hw
  obtain ⟨k, hk, rfl⟩ := List.mem_map.mp hw
  obtain ⟨h1, h2⟩ := gl_CastSearch k (List.mem_range.mp hk)
  exact gT_of h1 h2
theorem gn_Company : ∀ a, a < 9 → ∀ b, b < 9 → a ≠ b → (gF_Company a).2.1 ≠ (gF_Company b).2.1 := by decide +kernel
theorem gty_Company : ∀ k, k < 9 → parseFieldDescriptor (gF_Company k).2.2.1 = some (gt_Company k) := by decide +kernel
theorem gl_Company : ∀ k, k < 9 → lw_tbl[([116, 118, 120, 122, 124, 126, 128, 130, 132] : List Nat).getD k 0]? = some (u_lay gR_Company gF_Company k) ∧ goodWord (u_lay gR_Company gF_Company k) = true := by decide +kernel
theorem gi_Company : ∀ w ∈ u_ws gR_Company gF_Company 9, w ∈ gT := by
  intro w hw
  obtain ⟨k, hk, rfl⟩ := List.mem_map.mp hw
  obtain ⟨h1, h2⟩ := gl_Company k (List.mem_range.mp hk)
  exact gT_of h1 h2
theorem gn_Night : ∀ a, a < 5 → ∀ b, b < 5 → a ≠ b → (gF_Night a).2.1 ≠ (gF_Night b).2.1 := by decide +kernel
theorem gty_Night : ∀ k, k < 5 → parseFieldDescriptor (gF_Night k).2.2.1 = some (gt_Night k) := by decide +kernel
theorem gl_Night : ∀ k, k < 5 → lw_tbl[([148, 150, 152, 154, 156] : List Nat).getD k 0]? = some (u_lay gR_Night gF_Night k) ∧ goodWord (u_lay gR_Night gF_Night k) = true := by decide +kernel
theorem gi_Night : ∀ w ∈ u_ws gR_Night gF_Night 5, w ∈ gT := by
  intro w hw
  obtain ⟨k, hk, rfl⟩ := List.mem_map.mp hw
  obtain ⟨h1, h2⟩ := gl_Night k (List.mem_range.mp hk)
  exact gT_of h1 h2
theorem gn_PutIns : ∀ a, a < 7 → ∀ b, b < 7 → a ≠ b → (gF_PutIns a).2.1 ≠ (gF_PutIns b).2.1 := by decide +kernel
theorem gty_PutIns : ∀ k, k < 7 → parseFieldDescriptor (gF_PutIns k).2.2.1 = some (gt_PutIns k) := by decide +kernel
theorem gl_PutIns : ∀ k, k < 7 → lw_tbl[([221, 223, 225, 227, 229, 231, 233] : List Nat).getD k 0]? = some (u_lay gR_PutIns gF_PutIns k) ∧ goodWord (u_lay gR_PutIns gF_PutIns k) = true := by decide +kernel
theorem gi_PutIns : ∀ w ∈ u_ws gR_PutIns gF_PutIns 7, w ∈ gT := by
  intro w hw
  obtain ⟨k, hk, rfl⟩ := List.mem_map.mp hw
  obtain ⟨h1, h2⟩ := gl_PutIns k (List.mem_range.mp hk)
  exact gT_of h1 h2
theorem gn_Sheet : ∀ a, a < 2 → ∀ b, b < 2 → a ≠ b → (gF_Sheet a).2.1 ≠ (gF_Sheet b).2.1 := by decide +kernel
theorem gty_Sheet : ∀ k, k < 2 → parseFieldDescriptor (gF_Sheet k).2.2.1 = some (gt_Sheet k) := by decide +kernel
theorem gl_Sheet : ∀ k, k < 2 → lw_tbl[([246, 248] : List Nat).getD k 0]? = some (u_lay gR_Sheet gF_Sheet k) ∧ goodWord (u_lay gR_Sheet gF_Sheet k) = true := by decide +kernel
theorem gi_Sheet : ∀ w ∈ u_ws gR_Sheet gF_Sheet 2, w ∈ gT := by
  intro w hw
  obtain ⟨k, hk, rfl⟩ := List.mem_map.mp hw
  obtain ⟨h1, h2⟩ := gl_Sheet k (List.mem_range.mp hk)
  exact gT_of h1 h2
theorem gn_Show : ∀ a, a < 6 → ∀ b, b < 6 → a ≠ b → (gF_Show a).2.1 ≠ (gF_Show b).2.1 := by decide +kernel
theorem gty_Show : ∀ k, k < 6 → parseFieldDescriptor (gF_Show k).2.2.1 = some (gt_Show k) := by decide +kernel
theorem gl_Show : ∀ k, k < 6 → lw_tbl[([85, 87, 89, 91, 93, 95] : List Nat).getD k 0]? = some (u_lay gR_Show gF_Show k) ∧ goodWord (u_lay gR_Show gF_Show k) = true := by decide +kernel
theorem gi_Show : ∀ w ∈ u_ws gR_Show gF_Show 6, w ∈ gT := by
  intro w hw
  obtain ⟨k, hk, rfl⟩ := List.mem_map.mp hw
  obtain ⟨h1, h2⟩ := gl_Show k (List.mem_range.mp hk)
  exact gT_of h1 h2
theorem gn_SwingDesk : ∀ a, a < 6 → ∀ b, b < 6 → a ≠ b → (gF_SwingDesk a).2.1 ≠ (gF_SwingDesk b).2.1 := by decide +kernel
theorem gty_SwingDesk : ∀ k, k < 6 → parseFieldDescriptor (gF_SwingDesk k).2.2.1 = some (gt_SwingDesk k) := by decide +kernel
theorem gl_SwingDesk : ∀ k, k < 6 → lw_tbl[([258, 260, 262, 264, 266, 268] : List Nat).getD k 0]? = some (u_lay gR_SwingDesk gF_SwingDesk k) ∧ goodWord (u_lay gR_SwingDesk gF_SwingDesk k) = true := by decide +kernel
theorem gi_SwingDesk : ∀ w ∈ u_ws gR_SwingDesk gF_SwingDesk 6, w ∈ gT := by
  intro w hw
  obtain ⟨k, hk, rfl⟩ := List.mem_map.mp hw
  obtain ⟨h1, h2⟩ := gl_SwingDesk k (List.mem_range.mp hk)
  exact gT_of h1 h2
theorem gn_SwingDeskModel : ∀ a, a < 28 → ∀ b, b < 28 → a ≠ b → (gF_SwingDeskModel a).2.1 ≠ (gF_SwingDeskModel b).2.1 := by decide +kernel
theorem gty_SwingDeskModel : ∀ k, k < 28 → parseFieldDescriptor (gF_SwingDeskModel k).2.2.1 = some (gt_SwingDeskModel k) := by decide +kernel
theorem gl_SwingDeskModel : ∀ k, k < 28 → lw_tbl[([890, 892, 894, 896, 898, 900, 902, 904, 906, 908, 910, 912, 914, 916, 918, 920, 922, 924, 926, 928, 930, 932, 934, 936, 938, 940, 942, 944] : List Nat).getD k 0]? = some (u_lay gR_SwingDeskModel gF_SwingDeskModel k) ∧ goodWord (u_lay gR_SwingDeskModel gF_SwingDeskModel k) = true := by decide +kernel
theorem gi_SwingDeskModel : ∀ w ∈ u_ws gR_SwingDeskModel gF_SwingDeskModel 28, w ∈ gT := by
  intro w hw
  obtain ⟨k, hk, rfl⟩ := List.mem_map.mp hw
  obtain ⟨h1, h2⟩ := gl_SwingDeskModel k (List.mem_range.mp hk)
  exact gT_of h1 h2
def gNest : List Cond := [.methodLinkNest "SwingDesk$Show" 43 (⟨"SwingDesk", "isCue", "(I)Z"⟩ : MethodName) "SwingDesk", .methodLinkNest "SwingDesk$Sheet" 19 (⟨"SwingDesk", "isWithin", "(III)Z"⟩ : MethodName) "SwingDesk", .methodLinkNest "SwingDesk$Company" 62 (⟨"SwingDesk", "isWithin", "(III)Z"⟩ : MethodName) "SwingDesk", .methodLinkNest "SwingDesk$Night" 60 (⟨"SwingDesk", "isCue", "(I)Z"⟩ : MethodName) "SwingDesk", .methodLinkNest "SwingDesk$PutIns" 70 (⟨"SwingDesk", "isWithin", "(III)Z"⟩ : MethodName) "SwingDesk"]
theorem gNest_in : ∀ w ∈ gNest, w ∈ lw_tbl := by
  intro w hw
  simp only [gNest, List.mem_cons, List.not_mem_nil, or_false] at hw
  rcases hw with rfl | rfl | rfl | rfl | rfl
  · exact List.mem_of_getElem? (i := 304) (by decide +kernel)
  · exact List.mem_of_getElem? (i := 357) (by decide +kernel)
  · exact List.mem_of_getElem? (i := 427) (by decide +kernel)
  · exact List.mem_of_getElem? (i := 642) (by decide +kernel)
  · exact List.mem_of_getElem? (i := 776) (by decide +kernel)
theorem gAO_in : Cond.arrayOver (.object "SwingDesk$Sheet") ∈ lw_tbl := List.mem_of_getElem? (i := 238) (by decide +kernel)
def gN (U : State) : Prop := (∀ w ∈ gNest, va_Nw w U) ∧ va_AO "SwingDesk$Sheet" U
theorem gN_warm {s U : State} (hW : s.WarmedH U.vm) (h : gN s) : gN U := by
  refine ⟨fun w hw => ?_, h.2.moved hW.alike⟩
  have h1 := h.1 w hw
  simp only [gNest, List.mem_cons, List.not_mem_nil, or_false] at hw
  rcases hw with rfl | rfl | rfl | rfl | rfl <;> exact va_Nw.warmM hW h1
theorem gN_same {s U : State} (e : s.vm = U.vm) (h : gN s) : gN U := by
  refine ⟨fun w hw => ?_, h.2.moved (by rw [e]; exact Vm.Alike.refl _)⟩
  have h1 := h.1 w hw
  simp only [gNest, List.mem_cons, List.not_mem_nil, or_false] at hw
  rcases hw with rfl | rfl | rfl | rfl | rfl <;> exact va_Nw.same rfl e h1
end
section
/-! what a walk stands in: machine, room, start, method, the world's letters, the end -/
abbrev gCx : Type := (Program × Launch × Env × Room × State × MethodId × Array Value × List Frame) × (Method × Code × va_G × Nat × (Nat → Prop) × List Nat × (State → Prop))
/-- a method: name, bytes, locals, return type, cells and slots that it may make -/
abbrev gMd : Type := MethodName × ByteArray × Nat × Option FieldType × Nat × Nat
abbrev gRm (d : Nat) (M : gMd) : Room := { frames := d, cells := M.2.2.2.2.1, slots := M.2.2.2.2.2, locals := 40 * d }
abbrev gWs (M : gMd) : List Cond := Cond.code M.1 M.2.1 M.2.2.1 M.2.2.2.1 :: gT
def gC (X : gCx) (M : gMd) : Prop := match X with
  | ((p, l, e, R, s, m, args, below), (meth, c, D, b, A, s0, Z)) => p.tables.exec = Jvm.exec ∧ c.code = M.2.1 ∧ c.maxLocals = M.2.2.1 ∧ s.vm.findClass M.1.cls = some m.cls ∧ (∀ w ∈ gT, w.before args s = true) ∧ gN s ∧ va_K D gcl [] s ∧ (∀ q : Nat, s.heap.size ≤ q → A q)
def gSt (X : gCx) (M : gMd) (L : List (Nat × Value)) (S : List Value) (h : gAH) (ws : va_W) (H : Heap) (locs : List Loc) (ls : Array Slot) (S' : List Value) : Prop := match X with
  | ((p, l, e, R, s, m, args, below), (meth, c, D, b, A, s0, Z)) => va_P D gcl ws H ∧ va_D A ws ∧ va_S A s.heap H locs ∧ gRH s (b :: ws.map Prod.fst) h ws ∧ s0 <+: ws.map Prod.fst ∧ (∃ L' : List (Nat × Value), lv_has ls M.2.2.1 L' ∧ gRP (b :: ws.map Prod.fst) L L') ∧ gRS (b :: ws.map Prod.fst) S S'
/-- the machine, at this place with these values, comes to its end -/
def GW (X : gCx) (M : gMd) (pc : Nat) (L : List (Nat × Value)) (S : List Value) (h : gAH) (kc ks : Nat) : Prop := match X with
  | ((p, l, e, R, s, m, args, below), (meth, c, D, b, A, s0, Z)) => ∀ (ws : va_W) (H : Heap) (locs : List Loc) (ls : Array Slot) (S' : List Value), gSt ((p, l, e, R, s, m, args, below), (meth, c, D, b, A, s0, Z)) M L S h ws H locs ls S' → W p l e R s m args below meth c H locs kc ks Z (F0 m pc ls S')
/-- a method's end: an answer, and the heap with it -/
def gQC (D : va_G) (b : Nat) (s0 : List Nat) (A : Nat → Prop) (Q : Option Value → gAH → Prop) : Array Value → State → Outcome → State → Prop := fun _ st oc t => (∃ (v v' : Option Value) (h' : gAH) (ws' : va_W), oc = .returned v' ∧ Q v h' ∧ gROV (b :: ws'.map Prod.fst) v v' ∧ va_P D gcl ws' t.heap ∧ va_K D gcl [] t ∧ va_D A ws' ∧ gRH t (b :: ws'.map Prod.fst) h' ws' ∧ s0 <+: ws'.map Prod.fst) ∧ va_F A st t
def gB (D : va_G) (b : Nat) (h : gAH) (ws : va_W) (sz : Nat) (U : State) : Prop := U.heap.size = sz ∧ va_P D gcl ws U.heap ∧ va_K D gcl [] U ∧ va_D (fun _ => True) ws ∧ gRH U (b :: ws.map Prod.fst) h ws ∧ gN U
/-- A METHOD'S CONTRACT: with these arguments and this heap it returns, and Q holds of answer and heap -/
def AM (D : va_G) (d : Nat) (M : gMd) (av : List Value) (h : gAH) (Q : Option Value → gAH → Prop) : Prop :=
  ∀ (l : Launch) (b : Nat) (ws : va_W) (sz : Nat) (av' : List Value), gRS (b :: ws.map Prod.fst) av av' → Met l M.1 (gWs M) (gRm d M) (va_Pc av' (gB D b h ws sz)) (gQC D b (ws.map Prod.fst) (va_A ws sz) Q) M.2.2.2.2.1 M.2.2.2.2.2 (va_A ws sz)
def gCX (D : va_G) (d : Nat) (M : gMd) (Q : Option Value → gAH → Prop) (X : gCx) : Prop := gC X M ∧ match X with
  | ((p, l, e, R, s, m, args, below), (meth, c, D', b, A, s0, Z)) => D' = D ∧ R = gRm d M ∧ meth.sig.returnType = M.2.2.2.1 ∧ meth.locks = false ∧ meth.name = M.1.name ∧ Z = MQ below (gQC D b s0 A Q) args s M.2.2.2.2.1 M.2.2.2.2.2 A
def AW (D : va_G) (d : Nat) (M : gMd) (pc : Nat) (L : List (Nat × Value)) (S : List Value) (h : gAH) (kc ks : Nat) (Q : Option Value → gAH → Prop) : Prop := ∀ X : gCx, gCX D d M Q X → GW X M pc L S h kc ks
section GRULES
variable {X : gCx} {M : gMd} {pc : Nat} {L : List (Nat × Value)} {S : List Value} {h : gAH} {kc ks : Nat}

theorem gw_iadd (C : gC X M) {y : Int32} {x : Int32} (hd : decode M.2.1 pc = .ok (.iadd, 1)) (k : GW X M (pc + 1) L (.int (x + y) :: S) h kc ks) : GW X M pc L (.int y :: .int x :: S) h kc ks := by
  obtain ⟨⟨p, l, e, R, s, m, args, below⟩, ⟨meth, c, D, b, A, s0, Z⟩⟩ := X
  obtain ⟨hx, hb, hml, hown, hts, hN, hK, hA⟩ := C
  intro ws H locs ls S' ⟨hP, hD, hS, hRH, hpre, hL, hSt⟩
  obtain ⟨S1', rfl, hSt1⟩ := gRS_int hSt
  obtain ⟨S2', rfl, hSt2⟩ := gRS_int hSt1
  exact lv_iadd hx hb hd (k ws H locs ls _ ⟨hP, hD, hS, hRH, hpre, hL, rfl, hSt2⟩)
theorem gw_isub (C : gC X M) {y : Int32} {x : Int32} (hd : decode M.2.1 pc = .ok (.isub, 1)) (k : GW X M (pc + 1) L (.int (x - y) :: S) h kc ks) : GW X M pc L (.int y :: .int x :: S) h kc ks := by
  obtain ⟨⟨p, l, e, R, s, m, args, below⟩, ⟨meth, c, D, b, A, s0, Z⟩⟩ := X
  obtain ⟨hx, hb, hml, hown, hts, hN, hK, hA⟩ := C
  intro ws H locs ls S' ⟨hP, hD, hS, hRH, hpre, hL, hSt⟩
  obtain ⟨S1', rfl, hSt1⟩ := gRS_int hSt
  obtain ⟨S2', rfl, hSt2⟩ := gRS_int hSt1
  exact lv_isub hx hb hd (k ws H locs ls _ ⟨hP, hD, hS, hRH, hpre, hL, rfl, hSt2⟩)
theorem gw_imul (C : gC X M) {y : Int32} {x : Int32} (hd : decode M.2.1 pc = .ok (.imul, 1)) (k : GW X M (pc + 1) L (.int (x * y) :: S) h kc ks) : GW X M pc L (.int y :: .int x :: S) h kc ks := by
  obtain ⟨⟨p, l, e, R, s, m, args, below⟩, ⟨meth, c, D, b, A, s0, Z⟩⟩ := X
  obtain ⟨hx, hb, hml, hown, hts, hN, hK, hA⟩ := C
  intro ws H locs ls S' ⟨hP, hD, hS, hRH, hpre, hL, hSt⟩
  obtain ⟨S1', rfl, hSt1⟩ := gRS_int hSt
  obtain ⟨S2', rfl, hSt2⟩ := gRS_int hSt1
  exact lv_imul hx hb hd (k ws H locs ls _ ⟨hP, hD, hS, hRH, hpre, hL, rfl, hSt2⟩)
theorem gw_iand (C : gC X M) {y : Int32} {x : Int32} (hd : decode M.2.1 pc = .ok (.iand, 1)) (k : GW X M (pc + 1) L (.int (x &&& y) :: S) h kc ks) : GW X M pc L (.int y :: .int x :: S) h kc ks := by
  obtain ⟨⟨p, l, e, R, s, m, args, below⟩, ⟨meth, c, D, b, A, s0, Z⟩⟩ := X
  obtain ⟨hx, hb, hml, hown, hts, hN, hK, hA⟩ := C
  intro ws H locs ls S' ⟨hP, hD, hS, hRH, hpre, hL, hSt⟩
  obtain ⟨S1', rfl, hSt1⟩ := gRS_int hSt
  obtain ⟨S2', rfl, hSt2⟩ := gRS_int hSt1
  exact lv_iand hx hb hd (k ws H locs ls _ ⟨hP, hD, hS, hRH, hpre, hL, rfl, hSt2⟩)
theorem gw_ior (C : gC X M) {y : Int32} {x : Int32} (hd : decode M.2.1 pc = .ok (.ior, 1)) (k : GW X M (pc + 1) L (.int (x ||| y) :: S) h kc ks) : GW X M pc L (.int y :: .int x :: S) h kc ks := by
  obtain ⟨⟨p, l, e, R, s, m, args, below⟩, ⟨meth, c, D, b, A, s0, Z⟩⟩ := X
  obtain ⟨hx, hb, hml, hown, hts, hN, hK, hA⟩ := C
  intro ws H locs ls S' ⟨hP, hD, hS, hRH, hpre, hL, hSt⟩
  obtain ⟨S1', rfl, hSt1⟩ := gRS_int hSt
  obtain ⟨S2', rfl, hSt2⟩ := gRS_int hSt1
  exact lv_ior hx hb hd (k ws H locs ls _ ⟨hP, hD, hS, hRH, hpre, hL, rfl, hSt2⟩)
theorem gw_ixor (C : gC X M) {y : Int32} {x : Int32} (hd : decode M.2.1 pc = .ok (.ixor, 1)) (k : GW X M (pc + 1) L (.int (x ^^^ y) :: S) h kc ks) : GW X M pc L (.int y :: .int x :: S) h kc ks := by
  obtain ⟨⟨p, l, e, R, s, m, args, below⟩, ⟨meth, c, D, b, A, s0, Z⟩⟩ := X
  obtain ⟨hx, hb, hml, hown, hts, hN, hK, hA⟩ := C
  intro ws H locs ls S' ⟨hP, hD, hS, hRH, hpre, hL, hSt⟩
  obtain ⟨S1', rfl, hSt1⟩ := gRS_int hSt
  obtain ⟨S2', rfl, hSt2⟩ := gRS_int hSt1
  exact lv_ixor hx hb hd (k ws H locs ls _ ⟨hP, hD, hS, hRH, hpre, hL, rfl, hSt2⟩)
theorem gw_ishl (C : gC X M) {y : Int32} {x : Int32} (hd : decode M.2.1 pc = .ok (.ishl, 1)) (k : GW X M (pc + 1) L (.int (x <<< (y &&& 31)) :: S) h kc ks) : GW X M pc L (.int y :: .int x :: S) h kc ks := by
  obtain ⟨⟨p, l, e, R, s, m, args, below⟩, ⟨meth, c, D, b, A, s0, Z⟩⟩ := X
  obtain ⟨hx, hb, hml, hown, hts, hN, hK, hA⟩ := C
  intro ws H locs ls S' ⟨hP, hD, hS, hRH, hpre, hL, hSt⟩
  obtain ⟨S1', rfl, hSt1⟩ := gRS_int hSt
  obtain ⟨S2', rfl, hSt2⟩ := gRS_int hSt1
  exact lv_ishl hx hb hd (k ws H locs ls _ ⟨hP, hD, hS, hRH, hpre, hL, rfl, hSt2⟩)
theorem gw_ishr (C : gC X M) {y : Int32} {x : Int32} (hd : decode M.2.1 pc = .ok (.ishr, 1)) (k : GW X M (pc + 1) L (.int (x >>> (y &&& 31)) :: S) h kc ks) : GW X M pc L (.int y :: .int x :: S) h kc ks := by
  obtain ⟨⟨p, l, e, R, s, m, args, below⟩, ⟨meth, c, D, b, A, s0, Z⟩⟩ := X
  obtain ⟨hx, hb, hml, hown, hts, hN, hK, hA⟩ := C
  intro ws H locs ls S' ⟨hP, hD, hS, hRH, hpre, hL, hSt⟩
  obtain ⟨S1', rfl, hSt1⟩ := gRS_int hSt
  obtain ⟨S2', rfl, hSt2⟩ := gRS_int hSt1
  exact lv_ishr hx hb hd (k ws H locs ls _ ⟨hP, hD, hS, hRH, hpre, hL, rfl, hSt2⟩)
theorem gw_idiv (C : gC X M) {y : Int32} {x : Int32} (hd : decode M.2.1 pc = .ok (.idiv, 1)) (hne : ¬ y = 0) (k : GW X M (pc + 1) L (.int (x / y) :: S) h kc ks) : GW X M pc L (.int y :: .int x :: S) h kc ks := by
  obtain ⟨⟨p, l, e, R, s, m, args, below⟩, ⟨meth, c, D, b, A, s0, Z⟩⟩ := X
  obtain ⟨hx, hb, hml, hown, hts, hN, hK, hA⟩ := C
  intro ws H locs ls S' ⟨hP, hD, hS, hRH, hpre, hL, hSt⟩
  obtain ⟨S1', rfl, hSt1⟩ := gRS_int hSt
  obtain ⟨S2', rfl, hSt2⟩ := gRS_int hSt1
  exact lv_idiv hx hb hd hne (k ws H locs ls _ ⟨hP, hD, hS, hRH, hpre, hL, rfl, hSt2⟩)
theorem gw_irem (C : gC X M) {y : Int32} {x : Int32} (hd : decode M.2.1 pc = .ok (.irem, 1)) (hne : ¬ y = 0) (k : GW X M (pc + 1) L (.int (x - x / y * y) :: S) h kc ks) : GW X M pc L (.int y :: .int x :: S) h kc ks := by
  obtain ⟨⟨p, l, e, R, s, m, args, below⟩, ⟨meth, c, D, b, A, s0, Z⟩⟩ := X
  obtain ⟨hx, hb, hml, hown, hts, hN, hK, hA⟩ := C
  intro ws H locs ls S' ⟨hP, hD, hS, hRH, hpre, hL, hSt⟩
  obtain ⟨S1', rfl, hSt1⟩ := gRS_int hSt
  obtain ⟨S2', rfl, hSt2⟩ := gRS_int hSt1
  exact lv_irem hx hb hd hne (k ws H locs ls _ ⟨hP, hD, hS, hRH, hpre, hL, rfl, hSt2⟩)
theorem gw_iushr (C : gC X M) {y : Int32} {x : Int32} (hd : decode M.2.1 pc = .ok (.iushr, 1)) (k : GW X M (pc + 1) L (.int ((x.toUInt32 >>> (y.toUInt32 &&& Int32.toUInt32 31)).toInt32) :: S) h kc ks) : GW X M pc L (.int y :: .int x :: S) h kc ks := by
  obtain ⟨⟨p, l, e, R, s, m, args, below⟩, ⟨meth, c, D, b, A, s0, Z⟩⟩ := X
  obtain ⟨hx, hb, hml, hown, hts, hN, hK, hA⟩ := C
  intro ws H locs ls S' ⟨hP, hD, hS, hRH, hpre, hL, hSt⟩
  obtain ⟨S1', rfl, hSt1⟩ := gRS_int hSt
  obtain ⟨S2', rfl, hSt2⟩ := gRS_int hSt1
  exact lv_iushr hx hb hd rfl (k ws H locs ls _ ⟨hP, hD, hS, hRH, hpre, hL, rfl, hSt2⟩)
theorem gw_ineg (C : gC X M) {x : Int32} (hd : decode M.2.1 pc = .ok (.ineg, 1)) (k : GW X M (pc + 1) L (.int (-x) :: S) h kc ks) : GW X M pc L (.int x :: S) h kc ks := by
  obtain ⟨⟨p, l, e, R, s, m, args, below⟩, ⟨meth, c, D, b, A, s0, Z⟩⟩ := X
  obtain ⟨hx, hb, hml, hown, hts, hN, hK, hA⟩ := C
  intro ws H locs ls S' ⟨hP, hD, hS, hRH, hpre, hL, hSt⟩
  obtain ⟨S1', rfl, hSt1⟩ := gRS_int hSt
  exact lv_ineg hx hb hd (k ws H locs ls _ ⟨hP, hD, hS, hRH, hpre, hL, rfl, hSt1⟩)
theorem gw_ladd (C : gC X M) {y : Int64} {x : Int64} (hd : decode M.2.1 pc = .ok (.ladd, 1)) (k : GW X M (pc + 1) L (.long (x + y) :: S) h kc ks) : GW X M pc L (.long y :: .long x :: S) h kc ks := by
  obtain ⟨⟨p, l, e, R, s, m, args, below⟩, ⟨meth, c, D, b, A, s0, Z⟩⟩ := X
  obtain ⟨hx, hb, hml, hown, hts, hN, hK, hA⟩ := C
  intro ws H locs ls S' ⟨hP, hD, hS, hRH, hpre, hL, hSt⟩
  obtain ⟨S1', rfl, hSt1⟩ := gRS_long hSt
  obtain ⟨S2', rfl, hSt2⟩ := gRS_long hSt1
  exact lv_ladd hx hb hd (k ws H locs ls _ ⟨hP, hD, hS, hRH, hpre, hL, rfl, hSt2⟩)
theorem gw_lsub (C : gC X M) {y : Int64} {x : Int64} (hd : decode M.2.1 pc = .ok (.lsub, 1)) (k : GW X M (pc + 1) L (.long (x - y) :: S) h kc ks) : GW X M pc L (.long y :: .long x :: S) h kc ks := by
  obtain ⟨⟨p, l, e, R, s, m, args, below⟩, ⟨meth, c, D, b, A, s0, Z⟩⟩ := X
  obtain ⟨hx, hb, hml, hown, hts, hN, hK, hA⟩ := C
  intro ws H locs ls S' ⟨hP, hD, hS, hRH, hpre, hL, hSt⟩
  obtain ⟨S1', rfl, hSt1⟩ := gRS_long hSt
  obtain ⟨S2', rfl, hSt2⟩ := gRS_long hSt1
  exact lv_lsub hx hb hd (k ws H locs ls _ ⟨hP, hD, hS, hRH, hpre, hL, rfl, hSt2⟩)
theorem gw_lmul (C : gC X M) {y : Int64} {x : Int64} (hd : decode M.2.1 pc = .ok (.lmul, 1)) (k : GW X M (pc + 1) L (.long (x * y) :: S) h kc ks) : GW X M pc L (.long y :: .long x :: S) h kc ks := by
  obtain ⟨⟨p, l, e, R, s, m, args, below⟩, ⟨meth, c, D, b, A, s0, Z⟩⟩ := X
  obtain ⟨hx, hb, hml, hown, hts, hN, hK, hA⟩ := C
  intro ws H locs ls S' ⟨hP, hD, hS, hRH, hpre, hL, hSt⟩
  obtain ⟨S1', rfl, hSt1⟩ := gRS_long hSt
  obtain ⟨S2', rfl, hSt2⟩ := gRS_long hSt1
  exact lv_lmul hx hb hd (k ws H locs ls _ ⟨hP, hD, hS, hRH, hpre, hL, rfl, hSt2⟩)
theorem gw_ldiv (C : gC X M) {y : Int64} {x : Int64} (hd : decode M.2.1 pc = .ok (.ldiv, 1)) (hne : ¬ y = 0) (k : GW X M (pc + 1) L (.long (x / y) :: S) h kc ks) : GW X M pc L (.long y :: .long x :: S) h kc ks := by
  obtain ⟨⟨p, l, e, R, s, m, args, below⟩, ⟨meth, c, D, b, A, s0, Z⟩⟩ := X
  obtain ⟨hx, hb, hml, hown, hts, hN, hK, hA⟩ := C
  intro ws H locs ls S' ⟨hP, hD, hS, hRH, hpre, hL, hSt⟩
  obtain ⟨S1', rfl, hSt1⟩ := gRS_long hSt
  obtain ⟨S2', rfl, hSt2⟩ := gRS_long hSt1
  exact lv_ldiv hx hb hd hne (k ws H locs ls _ ⟨hP, hD, hS, hRH, hpre, hL, rfl, hSt2⟩)
theorem gw_lrem (C : gC X M) {y : Int64} {x : Int64} (hd : decode M.2.1 pc = .ok (.lrem, 1)) (hne : ¬ y = 0) (k : GW X M (pc + 1) L (.long (x - x / y * y) :: S) h kc ks) : GW X M pc L (.long y :: .long x :: S) h kc ks := by
  obtain ⟨⟨p, l, e, R, s, m, args, below⟩, ⟨meth, c, D, b, A, s0, Z⟩⟩ := X
  obtain ⟨hx, hb, hml, hown, hts, hN, hK, hA⟩ := C
  intro ws H locs ls S' ⟨hP, hD, hS, hRH, hpre, hL, hSt⟩
  obtain ⟨S1', rfl, hSt1⟩ := gRS_long hSt
  obtain ⟨S2', rfl, hSt2⟩ := gRS_long hSt1
  exact lv_lrem hx hb hd hne (k ws H locs ls _ ⟨hP, hD, hS, hRH, hpre, hL, rfl, hSt2⟩)
theorem gw_lcmp (C : gC X M) {y : Int64} {x : Int64} (hd : decode M.2.1 pc = .ok (.lcmp, 1)) (k : GW X M (pc + 1) L (.int (lg_cmp x y) :: S) h kc ks) : GW X M pc L (.long y :: .long x :: S) h kc ks := by
  obtain ⟨⟨p, l, e, R, s, m, args, below⟩, ⟨meth, c, D, b, A, s0, Z⟩⟩ := X
  obtain ⟨hx, hb, hml, hown, hts, hN, hK, hA⟩ := C
  intro ws H locs ls S' ⟨hP, hD, hS, hRH, hpre, hL, hSt⟩
  obtain ⟨S1', rfl, hSt1⟩ := gRS_long hSt
  obtain ⟨S2', rfl, hSt2⟩ := gRS_long hSt1
  exact W.lcmp hx hb hd (k ws H locs ls _ ⟨hP, hD, hS, hRH, hpre, hL, rfl, hSt2⟩)
theorem gw_i2l (C : gC X M) {x : Int32} (hd : decode M.2.1 pc = .ok (.i2l, 1)) (k : GW X M (pc + 1) L (.long x.toInt64 :: S) h kc ks) : GW X M pc L (.int x :: S) h kc ks := by
  obtain ⟨⟨p, l, e, R, s, m, args, below⟩, ⟨meth, c, D, b, A, s0, Z⟩⟩ := X
  obtain ⟨hx, hb, hml, hown, hts, hN, hK, hA⟩ := C
  intro ws H locs ls S' ⟨hP, hD, hS, hRH, hpre, hL, hSt⟩
  obtain ⟨S1', rfl, hSt1⟩ := gRS_int hSt
  exact lv_i2l hx hb hd rfl (k ws H locs ls _ ⟨hP, hD, hS, hRH, hpre, hL, rfl, hSt1⟩)
theorem gw_l2i (C : gC X M) {x : Int64} (hd : decode M.2.1 pc = .ok (.l2i, 1)) (k : GW X M (pc + 1) L (.int x.toInt32 :: S) h kc ks) : GW X M pc L (.long x :: S) h kc ks := by
  obtain ⟨⟨p, l, e, R, s, m, args, below⟩, ⟨meth, c, D, b, A, s0, Z⟩⟩ := X
  obtain ⟨hx, hb, hml, hown, hts, hN, hK, hA⟩ := C
  intro ws H locs ls S' ⟨hP, hD, hS, hRH, hpre, hL, hSt⟩
  obtain ⟨S1', rfl, hSt1⟩ := gRS_long hSt
  exact lv_l2i hx hb hd rfl (k ws H locs ls _ ⟨hP, hD, hS, hRH, hpre, hL, rfl, hSt1⟩)
theorem gw_i2b (C : gC X M) {x : Int32} (hd : decode M.2.1 pc = .ok (.i2b, 1)) (k : GW X M (pc + 1) L (.int x.toInt8.toInt32 :: S) h kc ks) : GW X M pc L (.int x :: S) h kc ks := by
  obtain ⟨⟨p, l, e, R, s, m, args, below⟩, ⟨meth, c, D, b, A, s0, Z⟩⟩ := X
  obtain ⟨hx, hb, hml, hown, hts, hN, hK, hA⟩ := C
  intro ws H locs ls S' ⟨hP, hD, hS, hRH, hpre, hL, hSt⟩
  obtain ⟨S1', rfl, hSt1⟩ := gRS_int hSt
  exact lv_i2b hx hb hd rfl (k ws H locs ls _ ⟨hP, hD, hS, hRH, hpre, hL, rfl, hSt1⟩)
theorem gw_iconst (C : gC X M) {n : Int} {v : Int32} (hd : decode M.2.1 pc = .ok (.iconst n, 1)) (hv : Int32.ofInt n = v) (k : GW X M (pc + 1) L (.int v :: S) h kc ks) : GW X M pc L (S) h kc ks := by
  obtain ⟨⟨p, l, e, R, s, m, args, below⟩, ⟨meth, c, D, b, A, s0, Z⟩⟩ := X
  obtain ⟨hx, hb, hml, hown, hts, hN, hK, hA⟩ := C
  intro ws H locs ls S' ⟨hP, hD, hS, hRH, hpre, hL, hSt⟩
  exact lv_iconst hx hb hd hv (k ws H locs ls _ ⟨hP, hD, hS, hRH, hpre, hL, rfl, hSt⟩)
theorem gw_bipush (C : gC X M) {n : Int} {v : Int32} (hd : decode M.2.1 pc = .ok (.bipush n, 2)) (hv : (Int8.ofInt n).toInt32 = v) (k : GW X M (pc + 2) L (.int v :: S) h kc ks) : GW X M pc L (S) h kc ks := by
  obtain ⟨⟨p, l, e, R, s, m, args, below⟩, ⟨meth, c, D, b, A, s0, Z⟩⟩ := X
  obtain ⟨hx, hb, hml, hown, hts, hN, hK, hA⟩ := C
  intro ws H locs ls S' ⟨hP, hD, hS, hRH, hpre, hL, hSt⟩
  exact lv_bipush hx hb hd hv (k ws H locs ls _ ⟨hP, hD, hS, hRH, hpre, hL, rfl, hSt⟩)
theorem gw_sipush (C : gC X M) {n : Int} {v : Int32} (hd : decode M.2.1 pc = .ok (.sipush n, 3)) (hv : (Int16.ofInt n).toInt32 = v) (k : GW X M (pc + 3) L (.int v :: S) h kc ks) : GW X M pc L (S) h kc ks := by
  obtain ⟨⟨p, l, e, R, s, m, args, below⟩, ⟨meth, c, D, b, A, s0, Z⟩⟩ := X
  obtain ⟨hx, hb, hml, hown, hts, hN, hK, hA⟩ := C
  intro ws H locs ls S' ⟨hP, hD, hS, hRH, hpre, hL, hSt⟩
  exact lv_sipush hx hb hd hv (k ws H locs ls _ ⟨hP, hD, hS, hRH, hpre, hL, rfl, hSt⟩)
theorem gw_lconst (C : gC X M) {n : Fin 2} {v : Int64} (hd : decode M.2.1 pc = .ok (.lconst n, 1)) (hv : Int64.ofNat (n : Nat) = v) (k : GW X M (pc + 1) L (.long v :: S) h kc ks) : GW X M pc L (S) h kc ks := by
  obtain ⟨⟨p, l, e, R, s, m, args, below⟩, ⟨meth, c, D, b, A, s0, Z⟩⟩ := X
  obtain ⟨hx, hb, hml, hown, hts, hN, hK, hA⟩ := C
  intro ws H locs ls S' ⟨hP, hD, hS, hRH, hpre, hL, hSt⟩
  exact lv_lconst hx hb hd hv (k ws H locs ls _ ⟨hP, hD, hS, hRH, hpre, hL, rfl, hSt⟩)
theorem gw_null (C : gC X M) (hd : decode M.2.1 pc = .ok (.aconst_null, 1)) (k : GW X M (pc + 1) L (.null :: S) h kc ks) : GW X M pc L (S) h kc ks := by
  obtain ⟨⟨p, l, e, R, s, m, args, below⟩, ⟨meth, c, D, b, A, s0, Z⟩⟩ := X
  obtain ⟨hx, hb, hml, hown, hts, hN, hK, hA⟩ := C
  intro ws H locs ls S' ⟨hP, hD, hS, hRH, hpre, hL, hSt⟩
  exact lv_null hx hb hd (k ws H locs ls _ ⟨hP, hD, hS, hRH, hpre, hL, rfl, hSt⟩)
theorem gw_ldc (C : gC X M) {i : Nat} {v : Int32} (hc : Cond.constant M.1.cls i v ∈ gT) (hd : decode M.2.1 pc = .ok (.ldc i, 2)) (k : GW X M (pc + 2) L (.int v :: S) h kc ks) : GW X M pc L S h kc ks := by
  obtain ⟨⟨p, l, e, R, s, m, args, below⟩, ⟨meth, c, D, b, A, s0, Z⟩⟩ := X
  obtain ⟨hx, hb, hml, hown, hts, hN, hK, hA⟩ := C
  intro ws H locs ls S' ⟨hP, hD, hS, hRH, hpre, hL, hSt⟩
  exact lv_ldc hx hb hown (hts _ hc) hd (k ws H locs ls _ ⟨hP, hD, hS, hRH, hpre, hL, rfl, hSt⟩)
theorem gw_ldcw (C : gC X M) {i : Nat} {v : Int32} (hc : Cond.constant M.1.cls i v ∈ gT) (hd : decode M.2.1 pc = .ok (.ldc_w i, 3)) (k : GW X M (pc + 3) L (.int v :: S) h kc ks) : GW X M pc L S h kc ks := by
  obtain ⟨⟨p, l, e, R, s, m, args, below⟩, ⟨meth, c, D, b, A, s0, Z⟩⟩ := X
  obtain ⟨hx, hb, hml, hown, hts, hN, hK, hA⟩ := C
  intro ws H locs ls S' ⟨hP, hD, hS, hRH, hpre, hL, hSt⟩
  exact lv_ldcw hx hb hown (hts _ hc) hd (k ws H locs ls _ ⟨hP, hD, hS, hRH, hpre, hL, rfl, hSt⟩)
theorem gw_ldc2 (C : gC X M) {i : Nat} {v : Int64} (hc : Cond.constantLong M.1.cls i v ∈ gT) (hd : decode M.2.1 pc = .ok (.ldc2_w i, 3)) (k : GW X M (pc + 3) L (.long v :: S) h kc ks) : GW X M pc L S h kc ks := by
  obtain ⟨⟨p, l, e, R, s, m, args, below⟩, ⟨meth, c, D, b, A, s0, Z⟩⟩ := X
  obtain ⟨hx, hb, hml, hown, hts, hN, hK, hA⟩ := C
  intro ws H locs ls S' ⟨hP, hD, hS, hRH, hpre, hL, hSt⟩
  exact lv_ldc2 hx hb hown (hts _ hc) hd (k ws H locs ls _ ⟨hP, hD, hS, hRH, hpre, hL, rfl, hSt⟩)
theorem gw_iload_n (C : gC X M) {n : Fin 4} {i : Nat} {x : Int32} (j : Nat) (hj : L[j]? = some (i, .int x)) (hd : decode M.2.1 pc = .ok (.iload_n n, 1)) (hi : (n : Nat) = i) (k : GW X M (pc + 1) L (.int x :: S) h kc ks) : GW X M pc L S h kc ks := by
  obtain ⟨⟨p, l, e, R, s, m, args, below⟩, ⟨meth, c, D, b, A, s0, Z⟩⟩ := X
  obtain ⟨hx, hb, hml, hown, hts, hN, hK, hA⟩ := C
  intro ws H locs ls S' ⟨hP, hD, hS, hRH, hpre, hL, hSt⟩
  obtain ⟨L', hl, hLP⟩ := hL
  obtain ⟨v', h1, h2⟩ := gRP_get hLP hj
  cases h2
  exact lv_iload_n hx hb hd hi (lv_at hl j h1) (k ws H locs ls _ ⟨hP, hD, hS, hRH, hpre, ⟨L', hl, hLP⟩, rfl, hSt⟩)
theorem gw_iload (C : gC X M) {i : Nat} {x : Int32} (j : Nat) (hj : L[j]? = some (i, .int x)) (hd : decode M.2.1 pc = .ok (.iload i, 2)) (k : GW X M (pc + 2) L (.int x :: S) h kc ks) : GW X M pc L S h kc ks := by
  obtain ⟨⟨p, l, e, R, s, m, args, below⟩, ⟨meth, c, D, b, A, s0, Z⟩⟩ := X
  obtain ⟨hx, hb, hml, hown, hts, hN, hK, hA⟩ := C
  intro ws H locs ls S' ⟨hP, hD, hS, hRH, hpre, hL, hSt⟩
  obtain ⟨L', hl, hLP⟩ := hL
  obtain ⟨v', h1, h2⟩ := gRP_get hLP hj
  cases h2
  exact lv_iload hx hb hd (lv_at hl j h1) (k ws H locs ls _ ⟨hP, hD, hS, hRH, hpre, ⟨L', hl, hLP⟩, rfl, hSt⟩)
theorem gw_lload_n (C : gC X M) {n : Fin 4} {i : Nat} {x : Int64} (j : Nat) (hj : L[j]? = some (i, .long x)) (hd : decode M.2.1 pc = .ok (.lload_n n, 1)) (hi : (n : Nat) = i) (k : GW X M (pc + 1) L (.long x :: S) h kc ks) : GW X M pc L S h kc ks := by
  obtain ⟨⟨p, l, e, R, s, m, args, below⟩, ⟨meth, c, D, b, A, s0, Z⟩⟩ := X
  obtain ⟨hx, hb, hml, hown, hts, hN, hK, hA⟩ := C
  intro ws H locs ls S' ⟨hP, hD, hS, hRH, hpre, hL, hSt⟩
  obtain ⟨L', hl, hLP⟩ := hL
  obtain ⟨v', h1, h2⟩ := gRP_get hLP hj
  cases h2
  exact lv_lload_n hx hb hd hi (lv_at hl j h1) (k ws H locs ls _ ⟨hP, hD, hS, hRH, hpre, ⟨L', hl, hLP⟩, rfl, hSt⟩)
theorem gw_lload (C : gC X M) {i : Nat} {x : Int64} (j : Nat) (hj : L[j]? = some (i, .long x)) (hd : decode M.2.1 pc = .ok (.lload i, 2)) (k : GW X M (pc + 2) L (.long x :: S) h kc ks) : GW X M pc L S h kc ks := by
  obtain ⟨⟨p, l, e, R, s, m, args, below⟩, ⟨meth, c, D, b, A, s0, Z⟩⟩ := X
  obtain ⟨hx, hb, hml, hown, hts, hN, hK, hA⟩ := C
  intro ws H locs ls S' ⟨hP, hD, hS, hRH, hpre, hL, hSt⟩
  obtain ⟨L', hl, hLP⟩ := hL
  obtain ⟨v', h1, h2⟩ := gRP_get hLP hj
  cases h2
  exact lv_lload hx hb hd (lv_at hl j h1) (k ws H locs ls _ ⟨hP, hD, hS, hRH, hpre, ⟨L', hl, hLP⟩, rfl, hSt⟩)
theorem gw_aload_n (C : gC X M) {n : Fin 4} {i : Nat} {x : Nat} (j : Nat) (hj : L[j]? = some (i, .ref x)) (hd : decode M.2.1 pc = .ok (.aload_n n, 1)) (hi : (n : Nat) = i) (k : GW X M (pc + 1) L (.ref x :: S) h kc ks) : GW X M pc L S h kc ks := by
  obtain ⟨⟨p, l, e, R, s, m, args, below⟩, ⟨meth, c, D, b, A, s0, Z⟩⟩ := X
  obtain ⟨hx, hb, hml, hown, hts, hN, hK, hA⟩ := C
  intro ws H locs ls S' ⟨hP, hD, hS, hRH, hpre, hL, hSt⟩
  obtain ⟨L', hl, hLP⟩ := hL
  obtain ⟨v', h1, ⟨a, h2, h3⟩⟩ := gRP_get hLP hj
  subst h3
  exact lv_aload_n hx hb hd hi (lv_at hl j h1) (k ws H locs ls _ ⟨hP, hD, hS, hRH, hpre, ⟨L', hl, hLP⟩, ⟨a, h2, rfl⟩, hSt⟩)
theorem gw_aload_nN (C : gC X M) {n : Fin 4} {i : Nat} (j : Nat) (hj : L[j]? = some (i, .null)) (hd : decode M.2.1 pc = .ok (.aload_n n, 1)) (hi : (n : Nat) = i) (k : GW X M (pc + 1) L (.null :: S) h kc ks) : GW X M pc L S h kc ks := by
  obtain ⟨⟨p, l, e, R, s, m, args, below⟩, ⟨meth, c, D, b, A, s0, Z⟩⟩ := X
  obtain ⟨hx, hb, hml, hown, hts, hN, hK, hA⟩ := C
  intro ws H locs ls S' ⟨hP, hD, hS, hRH, hpre, hL, hSt⟩
  obtain ⟨L', hl, hLP⟩ := hL
  obtain ⟨v', h1, h2⟩ := gRP_get hLP hj
  cases h2
  exact lv_aload_nN hx hb hd hi (lv_at hl j h1) (k ws H locs ls _ ⟨hP, hD, hS, hRH, hpre, ⟨L', hl, hLP⟩, rfl, hSt⟩)
theorem gw_aload (C : gC X M) {i : Nat} {x : Nat} (j : Nat) (hj : L[j]? = some (i, .ref x)) (hd : decode M.2.1 pc = .ok (.aload i, 2)) (k : GW X M (pc + 2) L (.ref x :: S) h kc ks) : GW X M pc L S h kc ks := by
  obtain ⟨⟨p, l, e, R, s, m, args, below⟩, ⟨meth, c, D, b, A, s0, Z⟩⟩ := X
  obtain ⟨hx, hb, hml, hown, hts, hN, hK, hA⟩ := C
  intro ws H locs ls S' ⟨hP, hD, hS, hRH, hpre, hL, hSt⟩
  obtain ⟨L', hl, hLP⟩ := hL
  obtain ⟨v', h1, ⟨a, h2, h3⟩⟩ := gRP_get hLP hj
  subst h3
  exact lv_aload hx hb hd (lv_at hl j h1) (k ws H locs ls _ ⟨hP, hD, hS, hRH, hpre, ⟨L', hl, hLP⟩, ⟨a, h2, rfl⟩, hSt⟩)
theorem gw_aloadN (C : gC X M) {i : Nat} (j : Nat) (hj : L[j]? = some (i, .null)) (hd : decode M.2.1 pc = .ok (.aload i, 2)) (k : GW X M (pc + 2) L (.null :: S) h kc ks) : GW X M pc L S h kc ks := by
  obtain ⟨⟨p, l, e, R, s, m, args, below⟩, ⟨meth, c, D, b, A, s0, Z⟩⟩ := X
  obtain ⟨hx, hb, hml, hown, hts, hN, hK, hA⟩ := C
  intro ws H locs ls S' ⟨hP, hD, hS, hRH, hpre, hL, hSt⟩
  obtain ⟨L', hl, hLP⟩ := hL
  obtain ⟨v', h1, h2⟩ := gRP_get hLP hj
  cases h2
  exact lv_aloadN hx hb hd (lv_at hl j h1) (k ws H locs ls _ ⟨hP, hD, hS, hRH, hpre, ⟨L', hl, hLP⟩, rfl, hSt⟩)
theorem gf1 {sg : List Nat} {i : Nat} {L L' : List (Nat × Value)} (hl : gRP sg L L') : gRP sg (L.filter (fun q => !(q.1 == i) && !(q.1 + 1 == i && q.2.category == 2))) (L'.filter (fun q => !(q.1 == i) && !(q.1 + 1 == i && q.2.category == 2))) := gRP_filter (fun q q' e1 e2 => by simp only [e1, e2]) hl
theorem gf2 {sg : List Nat} {i : Nat} {L L' : List (Nat × Value)} (hl : gRP sg L L') : gRP sg (L.filter (fun q => !(q.1 == i) && (!(q.1 == i + 1) && !(q.1 + 1 == i && q.2.category == 2)))) (L'.filter (fun q => !(q.1 == i) && (!(q.1 == i + 1) && !(q.1 + 1 == i && q.2.category == 2)))) := gRP_filter (fun q q' e1 e2 => by simp only [e1, e2]) hl
theorem gw_istore_n (C : gC X M) {n : Fin 4} {i : Nat} {x : Int32} {L2 : List (Nat × Value)} (hd : decode M.2.1 pc = .ok (.istore_n n, 1)) (hi : (n : Nat) = i) (hn : i < M.2.2.1) (hL2 : (i, Value.int x) :: L.filter (fun q => !(q.1 == i) && !(q.1 + 1 == i && q.2.category == 2)) = L2) (k : GW X M (pc + 1) L2 S h kc ks) : GW X M pc L (.int x :: S) h kc ks := by
  obtain ⟨⟨p, l, e, R, s, m, args, below⟩, ⟨meth, c, D, b, A, s0, Z⟩⟩ := X
  obtain ⟨hx, hb, hml, hown, hts, hN, hK, hA⟩ := C
  intro ws H locs ls S' ⟨hP, hD, hS, hRH, hpre, hL, hSt⟩
  obtain ⟨S1', rfl, hSt1⟩ := gRS_int hSt
  obtain ⟨L', hl, hLP⟩ := hL
  subst hL2
  exact lv_istore_n hx hb hd hi hl hn rfl (fun ls hl => k ws H locs ls _ ⟨hP, hD, hS, hRH, hpre, ⟨_, hl, ⟨⟨rfl, rfl⟩, gf1 hLP⟩⟩, hSt1⟩)
theorem gw_istore (C : gC X M) {i : Nat} {x : Int32} {L2 : List (Nat × Value)} (hd : decode M.2.1 pc = .ok (.istore i, 2)) (hn : i < M.2.2.1) (hL2 : (i, Value.int x) :: L.filter (fun q => !(q.1 == i) && !(q.1 + 1 == i && q.2.category == 2)) = L2) (k : GW X M (pc + 2) L2 S h kc ks) : GW X M pc L (.int x :: S) h kc ks := by
  obtain ⟨⟨p, l, e, R, s, m, args, below⟩, ⟨meth, c, D, b, A, s0, Z⟩⟩ := X
  obtain ⟨hx, hb, hml, hown, hts, hN, hK, hA⟩ := C
  intro ws H locs ls S' ⟨hP, hD, hS, hRH, hpre, hL, hSt⟩
  obtain ⟨S1', rfl, hSt1⟩ := gRS_int hSt
  obtain ⟨L', hl, hLP⟩ := hL
  subst hL2
  exact lv_istore hx hb hd hl hn rfl (fun ls hl => k ws H locs ls _ ⟨hP, hD, hS, hRH, hpre, ⟨_, hl, ⟨⟨rfl, rfl⟩, gf1 hLP⟩⟩, hSt1⟩)
theorem gw_lstore_n (C : gC X M) {n : Fin 4} {i : Nat} {x : Int64} {L2 : List (Nat × Value)} (hd : decode M.2.1 pc = .ok (.lstore_n n, 1)) (hi : (n : Nat) = i) (hn : i + 1 < M.2.2.1) (hL2 : (i, Value.long x) :: L.filter (fun q => !(q.1 == i) && (!(q.1 == i + 1) && !(q.1 + 1 == i && q.2.category == 2))) = L2) (k : GW X M (pc + 1) L2 S h kc ks) : GW X M pc L (.long x :: S) h kc ks := by
  obtain ⟨⟨p, l, e, R, s, m, args, below⟩, ⟨meth, c, D, b, A, s0, Z⟩⟩ := X
  obtain ⟨hx, hb, hml, hown, hts, hN, hK, hA⟩ := C
  intro ws H locs ls S' ⟨hP, hD, hS, hRH, hpre, hL, hSt⟩
  obtain ⟨S1', rfl, hSt1⟩ := gRS_long hSt
  obtain ⟨L', hl, hLP⟩ := hL
  subst hL2
  exact lv_lstore_n hx hb hd hi hl hn rfl (fun ls hl => k ws H locs ls _ ⟨hP, hD, hS, hRH, hpre, ⟨_, hl, ⟨⟨rfl, rfl⟩, gf2 hLP⟩⟩, hSt1⟩)
theorem gw_lstore (C : gC X M) {i : Nat} {x : Int64} {L2 : List (Nat × Value)} (hd : decode M.2.1 pc = .ok (.lstore i, 2)) (hn : i + 1 < M.2.2.1) (hL2 : (i, Value.long x) :: L.filter (fun q => !(q.1 == i) && (!(q.1 == i + 1) && !(q.1 + 1 == i && q.2.category == 2))) = L2) (k : GW X M (pc + 2) L2 S h kc ks) : GW X M pc L (.long x :: S) h kc ks := by
  obtain ⟨⟨p, l, e, R, s, m, args, below⟩, ⟨meth, c, D, b, A, s0, Z⟩⟩ := X
  obtain ⟨hx, hb, hml, hown, hts, hN, hK, hA⟩ := C
  intro ws H locs ls S' ⟨hP, hD, hS, hRH, hpre, hL, hSt⟩
  obtain ⟨S1', rfl, hSt1⟩ := gRS_long hSt
  obtain ⟨L', hl, hLP⟩ := hL
  subst hL2
  exact lv_lstore hx hb hd hl hn rfl (fun ls hl => k ws H locs ls _ ⟨hP, hD, hS, hRH, hpre, ⟨_, hl, ⟨⟨rfl, rfl⟩, gf2 hLP⟩⟩, hSt1⟩)
theorem gw_astore_n (C : gC X M) {n : Fin 4} {i : Nat} {x : Nat} {L2 : List (Nat × Value)} (hd : decode M.2.1 pc = .ok (.astore_n n, 1)) (hi : (n : Nat) = i) (hn : i < M.2.2.1) (hL2 : (i, Value.ref x) :: L.filter (fun q => !(q.1 == i) && !(q.1 + 1 == i && q.2.category == 2)) = L2) (k : GW X M (pc + 1) L2 S h kc ks) : GW X M pc L (.ref x :: S) h kc ks := by
  obtain ⟨⟨p, l, e, R, s, m, args, below⟩, ⟨meth, c, D, b, A, s0, Z⟩⟩ := X
  obtain ⟨hx, hb, hml, hown, hts, hN, hK, hA⟩ := C
  intro ws H locs ls S' ⟨hP, hD, hS, hRH, hpre, hL, hSt⟩
  obtain ⟨a, S1', ha, rfl, hSt1⟩ := gRS_ref hSt
  obtain ⟨L', hl, hLP⟩ := hL
  subst hL2
  exact lv_astore_n hx hb hd hi hl hn rfl (fun ls hl => k ws H locs ls _ ⟨hP, hD, hS, hRH, hpre, ⟨_, hl, ⟨⟨rfl, ⟨a, ha, rfl⟩⟩, gf1 hLP⟩⟩, hSt1⟩)
theorem gw_astore (C : gC X M) {i : Nat} {x : Nat} {L2 : List (Nat × Value)} (hd : decode M.2.1 pc = .ok (.astore i, 2)) (hn : i < M.2.2.1) (hL2 : (i, Value.ref x) :: L.filter (fun q => !(q.1 == i) && !(q.1 + 1 == i && q.2.category == 2)) = L2) (k : GW X M (pc + 2) L2 S h kc ks) : GW X M pc L (.ref x :: S) h kc ks := by
  obtain ⟨⟨p, l, e, R, s, m, args, below⟩, ⟨meth, c, D, b, A, s0, Z⟩⟩ := X
  obtain ⟨hx, hb, hml, hown, hts, hN, hK, hA⟩ := C
  intro ws H locs ls S' ⟨hP, hD, hS, hRH, hpre, hL, hSt⟩
  obtain ⟨a, S1', ha, rfl, hSt1⟩ := gRS_ref hSt
  obtain ⟨L', hl, hLP⟩ := hL
  subst hL2
  exact lv_astore hx hb hd hl hn rfl (fun ls hl => k ws H locs ls _ ⟨hP, hD, hS, hRH, hpre, ⟨_, hl, ⟨⟨rfl, ⟨a, ha, rfl⟩⟩, gf1 hLP⟩⟩, hSt1⟩)
theorem gw_astore_nN (C : gC X M) {n : Fin 4} {i : Nat} {L2 : List (Nat × Value)} (hd : decode M.2.1 pc = .ok (.astore_n n, 1)) (hi : (n : Nat) = i) (hn : i < M.2.2.1) (hL2 : (i, Value.null) :: L.filter (fun q => !(q.1 == i) && !(q.1 + 1 == i && q.2.category == 2)) = L2) (k : GW X M (pc + 1) L2 S h kc ks) : GW X M pc L (.null :: S) h kc ks := by
  obtain ⟨⟨p, l, e, R, s, m, args, below⟩, ⟨meth, c, D, b, A, s0, Z⟩⟩ := X
  obtain ⟨hx, hb, hml, hown, hts, hN, hK, hA⟩ := C
  intro ws H locs ls S' ⟨hP, hD, hS, hRH, hpre, hL, hSt⟩
  obtain ⟨S1', rfl, hSt1⟩ := gRS_null hSt
  obtain ⟨L', hl, hLP⟩ := hL
  subst hL2
  exact lv_astore_nN hx hb hd hi hl hn rfl (fun ls hl => k ws H locs ls _ ⟨hP, hD, hS, hRH, hpre, ⟨_, hl, ⟨⟨rfl, rfl⟩, gf1 hLP⟩⟩, hSt1⟩)
theorem gw_astoreN (C : gC X M) {i : Nat} {L2 : List (Nat × Value)} (hd : decode M.2.1 pc = .ok (.astore i, 2)) (hn : i < M.2.2.1) (hL2 : (i, Value.null) :: L.filter (fun q => !(q.1 == i) && !(q.1 + 1 == i && q.2.category == 2)) = L2) (k : GW X M (pc + 2) L2 S h kc ks) : GW X M pc L (.null :: S) h kc ks := by
  obtain ⟨⟨p, l, e, R, s, m, args, below⟩, ⟨meth, c, D, b, A, s0, Z⟩⟩ := X
  obtain ⟨hx, hb, hml, hown, hts, hN, hK, hA⟩ := C
  intro ws H locs ls S' ⟨hP, hD, hS, hRH, hpre, hL, hSt⟩
  obtain ⟨S1', rfl, hSt1⟩ := gRS_null hSt
  obtain ⟨L', hl, hLP⟩ := hL
  subst hL2
  exact lv_astoreN hx hb hd hl hn rfl (fun ls hl => k ws H locs ls _ ⟨hP, hD, hS, hRH, hpre, ⟨_, hl, ⟨⟨rfl, rfl⟩, gf1 hLP⟩⟩, hSt1⟩)
theorem gw_iinc (C : gC X M) {i : Nat} {n : Int} {x v : Int32} {L2 : List (Nat × Value)} (j : Nat) (hj : L[j]? = some (i, .int x)) (hd : decode M.2.1 pc = .ok (.iinc i n, 3)) (hv : x + Int32.ofInt n = v) (hn : i < M.2.2.1) (hL2 : (i, Value.int v) :: L.filter (fun q => !(q.1 == i) && !(q.1 + 1 == i && q.2.category == 2)) = L2) (k : GW X M (pc + 3) L2 S h kc ks) : GW X M pc L S h kc ks := by
  obtain ⟨⟨p, l, e, R, s, m, args, below⟩, ⟨meth, c, D, b, A, s0, Z⟩⟩ := X
  obtain ⟨hx, hb, hml, hown, hts, hN, hK, hA⟩ := C
  intro ws H locs ls S' ⟨hP, hD, hS, hRH, hpre, hL, hSt⟩
  obtain ⟨L', hl, hLP⟩ := hL
  obtain ⟨v', h1, h2⟩ := gRP_get hLP hj
  cases h2
  subst hL2
  exact lv_iinc hx hb hd hl h1 hv hn rfl (fun ls hl => k ws H locs ls _ ⟨hP, hD, hS, hRH, hpre, ⟨_, hl, ⟨⟨rfl, rfl⟩, gf1 hLP⟩⟩, hSt⟩)
theorem gw_sub {L2 : List (Nat × Value)} (is : List Nat) (hL2 : lv_pick L is = L2) (k : GW X M pc L2 S h kc ks) : GW X M pc L S h kc ks := by
  obtain ⟨⟨p, l, e, R, s, m, args, below⟩, ⟨meth, c, D, b, A, s0, Z⟩⟩ := X
  intro ws H locs ls S' ⟨hP, hD, hS, hRH, hpre, ⟨L', hl, hLP⟩, hSt⟩
  subst hL2
  exact k ws H locs ls _ ⟨hP, hD, hS, hRH, hpre, ⟨_, lv_sub hl is rfl, gRP_pick hLP is⟩, hSt⟩
theorem gw_if_eq (C : gC X M) {x : Int32} {off : Int} {tgt : Nat} (hd : decode M.2.1 pc = .ok (.ifCond .eq off, 3)) (ht : (pc : Int) + off = (tgt : Int)) (kt : x = 0 → GW X M tgt L S h kc ks) (kf : ¬ (x = 0) → GW X M (pc + 3) L S h kc ks) : GW X M pc L (.int x :: S) h kc ks := by
  obtain ⟨⟨p, l, e, R, s, m, args, below⟩, ⟨meth, c, D, b, A, s0, Z⟩⟩ := X
  obtain ⟨hx, hb, hml, hown, hts, hN, hK, hA⟩ := C
  intro ws H locs ls S' ⟨hP, hD, hS, hRH, hpre, hL, hSt⟩
  obtain ⟨S1', rfl, hSt1⟩ := gRS_int hSt
  exact lv_if_eq hx hb hd ht (fun q => kt q ws H locs ls _ ⟨hP, hD, hS, hRH, hpre, hL, hSt1⟩) (fun q => kf q ws H locs ls _ ⟨hP, hD, hS, hRH, hpre, hL, hSt1⟩)
theorem gw_icmp_eq (C : gC X M) {x y : Int32} {off : Int} {tgt : Nat} (hd : decode M.2.1 pc = .ok (.if_icmp .eq off, 3)) (ht : (pc : Int) + off = (tgt : Int)) (kt : x = y → GW X M tgt L S h kc ks) (kf : ¬ (x = y) → GW X M (pc + 3) L S h kc ks) : GW X M pc L (.int y :: .int x :: S) h kc ks := by
  obtain ⟨⟨p, l, e, R, s, m, args, below⟩, ⟨meth, c, D, b, A, s0, Z⟩⟩ := X
  obtain ⟨hx, hb, hml, hown, hts, hN, hK, hA⟩ := C
  intro ws H locs ls S' ⟨hP, hD, hS, hRH, hpre, hL, hSt⟩
  obtain ⟨S1', rfl, hSt1⟩ := gRS_int hSt
  obtain ⟨S2', rfl, hSt2⟩ := gRS_int hSt1
  exact lv_icmp_eq hx hb hd ht (fun q => kt q ws H locs ls _ ⟨hP, hD, hS, hRH, hpre, hL, hSt2⟩) (fun q => kf q ws H locs ls _ ⟨hP, hD, hS, hRH, hpre, hL, hSt2⟩)
theorem gw_if_ne (C : gC X M) {x : Int32} {off : Int} {tgt : Nat} (hd : decode M.2.1 pc = .ok (.ifCond .ne off, 3)) (ht : (pc : Int) + off = (tgt : Int)) (kt : ¬ x = 0 → GW X M tgt L S h kc ks) (kf : x = 0 → GW X M (pc + 3) L S h kc ks) : GW X M pc L (.int x :: S) h kc ks := by
  obtain ⟨⟨p, l, e, R, s, m, args, below⟩, ⟨meth, c, D, b, A, s0, Z⟩⟩ := X
  obtain ⟨hx, hb, hml, hown, hts, hN, hK, hA⟩ := C
  intro ws H locs ls S' ⟨hP, hD, hS, hRH, hpre, hL, hSt⟩
  obtain ⟨S1', rfl, hSt1⟩ := gRS_int hSt
  exact lv_if_ne hx hb hd ht (fun q => kt q ws H locs ls _ ⟨hP, hD, hS, hRH, hpre, hL, hSt1⟩) (fun q => kf q ws H locs ls _ ⟨hP, hD, hS, hRH, hpre, hL, hSt1⟩)
theorem gw_icmp_ne (C : gC X M) {x y : Int32} {off : Int} {tgt : Nat} (hd : decode M.2.1 pc = .ok (.if_icmp .ne off, 3)) (ht : (pc : Int) + off = (tgt : Int)) (kt : ¬ x = y → GW X M tgt L S h kc ks) (kf : x = y → GW X M (pc + 3) L S h kc ks) : GW X M pc L (.int y :: .int x :: S) h kc ks := by
  obtain ⟨⟨p, l, e, R, s, m, args, below⟩, ⟨meth, c, D, b, A, s0, Z⟩⟩ := X
  obtain ⟨hx, hb, hml, hown, hts, hN, hK, hA⟩ := C
  intro ws H locs ls S' ⟨hP, hD, hS, hRH, hpre, hL, hSt⟩
  obtain ⟨S1', rfl, hSt1⟩ := gRS_int hSt
  obtain ⟨S2', rfl, hSt2⟩ := gRS_int hSt1
  exact lv_icmp_ne hx hb hd ht (fun q => kt q ws H locs ls _ ⟨hP, hD, hS, hRH, hpre, hL, hSt2⟩) (fun q => kf q ws H locs ls _ ⟨hP, hD, hS, hRH, hpre, hL, hSt2⟩)
theorem gw_if_lt (C : gC X M) {x : Int32} {off : Int} {tgt : Nat} (hd : decode M.2.1 pc = .ok (.ifCond .lt off, 3)) (ht : (pc : Int) + off = (tgt : Int)) (kt : x < 0 → GW X M tgt L S h kc ks) (kf : ¬ (x < 0) → GW X M (pc + 3) L S h kc ks) : GW X M pc L (.int x :: S) h kc ks := by
  obtain ⟨⟨p, l, e, R, s, m, args, below⟩, ⟨meth, c, D, b, A, s0, Z⟩⟩ := X
  obtain ⟨hx, hb, hml, hown, hts, hN, hK, hA⟩ := C
  intro ws H locs ls S' ⟨hP, hD, hS, hRH, hpre, hL, hSt⟩
  obtain ⟨S1', rfl, hSt1⟩ := gRS_int hSt
  exact lv_if_lt hx hb hd ht (fun q => kt q ws H locs ls _ ⟨hP, hD, hS, hRH, hpre, hL, hSt1⟩) (fun q => kf q ws H locs ls _ ⟨hP, hD, hS, hRH, hpre, hL, hSt1⟩)
theorem gw_icmp_lt (C : gC X M) {x y : Int32} {off : Int} {tgt : Nat} (hd : decode M.2.1 pc = .ok (.if_icmp .lt off, 3)) (ht : (pc : Int) + off = (tgt : Int)) (kt : x < y → GW X M tgt L S h kc ks) (kf : ¬ (x < y) → GW X M (pc + 3) L S h kc ks) : GW X M pc L (.int y :: .int x :: S) h kc ks := by
  obtain ⟨⟨p, l, e, R, s, m, args, below⟩, ⟨meth, c, D, b, A, s0, Z⟩⟩ := X
  obtain ⟨hx, hb, hml, hown, hts, hN, hK, hA⟩ := C
  intro ws H locs ls S' ⟨hP, hD, hS, hRH, hpre, hL, hSt⟩
  obtain ⟨S1', rfl, hSt1⟩ := gRS_int hSt
  obtain ⟨S2', rfl, hSt2⟩ := gRS_int hSt1
  exact lv_icmp_lt hx hb hd ht (fun q => kt q ws H locs ls _ ⟨hP, hD, hS, hRH, hpre, hL, hSt2⟩) (fun q => kf q ws H locs ls _ ⟨hP, hD, hS, hRH, hpre, hL, hSt2⟩)
theorem gw_if_ge (C : gC X M) {x : Int32} {off : Int} {tgt : Nat} (hd : decode M.2.1 pc = .ok (.ifCond .ge off, 3)) (ht : (pc : Int) + off = (tgt : Int)) (kt : 0 ≤ x → GW X M tgt L S h kc ks) (kf : ¬ (0 ≤ x) → GW X M (pc + 3) L S h kc ks) : GW X M pc L (.int x :: S) h kc ks := by
  obtain ⟨⟨p, l, e, R, s, m, args, below⟩, ⟨meth, c, D, b, A, s0, Z⟩⟩ := X
  obtain ⟨hx, hb, hml, hown, hts, hN, hK, hA⟩ := C
  intro ws H locs ls S' ⟨hP, hD, hS, hRH, hpre, hL, hSt⟩
  obtain ⟨S1', rfl, hSt1⟩ := gRS_int hSt
  exact lv_if_ge hx hb hd ht (fun q => kt q ws H locs ls _ ⟨hP, hD, hS, hRH, hpre, hL, hSt1⟩) (fun q => kf q ws H locs ls _ ⟨hP, hD, hS, hRH, hpre, hL, hSt1⟩)
theorem gw_icmp_ge (C : gC X M) {x y : Int32} {off : Int} {tgt : Nat} (hd : decode M.2.1 pc = .ok (.if_icmp .ge off, 3)) (ht : (pc : Int) + off = (tgt : Int)) (kt : y ≤ x → GW X M tgt L S h kc ks) (kf : ¬ (y ≤ x) → GW X M (pc + 3) L S h kc ks) : GW X M pc L (.int y :: .int x :: S) h kc ks := by
  obtain ⟨⟨p, l, e, R, s, m, args, below⟩, ⟨meth, c, D, b, A, s0, Z⟩⟩ := X
  obtain ⟨hx, hb, hml, hown, hts, hN, hK, hA⟩ := C
  intro ws H locs ls S' ⟨hP, hD, hS, hRH, hpre, hL, hSt⟩
  obtain ⟨S1', rfl, hSt1⟩ := gRS_int hSt
  obtain ⟨S2', rfl, hSt2⟩ := gRS_int hSt1
  exact lv_icmp_ge hx hb hd ht (fun q => kt q ws H locs ls _ ⟨hP, hD, hS, hRH, hpre, hL, hSt2⟩) (fun q => kf q ws H locs ls _ ⟨hP, hD, hS, hRH, hpre, hL, hSt2⟩)
theorem gw_if_gt (C : gC X M) {x : Int32} {off : Int} {tgt : Nat} (hd : decode M.2.1 pc = .ok (.ifCond .gt off, 3)) (ht : (pc : Int) + off = (tgt : Int)) (kt : 0 < x → GW X M tgt L S h kc ks) (kf : ¬ (0 < x) → GW X M (pc + 3) L S h kc ks) : GW X M pc L (.int x :: S) h kc ks := by
  obtain ⟨⟨p, l, e, R, s, m, args, below⟩, ⟨meth, c, D, b, A, s0, Z⟩⟩ := X
  obtain ⟨hx, hb, hml, hown, hts, hN, hK, hA⟩ := C
  intro ws H locs ls S' ⟨hP, hD, hS, hRH, hpre, hL, hSt⟩
  obtain ⟨S1', rfl, hSt1⟩ := gRS_int hSt
  exact lv_if_gt hx hb hd ht (fun q => kt q ws H locs ls _ ⟨hP, hD, hS, hRH, hpre, hL, hSt1⟩) (fun q => kf q ws H locs ls _ ⟨hP, hD, hS, hRH, hpre, hL, hSt1⟩)
theorem gw_icmp_gt (C : gC X M) {x y : Int32} {off : Int} {tgt : Nat} (hd : decode M.2.1 pc = .ok (.if_icmp .gt off, 3)) (ht : (pc : Int) + off = (tgt : Int)) (kt : y < x → GW X M tgt L S h kc ks) (kf : ¬ (y < x) → GW X M (pc + 3) L S h kc ks) : GW X M pc L (.int y :: .int x :: S) h kc ks := by
  obtain ⟨⟨p, l, e, R, s, m, args, below⟩, ⟨meth, c, D, b, A, s0, Z⟩⟩ := X
  obtain ⟨hx, hb, hml, hown, hts, hN, hK, hA⟩ := C
  intro ws H locs ls S' ⟨hP, hD, hS, hRH, hpre, hL, hSt⟩
  obtain ⟨S1', rfl, hSt1⟩ := gRS_int hSt
  obtain ⟨S2', rfl, hSt2⟩ := gRS_int hSt1
  exact lv_icmp_gt hx hb hd ht (fun q => kt q ws H locs ls _ ⟨hP, hD, hS, hRH, hpre, hL, hSt2⟩) (fun q => kf q ws H locs ls _ ⟨hP, hD, hS, hRH, hpre, hL, hSt2⟩)
theorem gw_if_le (C : gC X M) {x : Int32} {off : Int} {tgt : Nat} (hd : decode M.2.1 pc = .ok (.ifCond .le off, 3)) (ht : (pc : Int) + off = (tgt : Int)) (kt : x ≤ 0 → GW X M tgt L S h kc ks) (kf : ¬ (x ≤ 0) → GW X M (pc + 3) L S h kc ks) : GW X M pc L (.int x :: S) h kc ks := by
  obtain ⟨⟨p, l, e, R, s, m, args, below⟩, ⟨meth, c, D, b, A, s0, Z⟩⟩ := X
  obtain ⟨hx, hb, hml, hown, hts, hN, hK, hA⟩ := C
  intro ws H locs ls S' ⟨hP, hD, hS, hRH, hpre, hL, hSt⟩
  obtain ⟨S1', rfl, hSt1⟩ := gRS_int hSt
  exact lv_if_le hx hb hd ht (fun q => kt q ws H locs ls _ ⟨hP, hD, hS, hRH, hpre, hL, hSt1⟩) (fun q => kf q ws H locs ls _ ⟨hP, hD, hS, hRH, hpre, hL, hSt1⟩)
theorem gw_icmp_le (C : gC X M) {x y : Int32} {off : Int} {tgt : Nat} (hd : decode M.2.1 pc = .ok (.if_icmp .le off, 3)) (ht : (pc : Int) + off = (tgt : Int)) (kt : x ≤ y → GW X M tgt L S h kc ks) (kf : ¬ (x ≤ y) → GW X M (pc + 3) L S h kc ks) : GW X M pc L (.int y :: .int x :: S) h kc ks := by
  obtain ⟨⟨p, l, e, R, s, m, args, below⟩, ⟨meth, c, D, b, A, s0, Z⟩⟩ := X
  obtain ⟨hx, hb, hml, hown, hts, hN, hK, hA⟩ := C
  intro ws H locs ls S' ⟨hP, hD, hS, hRH, hpre, hL, hSt⟩
  obtain ⟨S1', rfl, hSt1⟩ := gRS_int hSt
  obtain ⟨S2', rfl, hSt2⟩ := gRS_int hSt1
  exact lv_icmp_le hx hb hd ht (fun q => kt q ws H locs ls _ ⟨hP, hD, hS, hRH, hpre, hL, hSt2⟩) (fun q => kf q ws H locs ls _ ⟨hP, hD, hS, hRH, hpre, hL, hSt2⟩)
theorem gw_goto (C : gC X M) {off : Int} {tgt : Nat} (hd : decode M.2.1 pc = .ok (.goto off, 3)) (ht : (pc : Int) + off = (tgt : Int)) (k : GW X M tgt L S h kc ks) : GW X M pc L S h kc ks := by
  obtain ⟨⟨p, l, e, R, s, m, args, below⟩, ⟨meth, c, D, b, A, s0, Z⟩⟩ := X
  obtain ⟨hx, hb, hml, hown, hts, hN, hK, hA⟩ := C
  intro ws H locs ls S' ⟨hP, hD, hS, hRH, hpre, hL, hSt⟩
  exact lv_goto hx hb hd ht (k ws H locs ls _ ⟨hP, hD, hS, hRH, hpre, hL, hSt⟩)
theorem gw_ifnonnull (C : gC X M) {x : Nat} {off : Int} {tgt : Nat} (hd : decode M.2.1 pc = .ok (.ifnonnull off, 3)) (ht : (pc : Int) + off = (tgt : Int)) (k : GW X M tgt L S h kc ks) : GW X M pc L (.ref x :: S) h kc ks := by
  obtain ⟨⟨p, l, e, R, s, m, args, below⟩, ⟨meth, c, D, b, A, s0, Z⟩⟩ := X
  obtain ⟨hx, hb, hml, hown, hts, hN, hK, hA⟩ := C
  intro ws H locs ls S' ⟨hP, hD, hS, hRH, hpre, hL, hSt⟩
  obtain ⟨a, S1', ha, rfl, hSt1⟩ := gRS_ref hSt
  exact lv_ifnonnull hx hb hd ht (k ws H locs ls _ ⟨hP, hD, hS, hRH, hpre, hL, hSt1⟩)
theorem gw_ifnonnullN (C : gC X M) {off : Int} (hd : decode M.2.1 pc = .ok (.ifnonnull off, 3)) (k : GW X M (pc + 3) L S h kc ks) : GW X M pc L (.null :: S) h kc ks := by
  obtain ⟨⟨p, l, e, R, s, m, args, below⟩, ⟨meth, c, D, b, A, s0, Z⟩⟩ := X
  obtain ⟨hx, hb, hml, hown, hts, hN, hK, hA⟩ := C
  intro ws H locs ls S' ⟨hP, hD, hS, hRH, hpre, hL, hSt⟩
  obtain ⟨S1', rfl, hSt1⟩ := gRS_null hSt
  exact lv_ifnonnullN hx hb hd (k ws H locs ls _ ⟨hP, hD, hS, hRH, hpre, hL, hSt1⟩)
theorem gw_ifnull (C : gC X M) {x : Nat} {off : Int} (hd : decode M.2.1 pc = .ok (.ifnull off, 3)) (k : GW X M (pc + 3) L S h kc ks) : GW X M pc L (.ref x :: S) h kc ks := by
  obtain ⟨⟨p, l, e, R, s, m, args, below⟩, ⟨meth, c, D, b, A, s0, Z⟩⟩ := X
  obtain ⟨hx, hb, hml, hown, hts, hN, hK, hA⟩ := C
  intro ws H locs ls S' ⟨hP, hD, hS, hRH, hpre, hL, hSt⟩
  obtain ⟨a, S1', ha, rfl, hSt1⟩ := gRS_ref hSt
  exact lv_ifnull hx hb hd (k ws H locs ls _ ⟨hP, hD, hS, hRH, hpre, hL, hSt1⟩)
theorem gw_ifnullN (C : gC X M) {off : Int} {tgt : Nat} (hd : decode M.2.1 pc = .ok (.ifnull off, 3)) (ht : (pc : Int) + off = (tgt : Int)) (k : GW X M tgt L S h kc ks) : GW X M pc L (.null :: S) h kc ks := by
  obtain ⟨⟨p, l, e, R, s, m, args, below⟩, ⟨meth, c, D, b, A, s0, Z⟩⟩ := X
  obtain ⟨hx, hb, hml, hown, hts, hN, hK, hA⟩ := C
  intro ws H locs ls S' ⟨hP, hD, hS, hRH, hpre, hL, hSt⟩
  obtain ⟨S1', rfl, hSt1⟩ := gRS_null hSt
  exact lv_ifnullN hx hb hd ht (k ws H locs ls _ ⟨hP, hD, hS, hRH, hpre, hL, hSt1⟩)
theorem gw_tableOut (C : gC X M) {dflt lo hi : Int} {offs : Array Int} {len : Nat} {x : Int32} {tgt : Nat} (hd : decode M.2.1 pc = .ok (.tableswitch dflt lo hi offs, len)) (hq : x.toInt < lo ∨ hi < x.toInt) (ht : (pc : Int) + dflt = (tgt : Int)) (k : GW X M tgt L S h kc ks) : GW X M pc L (.int x :: S) h kc ks := by
  obtain ⟨⟨p, l, e, R, s, m, args, below⟩, ⟨meth, c, D, b, A, s0, Z⟩⟩ := X
  obtain ⟨hx, hb, hml, hown, hts, hN, hK, hA⟩ := C
  intro ws H locs ls S' ⟨hP, hD, hS, hRH, hpre, hL, hSt⟩
  obtain ⟨S1', rfl, hSt1⟩ := gRS_int hSt
  exact lv_tableOut hx hb hd hq ht (k ws H locs ls _ ⟨hP, hD, hS, hRH, hpre, hL, hSt1⟩)
theorem gw_tableIn (C : gC X M) {dflt lo hi : Int} {offs : Array Int} {len : Nat} {x : Int32} {off : Int} {tgt : Nat} (hd : decode M.2.1 pc = .ok (.tableswitch dflt lo hi offs, len)) (h1 : ¬ x.toInt < lo) (h2 : ¬ hi < x.toInt) (ho : offs[(x.toInt - lo).toNat]? = some off) (ht : (pc : Int) + off = (tgt : Int)) (k : GW X M tgt L S h kc ks) : GW X M pc L (.int x :: S) h kc ks := by
  obtain ⟨⟨p, l, e, R, s, m, args, below⟩, ⟨meth, c, D, b, A, s0, Z⟩⟩ := X
  obtain ⟨hx, hb, hml, hown, hts, hN, hK, hA⟩ := C
  intro ws H locs ls S' ⟨hP, hD, hS, hRH, hpre, hL, hSt⟩
  obtain ⟨S1', rfl, hSt1⟩ := gRS_int hSt
  exact lv_tableIn hx hb hd h1 h2 ho ht (k ws H locs ls _ ⟨hP, hD, hS, hRH, hpre, hL, hSt1⟩)
theorem gw_dup (C : gC X M) {v : Value} (hd : decode M.2.1 pc = .ok (.dup, 1)) (hc : v.category = 1) (k : GW X M (pc + 1) L (v :: v :: S) h kc ks) : GW X M pc L (v :: S) h kc ks := by
  obtain ⟨⟨p, l, e, R, s, m, args, below⟩, ⟨meth, c, D, b, A, s0, Z⟩⟩ := X
  obtain ⟨hx, hb, hml, hown, hts, hN, hK, hA⟩ := C
  intro ws H locs ls S' ⟨hP, hD, hS, hRH, hpre, hL, hSt⟩
  obtain ⟨v', S1', rfl, hv, hSt1⟩ := gRS_cons hSt
  exact lv_dup hx hb hd (by rw [gRV_cat hv]; exact hc) (k ws H locs ls _ ⟨hP, hD, hS, hRH, hpre, hL, hv, hv, hSt1⟩)
theorem gw_dup2 (C : gC X M) {v w : Value} (hd : decode M.2.1 pc = .ok (.dup2, 1)) (hc : v.category = 1) (hc2 : w.category = 1) (k : GW X M (pc + 1) L (v :: w :: v :: w :: S) h kc ks) : GW X M pc L (v :: w :: S) h kc ks := by
  obtain ⟨⟨p, l, e, R, s, m, args, below⟩, ⟨meth, c, D, b, A, s0, Z⟩⟩ := X
  obtain ⟨hx, hb, hml, hown, hts, hN, hK, hA⟩ := C
  intro ws H locs ls S' ⟨hP, hD, hS, hRH, hpre, hL, hSt⟩
  obtain ⟨v', S1', rfl, hv, hSt1⟩ := gRS_cons hSt
  obtain ⟨w', S2', rfl, hw, hSt2⟩ := gRS_cons hSt1
  exact lv_dup2_11 hx hb hd (by rw [gRV_cat hv]; exact hc) (by rw [gRV_cat hw]; exact hc2) (k ws H locs ls _ ⟨hP, hD, hS, hRH, hpre, hL, hv, hw, hv, hw, hSt2⟩)
theorem gw_iald (C : gC X M) {q n : Nat} {i : Int32} {f : Nat → Int32} (hq : h[q]? = some (.inl (.int, n, .inl f))) (hin : vp_in i n) (hd : decode M.2.1 pc = .ok (.iaload, 1)) (k : GW X M (pc + 1) L (.int (f i.toNatClampNeg) :: S) h kc ks) : GW X M pc L (.int i :: .ref (q + 1) :: S) h kc ks := by
  obtain ⟨⟨p, l, e, R, s, m, args, below⟩, ⟨meth, c, D, b, A, s0, Z⟩⟩ := X
  obtain ⟨hx, hb, hml, hown, hts, hN, hK, hA⟩ := C
  intro ws H locs ls S' ⟨hP, hD, hS, hRH, hpre, hL, hSt⟩
  obtain ⟨S1', rfl, hSt1⟩ := gRS_int hSt
  obtain ⟨a, S2', ha, rfl, hSt2⟩ := gRS_ref hSt1
  obtain ⟨e', he, cA, a', rfl, hA1, hA2, hra⟩ := gRH_at hRH hq ha
  cases hra
  exact va_iald hx hb (tys := [(cA, .int)]) ⟨hK.1, fun k q hk => by cases k with | zero => cases hk; exact ⟨hA1, hA2⟩ | succ k => simp at hk⟩ hP q 0 he rfl hin hd (k ws H locs ls _ ⟨hP, hD, hS, hRH, hpre, hL, rfl, hSt2⟩)
theorem gw_bald (C : gC X M) {q n : Nat} {i : Int32} {f : Nat → Int32} (hq : h[q]? = some (.inl (.byte, n, .inl f))) (hin : vp_in i n) (hd : decode M.2.1 pc = .ok (.baload, 1)) (k : GW X M (pc + 1) L (.int (f i.toNatClampNeg) :: S) h kc ks) : GW X M pc L (.int i :: .ref (q + 1) :: S) h kc ks := by
  obtain ⟨⟨p, l, e, R, s, m, args, below⟩, ⟨meth, c, D, b, A, s0, Z⟩⟩ := X
  obtain ⟨hx, hb, hml, hown, hts, hN, hK, hA⟩ := C
  intro ws H locs ls S' ⟨hP, hD, hS, hRH, hpre, hL, hSt⟩
  obtain ⟨S1', rfl, hSt1⟩ := gRS_int hSt
  obtain ⟨a, S2', ha, rfl, hSt2⟩ := gRS_ref hSt1
  obtain ⟨e', he, cA, a', rfl, hA1, hA2, hra⟩ := gRH_at hRH hq ha
  cases hra
  exact va_bald hx hb (tys := [(cA, .byte)]) ⟨hK.1, fun k q hk => by cases k with | zero => cases hk; exact ⟨hA1, hA2⟩ | succ k => simp at hk⟩ hP q 0 he rfl hin hd (k ws H locs ls _ ⟨hP, hD, hS, hRH, hpre, hL, rfl, hSt2⟩)
theorem gw_lald (C : gC X M) {q n : Nat} {i : Int32} {f : Nat → Int64} (hq : h[q]? = some (.inl (.long, n, .inr (.inl f)))) (hin : vp_in i n) (hd : decode M.2.1 pc = .ok (.laload, 1)) (k : GW X M (pc + 1) L (.long (f i.toNatClampNeg) :: S) h kc ks) : GW X M pc L (.int i :: .ref (q + 1) :: S) h kc ks := by
  obtain ⟨⟨p, l, e, R, s, m, args, below⟩, ⟨meth, c, D, b, A, s0, Z⟩⟩ := X
  obtain ⟨hx, hb, hml, hown, hts, hN, hK, hA⟩ := C
  intro ws H locs ls S' ⟨hP, hD, hS, hRH, hpre, hL, hSt⟩
  obtain ⟨S1', rfl, hSt1⟩ := gRS_int hSt
  obtain ⟨a, S2', ha, rfl, hSt2⟩ := gRS_ref hSt1
  obtain ⟨e', he, cA, a', rfl, hA1, hA2, hra⟩ := gRH_at hRH hq ha
  cases hra
  exact va_lald hx hb (tys := [(cA, .long)]) ⟨hK.1, fun k q hk => by cases k with | zero => cases hk; exact ⟨hA1, hA2⟩ | succ k => simp at hk⟩ hP q 0 he rfl hin hd (k ws H locs ls _ ⟨hP, hD, hS, hRH, hpre, hL, rfl, hSt2⟩)
theorem gw_iast (C : gC X M) {q n : Nat} {i : Int32} {x : Int32} {f : Nat → Int32} (hq : h[q]? = some (.inl (.int, n, .inl f))) (hin : vp_in i n) (hd : decode M.2.1 pc = .ok (.iastore, 1)) (k : GW X M (pc + 1) L S (h.set q (.inl (.int, n, .inl (upd f i.toNatClampNeg x)))) kc ks) : GW X M pc L (.int x :: .int i :: .ref (q + 1) :: S) h kc ks := by
  obtain ⟨⟨p, l, e, R, s, m, args, below⟩, ⟨meth, c, D, b, A, s0, Z⟩⟩ := X
  obtain ⟨hx, hb, hml, hown, hts, hN, hK, hA⟩ := C
  intro ws H locs ls S' ⟨hP, hD, hS, hRH, hpre, hL, hSt⟩
  obtain ⟨S1', rfl, hSt1⟩ := gRS_int hSt
  obtain ⟨S2', rfl, hSt2⟩ := gRS_int hSt1
  obtain ⟨a, S3', ha, rfl, hSt3⟩ := gRS_ref hSt2
  obtain ⟨e', he, cA, a', rfl, hA1, hA2, hra⟩ := gRH_at hRH hq ha
  cases hra
  refine va_iast hx hb (tys := [(cA, .int)]) ⟨hK.1, fun k q hk => by cases k with | zero => cases hk; exact ⟨hA1, hA2⟩ | succ k => simp at hk⟩ hP hD hS q 0 he rfl hin hd (fun H1 locs1 hP1 hD1 hS1 => ?_)
  refine k _ H1 locs1 ls _ ⟨hP1, hD1, hS1, gRH_set hRH he ⟨cA, _, rfl, hA1, hA2, rfl⟩, ?_, ?_, ?_⟩
  · rw [gmap_set he]; exact hpre
  · rw [gmap_set he]; exact hL
  · rw [gmap_set he]; exact hSt3
theorem gw_bast (C : gC X M) {q n : Nat} {i : Int32} {x : Int32} {f : Nat → Int32} (hq : h[q]? = some (.inl (.byte, n, .inl f))) (hin : vp_in i n) (hd : decode M.2.1 pc = .ok (.bastore, 1)) (k : GW X M (pc + 1) L S (h.set q (.inl (.byte, n, .inl (upd f i.toNatClampNeg (vp_nar .byte x))))) kc ks) : GW X M pc L (.int x :: .int i :: .ref (q + 1) :: S) h kc ks := by
  obtain ⟨⟨p, l, e, R, s, m, args, below⟩, ⟨meth, c, D, b, A, s0, Z⟩⟩ := X
  obtain ⟨hx, hb, hml, hown, hts, hN, hK, hA⟩ := C
  intro ws H locs ls S' ⟨hP, hD, hS, hRH, hpre, hL, hSt⟩
  obtain ⟨S1', rfl, hSt1⟩ := gRS_int hSt
  obtain ⟨S2', rfl, hSt2⟩ := gRS_int hSt1
  obtain ⟨a, S3', ha, rfl, hSt3⟩ := gRS_ref hSt2
  obtain ⟨e', he, cA, a', rfl, hA1, hA2, hra⟩ := gRH_at hRH hq ha
  cases hra
  refine va_bast hx hb (tys := [(cA, .byte)]) ⟨hK.1, fun k q hk => by cases k with | zero => cases hk; exact ⟨hA1, hA2⟩ | succ k => simp at hk⟩ hP hD hS q 0 he rfl hin hd (fun H1 locs1 hP1 hD1 hS1 => ?_)
  refine k _ H1 locs1 ls _ ⟨hP1, hD1, hS1, gRH_set hRH he ⟨cA, _, rfl, hA1, hA2, rfl⟩, ?_, ?_, ?_⟩
  · rw [gmap_set he]; exact hpre
  · rw [gmap_set he]; exact hL
  · rw [gmap_set he]; exact hSt3
theorem gw_last (C : gC X M) {q n : Nat} {i : Int32} {x : Int64} {f : Nat → Int64} (hq : h[q]? = some (.inl (.long, n, .inr (.inl f)))) (hin : vp_in i n) (hd : decode M.2.1 pc = .ok (.lastore, 1)) (k : GW X M (pc + 1) L S (h.set q (.inl (.long, n, .inr (.inl (vp_updL f i.toNatClampNeg x))))) kc ks) : GW X M pc L (.long x :: .int i :: .ref (q + 1) :: S) h kc ks := by
  obtain ⟨⟨p, l, e, R, s, m, args, below⟩, ⟨meth, c, D, b, A, s0, Z⟩⟩ := X
  obtain ⟨hx, hb, hml, hown, hts, hN, hK, hA⟩ := C
  intro ws H locs ls S' ⟨hP, hD, hS, hRH, hpre, hL, hSt⟩
  obtain ⟨S1', rfl, hSt1⟩ := gRS_long hSt
  obtain ⟨S2', rfl, hSt2⟩ := gRS_int hSt1
  obtain ⟨a, S3', ha, rfl, hSt3⟩ := gRS_ref hSt2
  obtain ⟨e', he, cA, a', rfl, hA1, hA2, hra⟩ := gRH_at hRH hq ha
  cases hra
  refine va_last hx hb (tys := [(cA, .long)]) ⟨hK.1, fun k q hk => by cases k with | zero => cases hk; exact ⟨hA1, hA2⟩ | succ k => simp at hk⟩ hP hD hS q 0 he rfl hin hd (fun H1 locs1 hP1 hD1 hS1 => ?_)
  refine k _ H1 locs1 ls _ ⟨hP1, hD1, hS1, gRH_set hRH he ⟨cA, _, rfl, hA1, hA2, rfl⟩, ?_, ?_, ?_⟩
  · rw [gmap_set he]; exact hpre
  · rw [gmap_set he]; exact hL
  · rw [gmap_set he]; exact hSt3
theorem gw_aald (C : gC X M) {q n r : Nat} {Cn : String} {i : Int32} {f : Nat → Option Nat} (hq : h[q]? = some (.inl (.object Cn, n, .inr (.inr (.inr (.inr f)))))) (hin : vp_in i n) (hr : f i.toNatClampNeg = some r) (hd : decode M.2.1 pc = .ok (.aaload, 1)) (k : GW X M (pc + 1) L (.ref r :: S) h kc ks) : GW X M pc L (.int i :: .ref (q + 1) :: S) h kc ks := by
  obtain ⟨⟨p, l, e, R, s, m, args, below⟩, ⟨meth, c, D, b, A, s0, Z⟩⟩ := X
  obtain ⟨hx, hb, hml, hown, hts, hN, hK, hA⟩ := C
  intro ws H locs ls S' ⟨hP, hD, hS, hRH, hpre, hL, hSt⟩
  obtain ⟨S1', rfl, hSt1⟩ := gRS_int hSt
  obtain ⟨a, S2', ha, rfl, hSt2⟩ := gRS_ref hSt1
  obtain ⟨e', he, cA, a', rfl, hA1, hA2, f', rfl, hff⟩ := gRH_at hRH hq ha
  have h1 := hff i.toNatClampNeg
  rw [hr] at h1
  obtain ⟨a1, h2, h3⟩ := h1
  refine va_aldq hx hb (tys := [(cA, .object Cn)]) ⟨hK.1, fun k q hk => by cases k with | zero => cases hk; exact ⟨hA1, hA2⟩ | succ k => simp at hk⟩ hP q 0 he rfl hin hd ?_
  rw [h3]
  exact k ws H locs ls _ ⟨hP, hD, hS, hRH, hpre, hL, ⟨a1, h2, rfl⟩, hSt2⟩
theorem gw_aast (C : gC X M) {q n r ci : Nat} {w : vw_C} {vs : List Value} {i : Int32} {f : Nat → Option Nat} (hq : h[q]? = some (.inl (.object w.1, n, .inr (.inr (.inr (.inr f)))))) (hr : h[r]? = some (.inr (ci, vs))) (hc : gcl[ci]? = some w) (hin : vp_in i n) (hd : decode M.2.1 pc = .ok (.aastore, 1)) (k : GW X M (pc + 1) L S (h.set q (.inl (.object w.1, n, .inr (.inr (.inr (.inr (va_up f i.toNatClampNeg (some (r + 1))))))))) kc ks) : GW X M pc L (.ref (r + 1) :: .int i :: .ref (q + 1) :: S) h kc ks := by
  obtain ⟨⟨p, l, e, R, s, m, args, below⟩, ⟨meth, c, D, b, A, s0, Z⟩⟩ := X
  obtain ⟨hx, hb, hml, hown, hts, hN, hK, hA⟩ := C
  intro ws H locs ls S' ⟨hP, hD, hS, hRH, hpre, hL, hSt⟩
  obtain ⟨av, S1', hav, rfl, hSt1⟩ := gRS_ref hSt
  obtain ⟨S2', rfl, hSt2⟩ := gRS_int hSt1
  obtain ⟨a, S3', ha, rfl, hSt3⟩ := gRS_ref hSt2
  obtain ⟨e', he, cA, a', rfl, hA1, hA2, f', rfl, hff⟩ := gRH_at hRH hq ha
  obtain ⟨e2, he2, fs', rfl, hfs⟩ := gRH_at hRH hr hav
  refine va_astq hx hb (tys := [(cA, .object w.1)]) ⟨hK.1, fun k q hk => by cases k with | zero => cases hk; exact ⟨hA1, hA2⟩ | succ k => simp at hk⟩ hP hD hS q 0 r ci he rfl he2 hc hin hd (fun H1 locs1 hP1 hD1 hS1 => ?_)
  refine k _ H1 locs1 ls _ ⟨hP1, hD1, hS1, gRH_set hRH he ⟨cA, _, rfl, hA1, hA2, _, rfl, fun j => ?_⟩, ?_, ?_, ?_⟩
  · unfold va_up
    split
    · exact ⟨av, hav, rfl⟩
    · exact hff j
  · rw [gmap_set he]; exact hpre
  · rw [gmap_set he]; exact hL
  · rw [gmap_set he]; exact hSt3
theorem gw_alen (C : gC X M) {q : Nat} {ty : FieldType} {x : vp_A} {v : Int32} (hq : h[q]? = some (.inl (ty, x))) (hv : Int32.ofNat x.1 = v) (hd : decode M.2.1 pc = .ok (.arraylength, 1)) (k : GW X M (pc + 1) L (.int v :: S) h kc ks) : GW X M pc L (.ref (q + 1) :: S) h kc ks := by
  obtain ⟨⟨p, l, e, R, s, m, args, below⟩, ⟨meth, c, D, b, A, s0, Z⟩⟩ := X
  obtain ⟨hx, hb, hml, hown, hts, hN, hK, hA⟩ := C
  intro ws H locs ls S' ⟨hP, hD, hS, hRH, hpre, hL, hSt⟩
  obtain ⟨a, S1', ha, rfl, hSt1⟩ := gRS_ref hSt
  obtain ⟨e', he, cA, a', rfl, hA1, hA2, hra⟩ := gRH_at hRH hq ha
  exact va_alen hx hb (tys := [(cA, ty)]) ⟨hK.1, fun k q hk => by cases k with | zero => cases hk; exact ⟨hA1, hA2⟩ | succ k => simp at hk⟩ hP q 0 he rfl hv hd (k ws H locs ls _ ⟨hP, hD, hS, hRH, hpre, hL, rfl, hSt1⟩)
theorem gw_get (C : gC X M) {q ci index N : Nat} {Cn : String} {T : u_T} {fs : List Value} {v : Value} (hq : h[q]? = some (.inr (ci, fs))) (hc : gcl[ci]? = some (Cn, T, N)) (hin : ∀ w ∈ u_ws Cn T N, w ∈ gT) (j : Nat) (hj : j < N) (hl : Cond.fieldLink M.1.cls index (T j).1 (T j).2.1 (T j).2.2.1 ∈ gT) (hv : fs[j]? = some v) (hd : decode M.2.1 pc = .ok (.getfield index, 3)) (k : GW X M (pc + 3) L (v :: S) h kc ks) : GW X M pc L (.ref (q + 1) :: S) h kc ks := by
  obtain ⟨⟨p, l, e, R, s, m, args, below⟩, ⟨meth, c, D, b, A, s0, Z⟩⟩ := X
  obtain ⟨hx, hb, hml, hown, hts, hN, hK, hA⟩ := C
  intro ws H locs ls S' ⟨hP, hD, hS, hRH, hpre, hL, hSt⟩
  obtain ⟨a, S1', ha, rfl, hSt1⟩ := gRS_ref hSt
  obtain ⟨e', he, fs', rfl, hfs⟩ := gRH_at hRH hq ha
  obtain ⟨v', hv1, hv2⟩ := gRS_get hfs hv
  exact va_get hx hb hts hin hown hK hP q he hc j hj (hts _ hl) (fun _ h9 => h9) hv1 hd (k ws H locs ls _ ⟨hP, hD, hS, hRH, hpre, hL, hv2, hSt1⟩)
theorem gw_put (C : gC X M) {q ci index N : Nat} {Cn : String} {T : u_T} {fs : List Value} {v : Value} (hq : h[q]? = some (.inr (ci, fs))) (hc : gcl[ci]? = some (Cn, T, N)) (hin : ∀ w ∈ u_ws Cn T N, w ∈ gT) (ty0 : Nat → FieldType) (hty : ∀ k, k < N → parseFieldDescriptor (T k).2.2.1 = some (ty0 k)) (hne : ∀ a, a < N → ∀ b, b < N → a ≠ b → (T a).2.1 ≠ (T b).2.1) (j : Nat) (hj : j < N) (hl : Cond.fieldLink M.1.cls index (T j).1 (T j).2.1 (T j).2.2.1 ∈ gT) (hfin : (T j).2.2.2 = false) (hn : ∀ sg v', gRV sg v v' → narrow (ty0 j) v' = v') (hfit : ∀ sg v', gRV sg v v' → fits (ty0 j) v' = true) (hlen : j < fs.length) (hd : decode M.2.1 pc = .ok (.putfield index, 3)) (k : GW X M (pc + 3) L S (h.set q (.inr (ci, fs.set j v))) kc ks) : GW X M pc L (v :: .ref (q + 1) :: S) h kc ks := by
  obtain ⟨⟨p, l, e, R, s, m, args, below⟩, ⟨meth, c, D, b, A, s0, Z⟩⟩ := X
  obtain ⟨hx, hb, hml, hown, hts, hN, hK, hA⟩ := C
  intro ws H locs ls S' ⟨hP, hD, hS, hRH, hpre, hL, hSt⟩
  obtain ⟨v', S1', rfl, hv, hSt1⟩ := gRS_cons hSt
  obtain ⟨a, S2', ha, rfl, hSt2⟩ := gRS_ref hSt1
  obtain ⟨e', he, fs', rfl, hfs⟩ := gRH_at hRH hq ha
  refine va_put hx hb hts hin ty0 hty hne hown hK hP hD hS q he hc j hj (hts _ hl) (fun _ h9 => h9) hfin (hty j hj) (hn _ _ hv) (hfit _ _ hv) (by rw [gRS_len hfs]; exact hlen) hd (fun H1 locs1 hP1 hD1 hS1 => ?_)
  refine k _ H1 locs1 ls _ ⟨hP1, hD1, hS1, gRH_set hRH he ⟨_, rfl, gRS_set hv hfs j⟩, ?_, ?_, ?_⟩
  · rw [gmap_set he]; exact hpre
  · rw [gmap_set he]; exact hL
  · rw [gmap_set he]; exact hSt2
theorem gw_putF (C : gC X M) {q ci index N : Nat} {Cn : String} {T : u_T} {fs : List Value} {v : Value} (hq : h[q]? = some (.inr (ci, fs))) (hc : gcl[ci]? = some (Cn, T, N)) (hin : ∀ w ∈ u_ws Cn T N, w ∈ gT) (ty0 : Nat → FieldType) (hty : ∀ k, k < N → parseFieldDescriptor (T k).2.2.1 = some (ty0 k)) (hne : ∀ a, a < N → ∀ b, b < N → a ≠ b → (T a).2.1 ≠ (T b).2.1) (j : Nat) (hj : j < N) (hl : Cond.fieldLink M.1.cls index (T j).1 (T j).2.1 (T j).2.2.1 ∈ gT) (hfin : (T j).2.2.2 = true) (hnm : match X with | ((_, _, _, _, _, _, _, _), (meth, _)) => meth.name = "<init>") (hdecl : (T j).1 = M.1.cls) (hn : ∀ sg v', gRV sg v v' → narrow (ty0 j) v' = v') (hfit : ∀ sg v', gRV sg v v' → fits (ty0 j) v' = true) (hlen : j < fs.length) (hd : decode M.2.1 pc = .ok (.putfield index, 3)) (k : GW X M (pc + 3) L S (h.set q (.inr (ci, fs.set j v))) kc ks) : GW X M pc L (v :: .ref (q + 1) :: S) h kc ks := by
  obtain ⟨⟨p, l, e, R, s, m, args, below⟩, ⟨meth, c, D, b, A, s0, Z⟩⟩ := X
  obtain ⟨hx, hb, hml, hown, hts, hN, hK, hA⟩ := C
  intro ws H locs ls S' ⟨hP, hD, hS, hRH, hpre, hL, hSt⟩
  obtain ⟨v', S1', rfl, hv, hSt1⟩ := gRS_cons hSt
  obtain ⟨a, S2', ha, rfl, hSt2⟩ := gRS_ref hSt1
  obtain ⟨e', he, fs', rfl, hfs⟩ := gRH_at hRH hq ha
  refine va_putF hx hb hts hin ty0 hty hne hown hK hP hD hS q he hc j hj (hts _ hl) (fun _ h9 => h9) hfin hnm hdecl (hty j hj) (hn _ _ hv) (hfit _ _ hv) (by rw [gRS_len hfs]; exact hlen) hd (fun H1 locs1 hP1 hD1 hS1 => ?_)
  refine k _ H1 locs1 ls _ ⟨hP1, hD1, hS1, gRH_set hRH he ⟨_, rfl, gRS_set hv hfs j⟩, ?_, ?_, ?_⟩
  · rw [gmap_set he]; exact hpre
  · rw [gmap_set he]; exact hL
  · rw [gmap_set he]; exact hSt2
end GRULES
end
section
section GCALLS
variable {X : gCx} {M : gMd} {pc : Nat} {L : List (Nat × Value)} {S : List Value} {h : gAH} {kc ks : Nat}
theorem gpre {b : Nat} {s0 s1 : List Nat} (hp : s0 <+: s1) : ∃ t, b :: s1 = (b :: s0) ++ t := by
  obtain ⟨t, rfl⟩ := hp
  exact ⟨t, rfl⟩
/-- a new array -/
theorem gw_newarr (C : gC X M) {atype : ArrayType} {ty : FieldType} {n : Int32} {N : Nat} {a0 : (Nat → Int32) ⊕ (Nat → Int64) ⊕ (Nat → UInt32) ⊕ (Nat → UInt64) ⊕ (Nat → Option Nat)} (hc : Cond.arrayClass (newarray.typeOf atype) ∈ gT) (hty : newarray.typeOf atype = ty) (ha : ∀ cA : ClassId, vp_cell cA (N, a0) = arrV cA N (fun _ => defaultValue ty)) (hra : ∀ sg : List Nat, gRA sg a0 a0) (hn : ¬ n < 0) (hN : n.toNatClampNeg = N) (hby : N * componentBytes ty ≤ 536870912) (hR : match X with | ((_, _, _, R, _, _, _, _), _) => kc + 1 ≤ R.cells ∧ ks + N ≤ R.slots) (hd : decode M.2.1 pc = .ok (.newarray atype, 2)) (k : GW X M (pc + 2) L (.ref (h.length + 1) :: S) (h ++ [.inl (ty, N, a0)]) (kc + 1) (ks + N)) : GW X M pc L (.int n :: S) h kc ks := by
  obtain ⟨⟨p, l, e, R, s, m, args, below⟩, ⟨meth, c, D, b, A, s0, Z⟩⟩ := X
  obtain ⟨hx, hb, hml, hown, hts, hN0, hK, hA⟩ := C
  intro ws H locs ls S' ⟨hP, hD, hS, hRH, hpre, hL, hSt⟩
  obtain ⟨S1, rfl, hSt1⟩ := gRS_int hSt
  refine va_newa hx hb (hts _ hc) hty hK hP hD hS hA (a0 := (N, a0)) ha hn hN hby hR.1 hR.2 hd (fun q cA H1 hK1 hP1 hD1 hS1 => ?_)
  obtain ⟨L', hl, hLP⟩ := hL
  have hq := hK1.2 0 (cA, ty) rfl
  have es : b :: (ws ++ [(q, (Sum.inl (cA, N, a0) : va_E))]).map Prod.fst = (b :: ws.map Prod.fst) ++ [q] := by simp
  refine k _ H1 locs ls _ ⟨hP1, hD1, hS1, gRH_push hRH ⟨cA, a0, rfl, hq.1, hq.2, hra _⟩, ?_, ⟨L', hl, ?_⟩, ⟨q, ?_, rfl⟩, ?_⟩
  · rw [List.map_append]; exact hpre.trans (List.prefix_append _ _)
  · rw [es]; exact gRP_mono hLP
  · rw [es, List.getElem?_append_right (by simp [hRH.1])]; simp [hRH.1]
  · rw [es]; exact gRS_mono hSt1
theorem gw_newref (C : gC X M) {Cn : String} {index : Nat} {n : Int32} {N : Nat} (hc : Cond.classLink M.1.cls index Cn ∈ gT) (hCn : Cn = "SwingDesk$Sheet") (hn : ¬ n < 0) (hN : n.toNatClampNeg = N) (hby : N * 4 ≤ 536870912) (hR : match X with | ((_, _, _, R, _, _, _, _), _) => kc + 1 ≤ R.cells ∧ ks + N ≤ R.slots) (hd : decode M.2.1 pc = .ok (.anewarray index, 3)) (k : GW X M (pc + 3) L (.ref (h.length + 1) :: S) (h ++ [.inl (.object Cn, N, .inr (.inr (.inr (.inr (fun _ => none)))))]) (kc + 1) (ks + N)) : GW X M pc L (.int n :: S) h kc ks := by
  obtain ⟨⟨p, l, e, R, s, m, args, below⟩, ⟨meth, c, D, b, A, s0, Z⟩⟩ := X
  obtain ⟨hx, hb, hml, hown, hts, hN0, hK, hA⟩ := C
  intro ws H locs ls S' ⟨hP, hD, hS, hRH, hpre, hL, hSt⟩
  obtain ⟨S1, rfl, hSt1⟩ := gRS_int hSt
  refine va_newq hx hb hown (hts _ hc) (by rw [hCn]; exact hN0.2) hK hP hD hS hA hn hN hby hR.1 hR.2 hd (fun q cA H1 hK1 hP1 hD1 hS1 => ?_)
  obtain ⟨L', hl, hLP⟩ := hL
  have hq := hK1.2 0 (cA, .object Cn) rfl
  have es : b :: (ws ++ [(q, (Sum.inl (cA, N, .inr (.inr (.inr (.inr (fun _ => none))))) : va_E))]).map Prod.fst = (b :: ws.map Prod.fst) ++ [q] := by simp
  refine k _ H1 locs ls _ ⟨hP1, hD1, hS1, gRH_push hRH ⟨cA, _, rfl, hq.1, hq.2, _, rfl, fun i => rfl⟩, ?_, ⟨L', hl, ?_⟩, ⟨q, ?_, rfl⟩, ?_⟩
  · rw [List.map_append]; exact hpre.trans (List.prefix_append _ _)
  · rw [es]; exact gRP_mono hLP
  · rw [es, List.getElem?_append_right (by simp [hRH.1])]; simp [hRH.1]
  · rw [es]; exact gRS_mono hSt1
theorem gw_new (C : gC X M) {index ci N : Nat} {Cn : String} {T : u_T} {fs : List Value} (hc : gcl[ci]? = some (Cn, T, N)) (hin : ∀ w ∈ u_ws Cn T N, w ∈ gT) (ty : Nat → FieldType) (hty : ∀ k, k < N → parseFieldDescriptor (T k).2.2.1 = some (ty k)) (hcl : Cond.classLink M.1.cls index Cn ∈ gT) (hins : Cond.instantiable Cn N ∈ gT) (hini : Cond.initialized Cn ∈ gT) (hfs : ∀ j, j < N → defaultValue (ty j) = vp_V fs j) (hrs : ∀ sg : List Nat, gRS sg fs fs) (hR : match X with | ((_, _, _, R, _, _, _, _), _) => kc + 1 ≤ R.cells ∧ ks + N ≤ R.slots) (hd : decode M.2.1 pc = .ok (.new index, 3)) (k : GW X M (pc + 3) L (.ref (h.length + 1) :: S) (h ++ [.inr (ci, fs)]) (kc + 1) (ks + N)) : GW X M pc L S h kc ks := by
  obtain ⟨⟨p, l, e, R, s, m, args, below⟩, ⟨meth, c, D, b, A, s0, Z⟩⟩ := X
  obtain ⟨hx, hb, hml, hown, hts, hN0, hK, hA⟩ := C
  intro ws H locs ls S' ⟨hP, hD, hS, hRH, hpre, hL, hSt⟩
  refine va_new hx hb hts hin ty hty hown (hts _ hcl) (hts _ hins) (hts _ hini) hK hP hD hS hA hc hfs hR.1 hR.2 hd (fun q H1 hP1 hD1 hS1 => ?_)
  obtain ⟨L', hl, hLP⟩ := hL
  have es : b :: (ws ++ [(q, (Sum.inr (ci, fs) : va_E))]).map Prod.fst = (b :: ws.map Prod.fst) ++ [q] := by simp
  refine k _ H1 locs ls _ ⟨hP1, hD1, hS1, gRH_push hRH ⟨_, rfl, hrs _⟩, ?_, ⟨L', hl, ?_⟩, ⟨q, ?_, rfl⟩, ?_⟩
  · rw [List.map_append]; exact hpre.trans (List.prefix_append _ _)
  · rw [es]; exact gRP_mono hLP
  · rw [es, List.getElem?_append_right (by simp [hRH.1])]; simp [hRH.1]
  · rw [es]; exact gRS_mono hSt
/-- Object's constructor -/
theorem gw_objInit (C : gC X M) {q index : Nat} (hl : Cond.methodLink M.1.cls index Lib.objectInit ∈ gT) (hi : Cond.instanceMethod Lib.objectInit ∈ gT) (hcd : Cond.code Lib.objectInit ⟨#[0xb1]⟩ 1 none ∈ gT) (hsum : (S.map fun v => v.category).sum ≤ 8) (hR : match X with | ((_, _, _, R, _, _, _, _), _) => 1 ≤ R.frames ∧ 20 ≤ R.locals) (hd : decode M.2.1 pc = .ok (.invokespecial index, 3)) (k : GW X M (pc + 3) L S h kc ks) : GW X M pc L (.ref q :: S) h kc ks := by
  obtain ⟨⟨p, l, e, R, s, m, args, below⟩, ⟨meth, c, D, b, A, s0, Z⟩⟩ := X
  obtain ⟨hx, hb, hml, hown, hts, hN0, hK, hA⟩ := C
  intro ws H locs ls S' ⟨hP, hD, hS, hRH, hpre, hL, hSt⟩
  obtain ⟨a, S1, ha, rfl, hSt1⟩ := gRS_ref hSt
  obtain ⟨L', hl1, hLP⟩ := hL
  have hcat := gRS_cat hSt1
  refine W.objInit hx hb hown (hts _ hl) (hts _ hi) (hts _ hcd) rfl (by rw [hml]; exact hl1.1) rfl hd hR.1 ?_ ?_
  · have hr := hR.2
    have := lv_room (m := m) (pc := pc) (ls := ls) (rest := S1) (st := S1) (by rw [hcat]; exact hsum)
    show 2 * (F0 m pc ls (Value.ref a :: S1)).monitorRoom + _ + 12 ≤ R.locals
    have e1 : (F0 m pc ls (Value.ref a :: S1)).monitorRoom = (F0 m pc ls S1).monitorRoom := rfl
    rw [e1]
    omega
  · exact k ws H locs ls _ ⟨hP, hD, hS, hRH, hpre, ⟨L', hl1, hLP⟩, hSt1⟩
/-- behind a call -/
theorem gcall_on {p : Program} {l : Launch} {e : Env} {R : Room} {s : State} {m : MethodId} {args : Array Value} {below : List Frame} {meth : Method} {c : Code} {D : va_G} {b : Nat} {A : Nat → Prop} {s0 : List Nat} {Z : State → Prop} {ws : va_W} {H : Heap} {locs : List Loc} {ls : Array Slot} {mc ms : Nat} {st0 rest : List Value} {a : Array Value} {Q : Option Value → gAH → Prop} {L' : List (Nat × Value)}
    (hr : va_Run p l e R s m args below meth c H locs kc ks mc ms (F0 m pc ls st0) rest (gQC D b (ws.map Prod.fst) (va_A ws H.size) Q a) (va_A ws H.size)) (hD : va_D A ws) (hS : va_S A s.heap H locs) (hA : ∀ q : Nat, s.heap.size ≤ q → A q) (hpre : s0 <+: ws.map Prod.fst) (hl : lv_has ls M.2.2.1 L') (hLP : gRP (b :: ws.map Prod.fst) L L') (hSt : gRS (b :: ws.map Prod.fst) S rest)
    (k : ∀ r h', Q r h' → GW ((p, l, e, R, s, m, args, below), (meth, c, D, b, A, s0, Z)) M (pc + 3) L (r.toList ++ S) h' (kc + mc) (ks + ms)) : W p l e R s m args below meth c H locs kc ks Z (F0 m pc ls st0) := by
  have hf : ∀ q, va_A ws H.size q → A q := by
    intro q hq
    rcases hq with ⟨j, e1, hj⟩ | hq
    · exact hD.2 j _ hj
    · exact hA q (Nat.le_trans hS.1 hq)
  intro T hT X
  obtain ⟨v, st₀, t, T', L1, h0, X', hL1, e1, e2, ⟨⟨v0, v', h', ws', hv, hq, hrov, hP', hK', hD', hRH', hpre'⟩, hz, hk⟩, st⟩ := hr T hT X
  cases hv
  rw [h0] at hz hk
  have hal : s.vm.Alike t.vm := by rw [← e2]; exact X'.warmed.alike
  obtain ⟨tt, htt⟩ := gpre (b := b) hpre'
  have hG := k v0 h' hq
  have hw := hG ws' T'.heap (locs ++ L1) ls (v.toList ++ rest) ⟨by rw [e1]; exact hP', hD'.weaken (fun _ q _ z => hf q.1 z), ⟨Nat.le_trans hS.1 (by rw [e1]; exact hz), fun q h1 h2 => by rw [e1, hk q (Nat.lt_of_lt_of_le h1 hS.1) (fun z => h2 (hf q z))]; exact hS.2.1 q h1 h2, fun q hq => by
      rcases List.mem_append.mp hq with h | h
      · exact hS.2.2 q h
      · exact hf _ (hL1 q h)⟩, gRH_moved hal.symm hRH', hpre.trans hpre', ⟨L', hl, by rw [htt]; exact gRP_mono hLP⟩, gRS_app (by
        cases v0 with
        | none => cases hrov; exact trivial
        | some w => obtain ⟨w', rfl, hw⟩ := hrov; exact ⟨hw, trivial⟩) (by rw [htt]; exact gRS_mono hSt)⟩
  obtain ⟨t2, a1, b1⟩ := hw T' rfl X'
  exact ⟨t2, st t2 a1, b1⟩
theorem gblind {D : va_G} {b : Nat} {h : gAH} {ws : va_W} {sz : Nat} {av : List Value} : FrameBlind (va_Pc av (gB D b h ws sz)) := by
  intro a U g mk q
  obtain ⟨q0, q1, qP, qK, qD, qH, qN⟩ := q
  exact ⟨q0, q1, qP, va_K.moved (u := U) (U := U.calling g mk a) (Vm.Alike.refl U.vm) qK, qD, gRH_moved (u := U) (U := U.calling g mk a) (Vm.Alike.refl U.vm) qH, gN_same (s := U) (U := U.calling g mk a) rfl qN⟩
theorem gpreS {s : State} {H : Heap} {D : va_G} {b : Nat} {h : gAH} {ws : va_W} {av : List Value} {A : Nat → Prop} (hP : va_P D gcl ws H) (hD : va_D A ws) (hK : va_K D gcl [] s) (hRH : gRH s (b :: ws.map Prod.fst) h ws) (hN : gN s) : ∀ U : State, U.heap = H → s.WarmedH U.vm → va_Pc av (gB D b h ws H.size) av.toArray U :=
  fun U hU hW => ⟨rfl, by rw [hU], by rw [hU]; exact hP, va_K.moved hW.alike hK, hD.weaken (fun _ _ _ _ => trivial), gRH_moved hW.alike hRH, gN_warm hW hN⟩
/-- the words of a method's calls: its code among the tables, and plain -/
def gOk (N : gMd) (n : Nat) : Prop := Cond.code N.1 N.2.1 N.2.2.1 N.2.2.2.1 ∈ gT ∧ (N.1.cls ≠ "java/lang/invoke/MethodHandle" ∧ N.1.cls ≠ "java/lang/invoke/VarHandle" ∧ (parseMethodDescriptor N.1.desc).map (fun d => d.parameters.length) = some n) ∧ N.2.2.1 ≤ 21
theorem gT_good : ∀ w ∈ gT, w ∈ gT ∧ ((w.onTables && w.keeps) = true ∨ ∃ ty, w = .arrayClass ty) := fun w hw => ⟨hw, good_of_word (List.mem_filter.mp hw).2⟩
theorem gWs_good {N : gMd} {n : Nat} (hN : gOk N n) : GoodIn gT (gWs N) := by
  intro w hw
  rcases List.mem_cons.mp hw with rfl | hw
  · exact gT_good _ hN.1
  · exact gT_good w hw
/-- a room that holds the callee's -/
def gFit (R : Room) (d : Nat) (kc ks : Nat) (N : gMd) : Prop := d + 1 ≤ R.frames ∧ 40 * d + 40 ≤ R.locals ∧ kc + N.2.2.2.2.1 ≤ R.cells ∧ ks + N.2.2.2.2.2 ≤ R.slots
theorem gFitD {d kc ks : Nat} {M N : gMd} (h1 : kc + N.2.2.2.2.1 ≤ M.2.2.2.2.1) (h2 : ks + N.2.2.2.2.2 ≤ M.2.2.2.2.2) : gFit (gRm (d + 1) M) d kc ks N := ⟨Nat.le_refl _, by show 40 * d + 40 ≤ 40 * (d + 1); omega, h1, h2⟩
theorem gw_callV (C : gC X M) {d n index q ci Nf : Nat} {Cn : String} {T : u_T} {fs av : List Value} (N : gMd) {Q : Option Value → gAH → Prop} (hN : gOk N n) (hav : av.length = n) (hq : h[q]? = some (.inr (ci, fs))) (hc : gcl[ci]? = some (Cn, T, Nf)) (hy : N.1.cls = Cn) (hl : Cond.methodLink M.1.cls index N.1 ∈ gT) (hi : Cond.instanceMethod N.1 ∈ gT) (hse : Cond.selects Cn N.1 N.1 ∈ gT) (hini : Cond.initialized Cn ∈ gT) (hsum : (S.map fun v => v.category).sum ≤ 8) (hF : match X with | ((_, _, _, R, _, _, _, _), _) => gFit R d kc ks N) (hd : decode M.2.1 pc = .ok (.invokevirtual index, 3)) (hM : match X with | (_, (_, _, D, _)) => AM D d N (.ref (q + 1) :: av) h Q) (k : ∀ r h', Q r h' → GW X M (pc + 3) L (r.toList ++ S) h' (kc + N.2.2.2.2.1) (ks + N.2.2.2.2.2)) : GW X M pc L (av.reverse ++ .ref (q + 1) :: S) h kc ks := by
  obtain ⟨⟨p, l, e, R, s, m, args, below⟩, ⟨meth, c, D, b, A, s0, Z⟩⟩ := X
  obtain ⟨hx, hb, hml, hown, hts, hN0, hK, hA⟩ := C
  intro ws H locs ls S' ⟨hP, hD, hS, hRH, hpre, ⟨L', hl1, hLP⟩, hSt⟩
  obtain ⟨Sa, Sb, rfl, hSa, hSb⟩ := gRS_split hSt
  obtain ⟨a, S1, ha, rfl, hSt1⟩ := gRS_ref hSb
  obtain ⟨e', he, fs', rfl, hfs⟩ := gRH_at hRH hq ha
  have hra := gRS_rev hSa
  rw [List.reverse_reverse] at hra
  have hcat := gRS_cat hSt1
  refine gcall_on (M := M) (L := L) (S := S) (va_runV (n := n) (As := Sa.reverse) (rest := S1) (b := a) ⟨hx, hb, hml, hown, hts⟩ (hM l b ws H.size (.ref a :: Sa.reverse) ⟨⟨a, ha, rfl⟩, hra⟩) ⟨⟨rfl, rfl, hF.1, ?_, pay_in hts (gWs_good hN), List.mem_cons_self, hts _ hN.1, by rw [hy]; exact hts _ hini, ⟨hN.2.1.1, hN.2.1.2.1⟩, ?_, hts _ hl⟩, hts _ hi, hts _ hse⟩ ⟨gblind, va_recv hK hP hc he, gpreS hP hD hK hRH hN0⟩ rfl (by rw [List.length_reverse, gRS_len hSa, List.length_reverse]; exact hav) hl1.1 (by rw [List.reverse_reverse]) (lv_room (by rw [hcat]; exact hsum)) hd hF.2.2) hD hS hA hpre hl1 hLP hSt1 k
  · have h1 := hF.2.1
    have h2 := hN.2.2
    show 8 + (N.2.2.1 + 11) + 40 * d ≤ R.locals
    omega
  · intro sig hsig
    have h2 := hN.2.1.2.2
    rw [hsig] at h2
    exact (Option.some.inj h2).symm
theorem gw_callS (C : gC X M) {d n index : Nat} {av : List Value} (N : gMd) {Q : Option Value → gAH → Prop} (hN : gOk N n) (hav : av.length = n) (hl : Cond.methodLink M.1.cls index N.1 ∈ gT) (hst : Cond.static N.1 ∈ gT) (hini : Cond.initialized N.1.cls ∈ gT) (hsum : (S.map fun v => v.category).sum ≤ 8) (hF : match X with | ((_, _, _, R, _, _, _, _), _) => gFit R d kc ks N) (hd : decode M.2.1 pc = .ok (.invokestatic index, 3)) (hM : match X with | (_, (_, _, D, _)) => AM D d N av h Q) (k : ∀ r h', Q r h' → GW X M (pc + 3) L (r.toList ++ S) h' (kc + N.2.2.2.2.1) (ks + N.2.2.2.2.2)) : GW X M pc L (av.reverse ++ S) h kc ks := by
  obtain ⟨⟨p, l, e, R, s, m, args, below⟩, ⟨meth, c, D, b, A, s0, Z⟩⟩ := X
  obtain ⟨hx, hb, hml, hown, hts, hN0, hK, hA⟩ := C
  intro ws H locs ls S' ⟨hP, hD, hS, hRH, hpre, ⟨L', hl1, hLP⟩, hSt⟩
  obtain ⟨Sa, S1, rfl, hSa, hSt1⟩ := gRS_split hSt
  have hra := gRS_rev hSa
  rw [List.reverse_reverse] at hra
  have hcat := gRS_cat hSt1
  refine gcall_on (M := M) (L := L) (S := S) (va_runS (n := n) (As := Sa.reverse) (rest := S1) ⟨hx, hb, hml, hown, hts⟩ (hM l b ws H.size Sa.reverse hra) ⟨⟨rfl, rfl, hF.1, ?_, pay_in hts (gWs_good hN), List.mem_cons_self, hts _ hN.1, hts _ hini, ⟨hN.2.1.1, hN.2.1.2.1⟩, ?_, hts _ hl⟩, hts _ hst⟩ ⟨gblind, gpreS hP hD hK hRH hN0⟩ rfl (by rw [List.length_reverse, gRS_len hSa, List.length_reverse]; exact hav) hl1.1 (by rw [List.reverse_reverse]) (lv_room (by rw [hcat]; exact hsum)) hd hF.2.2) hD hS hA hpre hl1 hLP hSt1 k
  · have h1 := hF.2.1
    have h2 := hN.2.2
    show 8 + (N.2.2.1 + 11) + 40 * d ≤ R.locals
    omega
  · intro sig hsig
    have h2 := hN.2.1.2.2
    rw [hsig] at h2
    exact (Option.some.inj h2).symm
theorem gw_callN (C : gC X M) {d n index : Nat} {host : String} {av : List Value} (N : gMd) {Q : Option Value → gAH → Prop} (hN : gOk N n) (hav : av.length = n) (hl : Cond.methodLinkNest M.1.cls index N.1 host ∈ gNest) (hst : Cond.static N.1 ∈ gT) (hini : Cond.initialized N.1.cls ∈ gT) (hsum : (S.map fun v => v.category).sum ≤ 8) (hF : match X with | ((_, _, _, R, _, _, _, _), _) => gFit R d kc ks N) (hd : decode M.2.1 pc = .ok (.invokestatic index, 3)) (hM : match X with | (_, (_, _, D, _)) => AM D d N av h Q) (k : ∀ r h', Q r h' → GW X M (pc + 3) L (r.toList ++ S) h' (kc + N.2.2.2.2.1) (ks + N.2.2.2.2.2)) : GW X M pc L (av.reverse ++ S) h kc ks := by
  obtain ⟨⟨p, l, e, R, s, m, args, below⟩, ⟨meth, c, D, b, A, s0, Z⟩⟩ := X
  obtain ⟨hx, hb, hml, hown, hts, hN0, hK, hA⟩ := C
  intro ws H locs ls S' ⟨hP, hD, hS, hRH, hpre, ⟨L', hl1, hLP⟩, hSt⟩
  obtain ⟨Sa, S1, rfl, hSa, hSt1⟩ := gRS_split hSt
  have hra := gRS_rev hSa
  rw [List.reverse_reverse] at hra
  have hcat := gRS_cat hSt1
  refine gcall_on (M := M) (L := L) (S := S) (va_runSN (n := n) (As := Sa.reverse) (rest := S1) (host := host) ⟨hx, hb, hml, hown, hts⟩ (hM l b ws H.size Sa.reverse hra) ⟨⟨⟨rfl, rfl, hF.1, ?_, pay_in hts (gWs_good hN), List.mem_cons_self⟩, hts _ hN.1, hts _ hini, ⟨hN.2.1.1, hN.2.1.2.1⟩, ?_, va_Nw.use rfl (hN0.1 _ hl)⟩, hts _ hst, trivial⟩ ⟨gblind, gpreS hP hD hK hRH hN0⟩ rfl (by rw [List.length_reverse, gRS_len hSa, List.length_reverse]; exact hav) hl1.1 (by rw [List.reverse_reverse]) (lv_room (by rw [hcat]; exact hsum)) hd hF.2.2) hD hS hA hpre hl1 hLP hSt1 k
  · have h1 := hF.2.1
    have h2 := hN.2.2
    show 8 + (N.2.2.1 + 11) + 40 * d ≤ R.locals
    omega
  · intro sig hsig
    have h2 := hN.2.1.2.2
    rw [hsig] at h2
    exact (Option.some.inj h2).symm
theorem gw_callI (C : gC X M) {d n index q : Nat} {av : List Value} (N : gMd) {Q : Option Value → gAH → Prop} (hN : gOk N n) (hrt : N.2.2.2.1 = none) (hav : av.length = n) (hl : Cond.methodLink M.1.cls index N.1 ∈ gT) (hi : Cond.instanceMethod N.1 ∈ gT) (hnm : N.1.name = "<init>") (hini : Cond.initialized N.1.cls ∈ gT) (hsum : (S.map fun v => v.category).sum ≤ 8) (hF : match X with | ((_, _, _, R, _, _, _, _), _) => gFit R d kc ks N) (hd : decode M.2.1 pc = .ok (.invokespecial index, 3)) (hM : match X with | (_, (_, _, D, _)) => AM D d N (.ref q :: av) h Q) (k : ∀ r h', Q r h' → GW X M (pc + 3) L (r.toList ++ S) h' (kc + N.2.2.2.2.1) (ks + N.2.2.2.2.2)) : GW X M pc L (av.reverse ++ .ref q :: S) h kc ks := by
  obtain ⟨⟨p, l, e, R, s, m, args, below⟩, ⟨meth, c, D, b, A, s0, Z⟩⟩ := X
  obtain ⟨hx, hb, hml, hown, hts, hN0, hK, hA⟩ := C
  intro ws H locs ls S' ⟨hP, hD, hS, hRH, hpre, ⟨L', hl1, hLP⟩, hSt⟩
  obtain ⟨Sa, Sb, rfl, hSa, hSb⟩ := gRS_split hSt
  obtain ⟨a, S1, ha, rfl, hSt1⟩ := gRS_ref hSb
  have hra := gRS_rev hSa
  rw [List.reverse_reverse] at hra
  have hcat := gRS_cat hSt1
  have hcd := hN.1
  have hgw := gWs_good hN
  obtain ⟨ny, nb, nl, nr, nc, ns⟩ := N
  dsimp only at hrt
  subst hrt
  refine gcall_on (M := M) (L := L) (S := S) (va_runI (n := n) (As := Sa.reverse) (rest := S1) (b := a) ⟨hx, hb, hml, hown, hts⟩ (hM l b ws H.size (.ref a :: Sa.reverse) ⟨⟨a, ha, rfl⟩, hra⟩) ⟨⟨rfl, rfl, hF.1, ?_, pay_in hts hgw, List.mem_cons_self, hts _ hcd, hts _ hini, ⟨hN.2.1.1, hN.2.1.2.1⟩, ?_, hts _ hl⟩, hnm, hts _ hi⟩ ⟨gblind, gpreS hP hD hK hRH hN0⟩ rfl (by rw [List.length_reverse, gRS_len hSa, List.length_reverse]; exact hav) hl1.1 (by rw [List.reverse_reverse]) (lv_room (by rw [hcat]; exact hsum)) hd hF.2.2) hD hS hA hpre hl1 hLP hSt1 k
  · have h1 := hF.2.1
    have h2 := hN.2.2
    show 8 + (nl + 11) + 40 * d ≤ R.locals
    dsimp only at h2
    omega
  · intro sig hsig
    have h2 := hN.2.1.2.2
    dsimp only at h2
    rw [hsig] at h2
    exact (Option.some.inj h2).symm
end GCALLS
end
section
section GENDS
variable {X : gCx} {M : gMd} {pc : Nat} {L : List (Nat × Value)} {S : List Value} {h : gAH} {kc ks : Nat} {D : va_G} {d : Nat} {Q : Option Value → gAH → Prop}
theorem gq_end {s t : State} {b : Nat} {A : Nat → Prop} {s0 : List Nat} {H : Heap} {ws : va_W} {locs : List Loc} {args : Array Value} {v v' : Option Value} (hq : Q v h) (hv : gROV (b :: ws.map Prod.fst) v v') (hP : va_P D gcl ws H) (hD : va_D A ws) (hS : va_S A s.heap H locs) (hRH : gRH s (b :: ws.map Prod.fst) h ws) (hK : va_K D gcl [] s) (hpre : s0 <+: ws.map Prod.fst) (ht : t.heap = H) (hW : s.WarmedH t.vm) : gQC D b s0 A Q args s (.returned v') t :=
  ⟨⟨v, v', h, ws, rfl, hq, hv, by rw [ht]; exact hP, va_K.moved hW.alike hK, hD, gRH_moved hW.alike hRH, hpre⟩, hS.F ht⟩
theorem gw_iret (CX : gCX D d M Q X) {ty : FieldType} {x : Int32} (hr : M.2.2.2.1 = some ty) (hn : narrow ty (.int x) = .int x) (hq : Q (some (.int x)) h) (hkc : kc ≤ M.2.2.2.2.1) (hks : ks ≤ M.2.2.2.2.2) (hd : decode M.2.1 pc = .ok (.ireturn, 1)) : GW X M pc L [.int x] h kc ks := by
  obtain ⟨⟨p, l, e, R, s, m, args, below⟩, ⟨meth, c, D', b, A, s0, Z⟩⟩ := X
  obtain ⟨⟨hx, hb, hml, hown, hts, hN, hK, hA⟩, hD0, hR, hret, hlocks, hnm, hZ⟩ := CX
  subst hD0
  subst hZ
  intro ws H locs ls S' ⟨hP, hD, hS, hRH, hpre, hL, hSt⟩
  obtain ⟨S1, rfl, hSt1⟩ := gRS_int hSt
  cases gRS_nil hSt1
  refine W.widen hkc hks ?_
  exact W.zret hx hb (hret.trans hr) hn (fun t ht hW => gq_end hq ⟨_, rfl, rfl⟩ hP hD hS hRH hK hpre ht hW) hS.2.2 hd hlocks
theorem gw_lret (CX : gCX D d M Q X) {x : Int64} (hr : M.2.2.2.1 = some .long) (hq : Q (some (.long x)) h) (hkc : kc ≤ M.2.2.2.2.1) (hks : ks ≤ M.2.2.2.2.2) (hd : decode M.2.1 pc = .ok (.lreturn, 1)) : GW X M pc L [.long x] h kc ks := by
  obtain ⟨⟨p, l, e, R, s, m, args, below⟩, ⟨meth, c, D', b, A, s0, Z⟩⟩ := X
  obtain ⟨⟨hx, hb, hml, hown, hts, hN, hK, hA⟩, hD0, hR, hret, hlocks, hnm, hZ⟩ := CX
  subst hD0
  subst hZ
  intro ws H locs ls S' ⟨hP, hD, hS, hRH, hpre, hL, hSt⟩
  obtain ⟨S1, rfl, hSt1⟩ := gRS_long hSt
  cases gRS_nil hSt1
  refine W.widen hkc hks ?_
  exact W.lret hx hb (hret.trans hr) (fun t ht hW => gq_end hq ⟨_, rfl, rfl⟩ hP hD hS hRH hK hpre ht hW) hS.2.2 hd hlocks
theorem gw_vret (CX : gCX D d M Q X) (hr : M.2.2.2.1 = none) (hq : Q none h) (hkc : kc ≤ M.2.2.2.2.1) (hks : ks ≤ M.2.2.2.2.2) (hd : decode M.2.1 pc = .ok (.return_, 1)) : GW X M pc L [] h kc ks := by
  obtain ⟨⟨p, l, e, R, s, m, args, below⟩, ⟨meth, c, D', b, A, s0, Z⟩⟩ := X
  obtain ⟨⟨hx, hb, hml, hown, hts, hN, hK, hA⟩, hD0, hR, hret, hlocks, hnm, hZ⟩ := CX
  subst hD0
  subst hZ
  intro ws H locs ls S' ⟨hP, hD, hS, hRH, hpre, hL, hSt⟩
  cases gRS_nil hSt
  refine W.widen hkc hks ?_
  exact W.vret hx hb (hret.trans hr) (fun t ht hW => gq_end hq rfl hP hD hS hRH hK hpre ht hW) hS.2.2 hd hlocks
theorem gw_aret (CX : gCX D d M Q X) {Cn : String} {q : Nat} (hr : M.2.2.2.1 = some (.object Cn)) (hq : Q (some (.ref q)) h) (hkc : kc ≤ M.2.2.2.2.1) (hks : ks ≤ M.2.2.2.2.2) (hd : decode M.2.1 pc = .ok (.areturn, 1)) : GW X M pc L [.ref q] h kc ks := by
  obtain ⟨⟨p, l, e, R, s, m, args, below⟩, ⟨meth, c, D', b, A, s0, Z⟩⟩ := X
  obtain ⟨⟨hx, hb, hml, hown, hts, hN, hK, hA⟩, hD0, hR, hret, hlocks, hnm, hZ⟩ := CX
  subst hD0
  subst hZ
  intro ws H locs ls S' ⟨hP, hD, hS, hRH, hpre, hL, hSt⟩
  obtain ⟨a, S1, ha, rfl, hSt1⟩ := gRS_ref hSt
  cases gRS_nil hSt1
  refine W.widen hkc hks ?_
  exact W.aret hx hb (hret.trans hr) (Or.inl ⟨_, rfl⟩) (Or.inr ⟨_, rfl⟩) (fun t ht hW => gq_end hq ⟨_, rfl, a, ha, rfl⟩ hP hD hS hRH hK hpre ht hW) hS.2.2 hd hlocks
theorem gw_aretN (CX : gCX D d M Q X) {Cn : String} (hr : M.2.2.2.1 = some (.object Cn)) (hq : Q (some .null) h) (hkc : kc ≤ M.2.2.2.2.1) (hks : ks ≤ M.2.2.2.2.2) (hd : decode M.2.1 pc = .ok (.areturn, 1)) : GW X M pc L [.null] h kc ks := by
  obtain ⟨⟨p, l, e, R, s, m, args, below⟩, ⟨meth, c, D', b, A, s0, Z⟩⟩ := X
  obtain ⟨⟨hx, hb, hml, hown, hts, hN, hK, hA⟩, hD0, hR, hret, hlocks, hnm, hZ⟩ := CX
  subst hD0
  subst hZ
  intro ws H locs ls S' ⟨hP, hD, hS, hRH, hpre, hL, hSt⟩
  obtain ⟨S1, rfl, hSt1⟩ := gRS_null hSt
  cases gRS_nil hSt1
  refine W.widen hkc hks ?_
  exact W.aret hx hb (hret.trans hr) (Or.inl ⟨_, rfl⟩) (Or.inl rfl) (fun t ht hW => gq_end hq ⟨_, rfl, rfl⟩ hP hD hS hRH hK hpre ht hW) hS.2.2 hd hlocks
/-- a copy of places from one array to another, or within one -/
theorem gw_copy (C : gC X M) {index q0 q1 n0 n1 : Nat} {f g : Nat → Int32} {ty : FieldType} (h0 : h[q0]? = some (.inl (ty, n0, .inl f))) (h1 : h[q1]? = some (.inl (ty, n1, .inl g))) (hprim : refKind ty = false) {sp dp n : Int32} (g1 : ¬ sp < 0) (g2 : ¬ dp < 0) (g3 : ¬ n < 0) (g4 : sp.toNatClampNeg + n.toNatClampNeg ≤ n0) (g5 : dp.toNatClampNeg + n.toNatClampNeg ≤ n1) (hfit : ∀ i, i < n.toNatClampNeg → fits ty (.int (f (sp.toNatClampNeg + i))) = true) (hl : Cond.methodLink M.1.cls index arraycopyName ∈ gT) (hnat : Cond.native arraycopyName ∈ gT) (hst : Cond.static arraycopyName ∈ gT) (hini : Cond.initialized "java/lang/System" ∈ gT) (hsum : (S.map fun v => v.category).sum ≤ 8) (hR : match X with | ((_, _, _, R, _, _, _, _), _) => 1 ≤ R.frames ∧ nativeFrameWords "java/lang/System" "arraycopy" 5 + 19 ≤ R.locals) (hd : decode M.2.1 pc = .ok (.invokestatic index, 3)) (k : GW X M (pc + 3) L S (h.set q1 (.inl (ty, n1, .inl (va_cpy f g sp.toNatClampNeg dp.toNatClampNeg n.toNatClampNeg)))) kc ks) : GW X M pc L (.int n :: .int dp :: .ref (q1 + 1) :: .int sp :: .ref (q0 + 1) :: S) h kc ks := by
  obtain ⟨⟨p, l, e, R, s, m, args, below⟩, ⟨meth, c, D, b, A, s0, Z⟩⟩ := X
  obtain ⟨hx, hb, hml, hown, hts, hN, hK, hA⟩ := C
  intro ws H locs ls S' ⟨hP, hD, hS, hRH, hpre, hL, hSt⟩
  obtain ⟨S1, rfl, hSt1⟩ := gRS_int hSt
  obtain ⟨S2, rfl, hSt2⟩ := gRS_int hSt1
  obtain ⟨a1, S3, ha1, rfl, hSt3⟩ := gRS_ref hSt2
  obtain ⟨S4, rfl, hSt4⟩ := gRS_int hSt3
  obtain ⟨a0, S5, ha0, rfl, hSt5⟩ := gRS_ref hSt4
  obtain ⟨e0, he0, c0, x0, rfl, hA1, hA2, hra⟩ := gRH_at hRH h0 ha0
  cases hra
  obtain ⟨e1, he1, c1, x1, rfl, hB1, hB2, hrb⟩ := gRH_at hRH h1 ha1
  cases hrb
  obtain ⟨L', hl1, hLP⟩ := hL
  have hcat := gRS_cat hSt5
  refine va_copyi hx hb (by rw [hml]; exact hl1.1.symm) hown (hts _ hl) (hts _ hnat) (hts _ hst) (hts _ hini) (tys := [(c0, ty), (c1, ty)]) ⟨hK.1, fun k q hk => by cases k with | zero => cases hk; exact ⟨hA1, hA2⟩ | succ k => cases k with | zero => cases hk; exact ⟨hB1, hB2⟩ | succ k => simp at hk⟩ hP hD hS q0 q1 0 1 he0 he1 rfl rfl hprim g1 g2 g3 g4 g5 hfit hR.1 ?_ hd (fun H1 locs1 hP1 hD1 hS1 => ?_)
  · have hr := hR.2
    rw [hcat]
    omega
  · refine k _ H1 locs1 ls _ ⟨hP1, hD1, hS1, gRH_set hRH he1 ⟨c1, _, rfl, hB1, hB2, rfl⟩, ?_, ?_, ?_⟩
    · rw [gmap_set he1]; exact hpre
    · rw [gmap_set he1]; exact ⟨L', hl1, hLP⟩
    · rw [gmap_set he1]; exact hSt5
/-- a contract out of the walk from the method's entry -/
theorem AM_intro {av : List Value} (hpl : plainName M.1.cls = true) (hsl : (lg_sl av).length ≤ M.2.2.1) (k : AW D d M 0 (lv_args 0 av) [] h 0 0 Q) : AM D d M av h Q := by
  intro l b ws sz av' hav
  refine Met.ofW (cc := M.2.1) (maxL := M.2.2.1) (ret := M.2.2.2.1) hpl rfl ?_
  intro p e s m args below meth c s₁ B hml hv
  obtain ⟨rfl, hsz, hP, hK, hD0, hRH, hN⟩ := hv
  have hts := atoms_spec (ws := gWs M) B.pre
  have hown : s.vm.findClass M.1.cls = some m.cls := findClass_of_methodNamed B.named
  subst hsz
  have hl := lv_entry av' (n := M.2.2.1) (by rw [gRS_sl hav]; exact hsl)
  rw [lg_entry_eq]
  have hD := hD0.self (sz := s.heap.size)
  have hk := k ((p, l, e, gRm d M, s, m, av'.toArray, below), (meth, c, D, b, va_A ws s.heap.size, ws.map Prod.fst, MQ below (gQC D b (ws.map Prod.fst) (va_A ws s.heap.size) Q) av'.toArray s M.2.2.2.2.1 M.2.2.2.2.2 (va_A ws s.heap.size))) ⟨⟨B.exec, B.bytes, hml, hown, fun w hw => hts w (List.mem_cons_of_mem _ hw), hN, hK, fun q hq => Or.inr hq⟩, rfl, rfl, B.returns, B.notSynchronized, (name_of_methodNamed B.named B.method).1, rfl⟩
  exact hk ws s.heap [] _ [] ⟨hP, hD, va_S.rf, hRH, List.prefix_rfl, ⟨_, hl, gRP_args hav 0⟩, trivial⟩
theorem AM_weaken {av : List Value} {Q' : Option Value → gAH → Prop} (hq : ∀ r h', Q r h' → Q' r h') (k : AM D d M av h Q) : AM D d M av h Q' := by
  intro l b ws sz av' hav p e ha hc hk s m args below hf hh hP hT
  obtain ⟨k1, o, h1, h2, h3, ⟨⟨⟨v, v', h', ws', q1, q2, q3⟩, q4⟩, q5⟩⟩ := k l b ws sz av' hav p e ha hc hk s m args below hf hh hP hT
  exact ⟨k1, o, h1, h2, h3, ⟨⟨v, v', h', ws', q1, hq _ _ q2, q3⟩, q4⟩, q5⟩
end GENDS
end
