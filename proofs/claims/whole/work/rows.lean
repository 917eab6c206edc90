section
-- ===== PART A: goes FIRST, ahead of the names: the tables' words, and 'selects' of the private methods out of them =====
/-- a private method of a class that the tables say can be made, by its rows of tables_1 -/
def lw_okq (q : MethodName × Nat) : Prop := (q.1.cls ≠ "java/lang/invoke/MethodHandle" ∧ q.1.cls ≠ "java/lang/invoke/VarHandle") ∧ Cond.instantiable q.1.cls q.2 ∈ tables_1 ∧ Cond.privateMethod q.1 ∈ tables_1 ∧ Cond.instanceMethod q.1 ∈ tables_1
theorem lw_p0 : lw_okq (⟨"SwingDesk", "sheetOf", "(I)LSwingDesk$Sheet;"⟩, 6) := ⟨⟨by decide +kernel, by decide +kernel⟩, List.mem_of_getElem? (i := 14) (by decide +kernel), List.mem_of_getElem? (i := 288) (by decide +kernel), List.mem_of_getElem? (i := 289) (by decide +kernel)⟩
theorem lw_p1 : lw_okq (⟨"SwingDesk$Company", "sinceDay", "(I)I"⟩, 9) := ⟨⟨by decide +kernel, by decide +kernel⟩, List.mem_of_getElem? (i := 52) (by decide +kernel), List.mem_of_getElem? (i := 381) (by decide +kernel), List.mem_of_getElem? (i := 382) (by decide +kernel)⟩
theorem lw_p2 : lw_okq (⟨"SwingDesk$CastSearch", "readPeople", "(I)V"⟩, 14) := ⟨⟨by decide +kernel, by decide +kernel⟩, List.mem_of_getElem? (i := 112) (by decide +kernel), List.mem_of_getElem? (i := 476) (by decide +kernel), List.mem_of_getElem? (i := 477) (by decide +kernel)⟩
theorem lw_p3 : lw_okq (⟨"SwingDesk$CastSearch", "coverLoss", "(III)I"⟩, 14) := ⟨⟨by decide +kernel, by decide +kernel⟩, List.mem_of_getElem? (i := 112) (by decide +kernel), List.mem_of_getElem? (i := 507) (by decide +kernel), List.mem_of_getElem? (i := 508) (by decide +kernel)⟩
theorem lw_p4 : lw_okq (⟨"SwingDesk$CastSearch", "readEarlierTracks", "(I)V"⟩, 14) := ⟨⟨by decide +kernel, by decide +kernel⟩, List.mem_of_getElem? (i := 112) (by decide +kernel), List.mem_of_getElem? (i := 514) (by decide +kernel), List.mem_of_getElem? (i := 515) (by decide +kernel)⟩
theorem lw_p5 : lw_okq (⟨"SwingDesk$Show", "isFarStep", "(III)Z"⟩, 6) := ⟨⟨by decide +kernel, by decide +kernel⟩, List.mem_of_getElem? (i := 22) (by decide +kernel), List.mem_of_getElem? (i := 522) (by decide +kernel), List.mem_of_getElem? (i := 523) (by decide +kernel)⟩
theorem lw_p6 : lw_okq (⟨"SwingDesk$CastSearch", "readLifts", "()V"⟩, 14) := ⟨⟨by decide +kernel, by decide +kernel⟩, List.mem_of_getElem? (i := 112) (by decide +kernel), List.mem_of_getElem? (i := 537) (by decide +kernel), List.mem_of_getElem? (i := 538) (by decide +kernel)⟩
theorem lw_p7 : lw_okq (⟨"SwingDesk$CastSearch", "seek", "(II)V"⟩, 14) := ⟨⟨by decide +kernel, by decide +kernel⟩, List.mem_of_getElem? (i := 112) (by decide +kernel), List.mem_of_getElem? (i := 546) (by decide +kernel), List.mem_of_getElem? (i := 547) (by decide +kernel)⟩
theorem lw_p8 : lw_okq (⟨"SwingDesk$CastSearch", "keepIfLess", "(I)V"⟩, 14) := ⟨⟨by decide +kernel, by decide +kernel⟩, List.mem_of_getElem? (i := 112) (by decide +kernel), List.mem_of_getElem? (i := 550) (by decide +kernel), List.mem_of_getElem? (i := 551) (by decide +kernel)⟩
theorem lw_p9 : lw_okq (⟨"SwingDesk$CastSearch", "barred", "(I)I"⟩, 14) := ⟨⟨by decide +kernel, by decide +kernel⟩, List.mem_of_getElem? (i := 112) (by decide +kernel), List.mem_of_getElem? (i := 557) (by decide +kernel), List.mem_of_getElem? (i := 558) (by decide +kernel)⟩
theorem lw_p10 : lw_okq (⟨"SwingDesk$CastSearch", "tryPerson", "(III)V"⟩, 14) := ⟨⟨by decide +kernel, by decide +kernel⟩, List.mem_of_getElem? (i := 112) (by decide +kernel), List.mem_of_getElem? (i := 562) (by decide +kernel), List.mem_of_getElem? (i := 563) (by decide +kernel)⟩
theorem lw_p11 : lw_okq (⟨"SwingDesk$CastSearch", "liftLoss", "(I)I"⟩, 14) := ⟨⟨by decide +kernel, by decide +kernel⟩, List.mem_of_getElem? (i := 112) (by decide +kernel), List.mem_of_getElem? (i := 566) (by decide +kernel), List.mem_of_getElem? (i := 567) (by decide +kernel)⟩
theorem lw_p12 : lw_okq (⟨"SwingDesk$Night", "holdFrom", "(III)V"⟩, 5) := ⟨⟨by decide +kernel, by decide +kernel⟩, List.mem_of_getElem? (i := 88) (by decide +kernel), List.mem_of_getElem? (i := 590) (by decide +kernel), List.mem_of_getElem? (i := 591) (by decide +kernel)⟩
theorem lw_p13 : lw_okq (⟨"SwingDesk$Night", "firstHeld", "(III)I"⟩, 5) := ⟨⟨by decide +kernel, by decide +kernel⟩, List.mem_of_getElem? (i := 88) (by decide +kernel), List.mem_of_getElem? (i := 641) (by decide +kernel), List.mem_of_getElem? (i := 642) (by decide +kernel)⟩
theorem lw_p14 : lw_okq (⟨"SwingDesk$Night", "handOn", "(II)Z"⟩, 5) := ⟨⟨by decide +kernel, by decide +kernel⟩, List.mem_of_getElem? (i := 88) (by decide +kernel), List.mem_of_getElem? (i := 645) (by decide +kernel), List.mem_of_getElem? (i := 646) (by decide +kernel)⟩
theorem lw_p15 : lw_okq (⟨"SwingDesk$Night", "busyFrom", "(II)I"⟩, 5) := ⟨⟨by decide +kernel, by decide +kernel⟩, List.mem_of_getElem? (i := 88) (by decide +kernel), List.mem_of_getElem? (i := 650) (by decide +kernel), List.mem_of_getElem? (i := 651) (by decide +kernel)⟩
def lw_privs_1 : List (MethodName × Nat) := [(⟨"SwingDesk", "sheetOf", "(I)LSwingDesk$Sheet;"⟩, 6), (⟨"SwingDesk$Company", "sinceDay", "(I)I"⟩, 9), (⟨"SwingDesk$CastSearch", "readPeople", "(I)V"⟩, 14), (⟨"SwingDesk$CastSearch", "coverLoss", "(III)I"⟩, 14), (⟨"SwingDesk$CastSearch", "readEarlierTracks", "(I)V"⟩, 14), (⟨"SwingDesk$Show", "isFarStep", "(III)Z"⟩, 6), (⟨"SwingDesk$CastSearch", "readLifts", "()V"⟩, 14), (⟨"SwingDesk$CastSearch", "seek", "(II)V"⟩, 14), (⟨"SwingDesk$CastSearch", "keepIfLess", "(I)V"⟩, 14), (⟨"SwingDesk$CastSearch", "barred", "(I)I"⟩, 14), (⟨"SwingDesk$CastSearch", "tryPerson", "(III)V"⟩, 14), (⟨"SwingDesk$CastSearch", "liftLoss", "(I)I"⟩, 14), (⟨"SwingDesk$Night", "holdFrom", "(III)V"⟩, 5), (⟨"SwingDesk$Night", "firstHeld", "(III)I"⟩, 5), (⟨"SwingDesk$Night", "handOn", "(II)Z"⟩, 5), (⟨"SwingDesk$Night", "busyFrom", "(II)I"⟩, 5)]
theorem lw_r1 : ∀ q ∈ lw_privs_1, lw_okq q := List.forall_mem_cons.mpr ⟨lw_p0, List.forall_mem_cons.mpr ⟨lw_p1, List.forall_mem_cons.mpr ⟨lw_p2, List.forall_mem_cons.mpr ⟨lw_p3, List.forall_mem_cons.mpr ⟨lw_p4, List.forall_mem_cons.mpr ⟨lw_p5, List.forall_mem_cons.mpr ⟨lw_p6, List.forall_mem_cons.mpr ⟨lw_p7, List.forall_mem_cons.mpr ⟨lw_p8, List.forall_mem_cons.mpr ⟨lw_p9, List.forall_mem_cons.mpr ⟨lw_p10, List.forall_mem_cons.mpr ⟨lw_p11, List.forall_mem_cons.mpr ⟨lw_p12, List.forall_mem_cons.mpr ⟨lw_p13, List.forall_mem_cons.mpr ⟨lw_p14, List.forall_mem_cons.mpr ⟨lw_p15, fun _ h => absurd h List.not_mem_nil⟩⟩⟩⟩⟩⟩⟩⟩⟩⟩⟩⟩⟩⟩⟩⟩
theorem lw_p16 : lw_okq (⟨"SwingDesk$PutIns", "readNeeds", "()Z"⟩, 7) := ⟨⟨by decide +kernel, by decide +kernel⟩, List.mem_of_getElem? (i := 161) (by decide +kernel), List.mem_of_getElem? (i := 676) (by decide +kernel), List.mem_of_getElem? (i := 677) (by decide +kernel)⟩
theorem lw_p17 : lw_okq (⟨"SwingDesk$PutIns", "countFresh", "(I)I"⟩, 7) := ⟨⟨by decide +kernel, by decide +kernel⟩, List.mem_of_getElem? (i := 161) (by decide +kernel), List.mem_of_getElem? (i := 681) (by decide +kernel), List.mem_of_getElem? (i := 682) (by decide +kernel)⟩
theorem lw_p18 : lw_okq (⟨"SwingDesk$PutIns", "addPerson", "(IJ)V"⟩, 7) := ⟨⟨by decide +kernel, by decide +kernel⟩, List.mem_of_getElem? (i := 161) (by decide +kernel), List.mem_of_getElem? (i := 699) (by decide +kernel), List.mem_of_getElem? (i := 700) (by decide +kernel)⟩
theorem lw_p19 : lw_okq (⟨"SwingDesk$PutIns", "staleTracks", "(I)I"⟩, 7) := ⟨⟨by decide +kernel, by decide +kernel⟩, List.mem_of_getElem? (i := 161) (by decide +kernel), List.mem_of_getElem? (i := 703) (by decide +kernel), List.mem_of_getElem? (i := 704) (by decide +kernel)⟩
theorem lw_p20 : lw_okq (⟨"SwingDesk$PutIns", "leastWith", "(IJI)J"⟩, 7) := ⟨⟨by decide +kernel, by decide +kernel⟩, List.mem_of_getElem? (i := 161) (by decide +kernel), List.mem_of_getElem? (i := 708) (by decide +kernel), List.mem_of_getElem? (i := 709) (by decide +kernel)⟩
theorem lw_p21 : lw_okq (⟨"SwingDesk$PutIns", "hasPutIn", "(II)Z"⟩, 7) := ⟨⟨by decide +kernel, by decide +kernel⟩, List.mem_of_getElem? (i := 161) (by decide +kernel), List.mem_of_getElem? (i := 716) (by decide +kernel), List.mem_of_getElem? (i := 717) (by decide +kernel)⟩
theorem lw_p22 : lw_okq (⟨"SwingDesk$PutIns", "leastWorth", "()J"⟩, 7) := ⟨⟨by decide +kernel, by decide +kernel⟩, List.mem_of_getElem? (i := 161) (by decide +kernel), List.mem_of_getElem? (i := 725) (by decide +kernel), List.mem_of_getElem? (i := 726) (by decide +kernel)⟩
theorem lw_p23 : lw_okq (⟨"SwingDeskModel", "isTrack", "(I)Z"⟩, 28) := ⟨⟨by decide +kernel, by decide +kernel⟩, List.mem_of_getElem? (i := 808) (by decide +kernel), List.mem_of_getElem? (i := 913) (by decide +kernel), List.mem_of_getElem? (i := 914) (by decide +kernel)⟩
theorem lw_p24 : lw_okq (⟨"SwingDeskModel", "put", "(IIII)V"⟩, 28) := ⟨⟨by decide +kernel, by decide +kernel⟩, List.mem_of_getElem? (i := 808) (by decide +kernel), List.mem_of_getElem? (i := 921) (by decide +kernel), List.mem_of_getElem? (i := 922) (by decide +kernel)⟩
theorem lw_p25 : lw_okq (⟨"SwingDeskModel", "is", "(II)Z"⟩, 28) := ⟨⟨by decide +kernel, by decide +kernel⟩, List.mem_of_getElem? (i := 808) (by decide +kernel), List.mem_of_getElem? (i := 929) (by decide +kernel), List.mem_of_getElem? (i := 930) (by decide +kernel)⟩
theorem lw_p26 : lw_okq (⟨"SwingDeskModel", "isPerson", "(I)Z"⟩, 28) := ⟨⟨by decide +kernel, by decide +kernel⟩, List.mem_of_getElem? (i := 808) (by decide +kernel), List.mem_of_getElem? (i := 955) (by decide +kernel), List.mem_of_getElem? (i := 956) (by decide +kernel)⟩
theorem lw_p27 : lw_okq (⟨"SwingDeskModel", "isSwing", "(I)Z"⟩, 28) := ⟨⟨by decide +kernel, by decide +kernel⟩, List.mem_of_getElem? (i := 808) (by decide +kernel), List.mem_of_getElem? (i := 959) (by decide +kernel), List.mem_of_getElem? (i := 960) (by decide +kernel)⟩
theorem lw_p28 : lw_okq (⟨"SwingDeskModel", "owner", "(I)I"⟩, 28) := ⟨⟨by decide +kernel, by decide +kernel⟩, List.mem_of_getElem? (i := 808) (by decide +kernel), List.mem_of_getElem? (i := 967) (by decide +kernel), List.mem_of_getElem? (i := 968) (by decide +kernel)⟩
theorem lw_p29 : lw_okq (⟨"SwingDeskModel", "knows", "(II)Z"⟩, 28) := ⟨⟨by decide +kernel, by decide +kernel⟩, List.mem_of_getElem? (i := 808) (by decide +kernel), List.mem_of_getElem? (i := 979) (by decide +kernel), List.mem_of_getElem? (i := 980) (by decide +kernel)⟩
theorem lw_p30 : lw_okq (⟨"SwingDeskModel", "isFresh", "(II)Z"⟩, 28) := ⟨⟨by decide +kernel, by decide +kernel⟩, List.mem_of_getElem? (i := 808) (by decide +kernel), List.mem_of_getElem? (i := 983) (by decide +kernel), List.mem_of_getElem? (i := 984) (by decide +kernel)⟩
theorem lw_p31 : lw_okq (⟨"SwingDeskModel", "tryFrom", "(I)V"⟩, 28) := ⟨⟨by decide +kernel, by decide +kernel⟩, List.mem_of_getElem? (i := 808) (by decide +kernel), List.mem_of_getElem? (i := 1007) (by decide +kernel), List.mem_of_getElem? (i := 1008) (by decide +kernel)⟩
def lw_privs_2 : List (MethodName × Nat) := [(⟨"SwingDesk$PutIns", "readNeeds", "()Z"⟩, 7), (⟨"SwingDesk$PutIns", "countFresh", "(I)I"⟩, 7), (⟨"SwingDesk$PutIns", "addPerson", "(IJ)V"⟩, 7), (⟨"SwingDesk$PutIns", "staleTracks", "(I)I"⟩, 7), (⟨"SwingDesk$PutIns", "leastWith", "(IJI)J"⟩, 7), (⟨"SwingDesk$PutIns", "hasPutIn", "(II)Z"⟩, 7), (⟨"SwingDesk$PutIns", "leastWorth", "()J"⟩, 7), (⟨"SwingDeskModel", "isTrack", "(I)Z"⟩, 28), (⟨"SwingDeskModel", "put", "(IIII)V"⟩, 28), (⟨"SwingDeskModel", "is", "(II)Z"⟩, 28), (⟨"SwingDeskModel", "isPerson", "(I)Z"⟩, 28), (⟨"SwingDeskModel", "isSwing", "(I)Z"⟩, 28), (⟨"SwingDeskModel", "owner", "(I)I"⟩, 28), (⟨"SwingDeskModel", "knows", "(II)Z"⟩, 28), (⟨"SwingDeskModel", "isFresh", "(II)Z"⟩, 28), (⟨"SwingDeskModel", "tryFrom", "(I)V"⟩, 28)]
theorem lw_r2 : ∀ q ∈ lw_privs_2, lw_okq q := List.forall_mem_cons.mpr ⟨lw_p16, List.forall_mem_cons.mpr ⟨lw_p17, List.forall_mem_cons.mpr ⟨lw_p18, List.forall_mem_cons.mpr ⟨lw_p19, List.forall_mem_cons.mpr ⟨lw_p20, List.forall_mem_cons.mpr ⟨lw_p21, List.forall_mem_cons.mpr ⟨lw_p22, List.forall_mem_cons.mpr ⟨lw_p23, List.forall_mem_cons.mpr ⟨lw_p24, List.forall_mem_cons.mpr ⟨lw_p25, List.forall_mem_cons.mpr ⟨lw_p26, List.forall_mem_cons.mpr ⟨lw_p27, List.forall_mem_cons.mpr ⟨lw_p28, List.forall_mem_cons.mpr ⟨lw_p29, List.forall_mem_cons.mpr ⟨lw_p30, List.forall_mem_cons.mpr ⟨lw_p31, fun _ h => absurd h List.not_mem_nil⟩⟩⟩⟩⟩⟩⟩⟩⟩⟩⟩⟩⟩⟩⟩⟩
theorem lw_p32 : lw_okq (⟨"SwingDeskModel", "loss", "()I"⟩, 28) := ⟨⟨by decide +kernel, by decide +kernel⟩, List.mem_of_getElem? (i := 808) (by decide +kernel), List.mem_of_getElem? (i := 1011) (by decide +kernel), List.mem_of_getElem? (i := 1012) (by decide +kernel)⟩
theorem lw_p33 : lw_okq (⟨"SwingDeskModel", "lossOf", "(I)I"⟩, 28) := ⟨⟨by decide +kernel, by decide +kernel⟩, List.mem_of_getElem? (i := 808) (by decide +kernel), List.mem_of_getElem? (i := 1015) (by decide +kernel), List.mem_of_getElem? (i := 1016) (by decide +kernel)⟩
theorem lw_p34 : lw_okq (⟨"SwingDeskModel", "isDone", "(I[I)Z"⟩, 28) := ⟨⟨by decide +kernel, by decide +kernel⟩, List.mem_of_getElem? (i := 808) (by decide +kernel), List.mem_of_getElem? (i := 1019) (by decide +kernel), List.mem_of_getElem? (i := 1020) (by decide +kernel)⟩
theorem lw_p35 : lw_okq (⟨"SwingDeskModel", "isRehearsed", "(II)Z"⟩, 28) := ⟨⟨by decide +kernel, by decide +kernel⟩, List.mem_of_getElem? (i := 808) (by decide +kernel), List.mem_of_getElem? (i := 1023) (by decide +kernel), List.mem_of_getElem? (i := 1024) (by decide +kernel)⟩
theorem lw_p36 : lw_okq (⟨"SwingDeskModel", "fits", "(II)Z"⟩, 28) := ⟨⟨by decide +kernel, by decide +kernel⟩, List.mem_of_getElem? (i := 808) (by decide +kernel), List.mem_of_getElem? (i := 1027) (by decide +kernel), List.mem_of_getElem? (i := 1028) (by decide +kernel)⟩
theorem lw_p37 : lw_okq (⟨"SwingDeskModel", "canHave", "(II)Z"⟩, 28) := ⟨⟨by decide +kernel, by decide +kernel⟩, List.mem_of_getElem? (i := 808) (by decide +kernel), List.mem_of_getElem? (i := 1031) (by decide +kernel), List.mem_of_getElem? (i := 1032) (by decide +kernel)⟩
theorem lw_p38 : lw_okq (⟨"SwingDeskModel", "isInFrom", "(II)Z"⟩, 28) := ⟨⟨by decide +kernel, by decide +kernel⟩, List.mem_of_getElem? (i := 808) (by decide +kernel), List.mem_of_getElem? (i := 1038) (by decide +kernel), List.mem_of_getElem? (i := 1039) (by decide +kernel)⟩
theorem lw_p39 : lw_okq (⟨"SwingDeskModel", "meet", "(II)Z"⟩, 28) := ⟨⟨by decide +kernel, by decide +kernel⟩, List.mem_of_getElem? (i := 808) (by decide +kernel), List.mem_of_getElem? (i := 1042) (by decide +kernel), List.mem_of_getElem? (i := 1043) (by decide +kernel)⟩
theorem lw_p40 : lw_okq (⟨"SwingDeskModel", "isFar", "(III)Z"⟩, 28) := ⟨⟨by decide +kernel, by decide +kernel⟩, List.mem_of_getElem? (i := 808) (by decide +kernel), List.mem_of_getElem? (i := 1046) (by decide +kernel), List.mem_of_getElem? (i := 1047) (by decide +kernel)⟩
theorem lw_p41 : lw_okq (⟨"SwingDeskModel", "areBeside", "(II)Z"⟩, 28) := ⟨⟨by decide +kernel, by decide +kernel⟩, List.mem_of_getElem? (i := 808) (by decide +kernel), List.mem_of_getElem? (i := 1050) (by decide +kernel), List.mem_of_getElem? (i := 1051) (by decide +kernel)⟩
theorem lw_p42 : lw_okq (⟨"SwingDeskModel", "takesOver", "(II)Z"⟩, 28) := ⟨⟨by decide +kernel, by decide +kernel⟩, List.mem_of_getElem? (i := 808) (by decide +kernel), List.mem_of_getElem? (i := 1071) (by decide +kernel), List.mem_of_getElem? (i := 1072) (by decide +kernel)⟩
theorem lw_p43 : lw_okq (⟨"SwingDeskModel", "canTake", "(III)Z"⟩, 28) := ⟨⟨by decide +kernel, by decide +kernel⟩, List.mem_of_getElem? (i := 808) (by decide +kernel), List.mem_of_getElem? (i := 1075) (by decide +kernel), List.mem_of_getElem? (i := 1076) (by decide +kernel)⟩
theorem lw_p44 : lw_okq (⟨"SwingDeskModel", "findPlan", "()I"⟩, 28) := ⟨⟨by decide +kernel, by decide +kernel⟩, List.mem_of_getElem? (i := 808) (by decide +kernel), List.mem_of_getElem? (i := 1087) (by decide +kernel), List.mem_of_getElem? (i := 1088) (by decide +kernel)⟩
theorem lw_p45 : lw_okq (⟨"SwingDeskModel", "mayPut", "(II)Z"⟩, 28) := ⟨⟨by decide +kernel, by decide +kernel⟩, List.mem_of_getElem? (i := 808) (by decide +kernel), List.mem_of_getElem? (i := 1091) (by decide +kernel), List.mem_of_getElem? (i := 1092) (by decide +kernel)⟩
theorem lw_p46 : lw_okq (⟨"SwingDeskModel", "behind", "(II)I"⟩, 28) := ⟨⟨by decide +kernel, by decide +kernel⟩, List.mem_of_getElem? (i := 808) (by decide +kernel), List.mem_of_getElem? (i := 1095) (by decide +kernel), List.mem_of_getElem? (i := 1096) (by decide +kernel)⟩
theorem lw_p47 : lw_okq (⟨"SwingDeskModel", "hours", "(I)I"⟩, 28) := ⟨⟨by decide +kernel, by decide +kernel⟩, List.mem_of_getElem? (i := 808) (by decide +kernel), List.mem_of_getElem? (i := 1099) (by decide +kernel), List.mem_of_getElem? (i := 1100) (by decide +kernel)⟩
def lw_privs_3 : List (MethodName × Nat) := [(⟨"SwingDeskModel", "loss", "()I"⟩, 28), (⟨"SwingDeskModel", "lossOf", "(I)I"⟩, 28), (⟨"SwingDeskModel", "isDone", "(I[I)Z"⟩, 28), (⟨"SwingDeskModel", "isRehearsed", "(II)Z"⟩, 28), (⟨"SwingDeskModel", "fits", "(II)Z"⟩, 28), (⟨"SwingDeskModel", "canHave", "(II)Z"⟩, 28), (⟨"SwingDeskModel", "isInFrom", "(II)Z"⟩, 28), (⟨"SwingDeskModel", "meet", "(II)Z"⟩, 28), (⟨"SwingDeskModel", "isFar", "(III)Z"⟩, 28), (⟨"SwingDeskModel", "areBeside", "(II)Z"⟩, 28), (⟨"SwingDeskModel", "takesOver", "(II)Z"⟩, 28), (⟨"SwingDeskModel", "canTake", "(III)Z"⟩, 28), (⟨"SwingDeskModel", "findPlan", "()I"⟩, 28), (⟨"SwingDeskModel", "mayPut", "(II)Z"⟩, 28), (⟨"SwingDeskModel", "behind", "(II)I"⟩, 28), (⟨"SwingDeskModel", "hours", "(I)I"⟩, 28)]
theorem lw_r3 : ∀ q ∈ lw_privs_3, lw_okq q := List.forall_mem_cons.mpr ⟨lw_p32, List.forall_mem_cons.mpr ⟨lw_p33, List.forall_mem_cons.mpr ⟨lw_p34, List.forall_mem_cons.mpr ⟨lw_p35, List.forall_mem_cons.mpr ⟨lw_p36, List.forall_mem_cons.mpr ⟨lw_p37, List.forall_mem_cons.mpr ⟨lw_p38, List.forall_mem_cons.mpr ⟨lw_p39, List.forall_mem_cons.mpr ⟨lw_p40, List.forall_mem_cons.mpr ⟨lw_p41, List.forall_mem_cons.mpr ⟨lw_p42, List.forall_mem_cons.mpr ⟨lw_p43, List.forall_mem_cons.mpr ⟨lw_p44, List.forall_mem_cons.mpr ⟨lw_p45, List.forall_mem_cons.mpr ⟨lw_p46, List.forall_mem_cons.mpr ⟨lw_p47, fun _ h => absurd h List.not_mem_nil⟩⟩⟩⟩⟩⟩⟩⟩⟩⟩⟩⟩⟩⟩⟩⟩
def lw_privs : List (MethodName × Nat) := lw_privs_1 ++ (lw_privs_2 ++ (lw_privs_3))
def lw_tbl : List Cond := k2_sels lw_privs ++ tables_1
theorem lw_privs_ok : ∀ q ∈ lw_privs, lw_okq q := by
  show ∀ q ∈ lw_privs_1 ++ (lw_privs_2 ++ (lw_privs_3)), lw_okq q
  exact List.forall_mem_append.mpr ⟨lw_r1, List.forall_mem_append.mpr ⟨lw_r2, lw_r3⟩⟩
end
section
/-! the abstract heap: cells by their number; a reference k+1 stands for cell k, reference 0 for the law's own script -/
abbrev gAE : Type := (FieldType × vp_A) ⊕ (Nat × List Value)
abbrev gAH : Type := List gAE
def gRV (sg : List Nat) (v v' : Value) : Prop := match v with
  | .ref k => ∃ a : Nat, sg[k]? = some a ∧ v' = .ref a
  | w => v' = w
def gRS (sg : List Nat) : List Value → List Value → Prop
  | [], [] => True
  | v :: S, v' :: S' => gRV sg v v' ∧ gRS sg S S'
  | _, _ => False
def gRP (sg : List Nat) : List (Nat × Value) → List (Nat × Value) → Prop
  | [], [] => True
  | q :: L, q' :: L' => (q'.1 = q.1 ∧ gRV sg q.2 q'.2) ∧ gRP sg L L'
  | _, _ => False
def gRO (sg : List Nat) (r r' : Option Nat) : Prop := match r with
  | none => r' = none
  | some k => ∃ a : Nat, sg[k]? = some a ∧ r' = some a
def gRA (sg : List Nat) (a a' : (Nat → Int32) ⊕ (Nat → Int64) ⊕ (Nat → UInt32) ⊕ (Nat → UInt64) ⊕ (Nat → Option Nat)) : Prop := match a with
  | .inr (.inr (.inr (.inr f))) => ∃ f' : Nat → Option Nat, a' = .inr (.inr (.inr (.inr f'))) ∧ ∀ i, gRO sg (f i) (f' i)
  | x => a' = x
def gRE (U : State) (sg : List Nat) (x : gAE) (e : va_E) : Prop := match x with
  | .inl q => ∃ (cA : ClassId) (a' : (Nat → Int32) ⊕ (Nat → Int64) ⊕ (Nat → UInt32) ⊕ (Nat → UInt64) ⊕ (Nat → Option Nat)), e = .inl (cA, q.2.1, a') ∧ ArrOfT U cA q.1 ∧ va_RA U cA q.1 ∧ gRA sg q.2.2 a'
  | .inr q => ∃ fs' : List Value, e = .inr (q.1, fs') ∧ gRS sg q.2 fs'
def gRH (U : State) (sg : List Nat) (h : gAH) (ws : va_W) : Prop := h.length = ws.length ∧ ∀ (k : Nat) (x : gAE), h[k]? = some x → ∃ (a : Nat) (e : va_E), ws[k]? = some (a, e) ∧ gRE U sg x e
def gROV (sg : List Nat) (v v' : Option Value) : Prop := match v with
  | none => v' = none
  | some w => ∃ w', v' = some w' ∧ gRV sg w w'
theorem gRV_cat {sg : List Nat} {v v' : Value} (h : gRV sg v v') : v'.category = v.category := by
  cases v <;> first | (obtain ⟨a, -, rfl⟩ := h; rfl) | (cases h; rfl)
theorem gRV_mono {sg t : List Nat} {v v' : Value} (h : gRV sg v v') : gRV (sg ++ t) v v' := by
  cases v with
  | ref k =>
    obtain ⟨a, h1, h2⟩ := h
    exact ⟨a, by rw [List.getElem?_append_left (List.getElem?_eq_some_iff.mp h1).1]; exact h1, h2⟩
  | _ => exact h
theorem gRO_mono {sg t : List Nat} {v v' : Option Nat} (h : gRO sg v v') : gRO (sg ++ t) v v' := by
  cases v with
  | some k =>
    obtain ⟨a, h1, h2⟩ := h
    exact ⟨a, by rw [List.getElem?_append_left (List.getElem?_eq_some_iff.mp h1).1]; exact h1, h2⟩
  | none => exact h
theorem gRS_mono {sg t : List Nat} : ∀ {S S' : List Value}, gRS sg S S' → gRS (sg ++ t) S S'
  | [], [], _ => trivial
  | _ :: _, _ :: _, h => ⟨gRV_mono h.1, gRS_mono h.2⟩
  | [], _ :: _, h => h.elim
  | _ :: _, [], h => h.elim
theorem gRP_mono {sg t : List Nat} : ∀ {S S' : List (Nat × Value)}, gRP sg S S' → gRP (sg ++ t) S S'
  | [], [], _ => trivial
  | _ :: _, _ :: _, h => ⟨⟨h.1.1, gRV_mono h.1.2⟩, gRP_mono h.2⟩
  | [], _ :: _, h => h.elim
  | _ :: _, [], h => h.elim
theorem gRA_mono {sg t : List Nat} {a a' : (Nat → Int32) ⊕ (Nat → Int64) ⊕ (Nat → UInt32) ⊕ (Nat → UInt64) ⊕ (Nat → Option Nat)} (h : gRA sg a a') : gRA (sg ++ t) a a' := by
  rcases a with f | f | f | f | f
  · exact h
  · exact h
  · exact h
  · exact h
  · obtain ⟨f', h1, h2⟩ := h
    exact ⟨f', h1, fun i => gRO_mono (h2 i)⟩
theorem gRE_mono {U : State} {sg t : List Nat} {x : gAE} {e : va_E} (h : gRE U sg x e) : gRE U (sg ++ t) x e := by
  rcases x with q | q
  · obtain ⟨cA, a', h1, h2, h3, h4⟩ := h
    exact ⟨cA, a', h1, h2, h3, gRA_mono h4⟩
  · obtain ⟨fs', h1, h2⟩ := h
    exact ⟨fs', h1, gRS_mono h2⟩
theorem gRE_moved {u U : State} (hvm : u.vm.Alike U.vm) {sg : List Nat} {x : gAE} {e : va_E} (h : gRE u sg x e) : gRE U sg x e := by
  rcases x with q | q
  · obtain ⟨cA, a', h1, h2, h3, h4⟩ := h
    exact ⟨cA, a', h1, arrOfT_moved hvm h2, h3.moved hvm, h4⟩
  · exact h
theorem gRH_moved {u U : State} (hvm : u.vm.Alike U.vm) {sg : List Nat} {h : gAH} {ws : va_W} (hh : gRH u sg h ws) : gRH U sg h ws :=
  ⟨hh.1, fun k x hk => by obtain ⟨a, e, h1, h2⟩ := hh.2 k x hk; exact ⟨a, e, h1, gRE_moved hvm h2⟩⟩
theorem gRS_cons {sg : List Nat} {v : Value} {S S' : List Value} (h : gRS sg (v :: S) S') : ∃ (v' : Value) (S1 : List Value), S' = v' :: S1 ∧ gRV sg v v' ∧ gRS sg S S1 := by
  cases S' with
  | nil => exact h.elim
  | cons v' S1 => exact ⟨v', S1, rfl, h.1, h.2⟩
theorem gRS_nil {sg : List Nat} {S' : List Value} (h : gRS sg [] S') : S' = [] := by
  cases S' with
  | nil => rfl
  | cons v' S1 => exact h.elim
theorem gRS_int {sg : List Nat} {x : Int32} {S S' : List Value} (h : gRS sg (.int x :: S) S') : ∃ S1 : List Value, S' = .int x :: S1 ∧ gRS sg S S1 := by
  obtain ⟨v', S1, rfl, h1, h2⟩ := gRS_cons h
  cases h1
  exact ⟨S1, rfl, h2⟩
theorem gRS_long {sg : List Nat} {x : Int64} {S S' : List Value} (h : gRS sg (.long x :: S) S') : ∃ S1 : List Value, S' = .long x :: S1 ∧ gRS sg S S1 := by
  obtain ⟨v', S1, rfl, h1, h2⟩ := gRS_cons h
  cases h1
  exact ⟨S1, rfl, h2⟩
theorem gRS_null {sg : List Nat} {S S' : List Value} (h : gRS sg (.null :: S) S') : ∃ S1 : List Value, S' = .null :: S1 ∧ gRS sg S S1 := by
  obtain ⟨v', S1, rfl, h1, h2⟩ := gRS_cons h
  cases h1
  exact ⟨S1, rfl, h2⟩
theorem gRS_ref {sg : List Nat} {k : Nat} {S S' : List Value} (h : gRS sg (.ref k :: S) S') : ∃ (a : Nat) (S1 : List Value), sg[k]? = some a ∧ S' = .ref a :: S1 ∧ gRS sg S S1 := by
  obtain ⟨v', S1, rfl, ⟨a, h1, rfl⟩, h2⟩ := gRS_cons h
  exact ⟨a, S1, h1, rfl, h2⟩
theorem gRS_app {sg : List Nat} : ∀ {S S' T T' : List Value}, gRS sg S S' → gRS sg T T' → gRS sg (S ++ T) (S' ++ T')
  | [], [], _, _, _, h2 => h2
  | _ :: _, _ :: _, _, _, h, h2 => ⟨h.1, gRS_app h.2 h2⟩
  | [], _ :: _, _, _, h, _ => h.elim
  | _ :: _, [], _, _, h, _ => h.elim
theorem gRS_split {sg : List Nat} : ∀ {S T X : List Value}, gRS sg (S ++ T) X → ∃ S' T' : List Value, X = S' ++ T' ∧ gRS sg S S' ∧ gRS sg T T'
  | [], _, X, h => ⟨[], X, rfl, trivial, h⟩
  | v :: S, T, X, h => by
    obtain ⟨v', X1, rfl, h1, h2⟩ := gRS_cons (S := S ++ T) h
    obtain ⟨S', T', rfl, h3, h4⟩ := gRS_split h2
    exact ⟨v' :: S', T', rfl, ⟨h1, h3⟩, h4⟩
theorem gRS_rev {sg : List Nat} : ∀ {S S' : List Value}, gRS sg S S' → gRS sg S.reverse S'.reverse
  | [], [], _ => trivial
  | v :: S, v' :: S', h => by
    rw [List.reverse_cons, List.reverse_cons]
    exact gRS_app (gRS_rev h.2) ⟨h.1, trivial⟩
  | [], _ :: _, h => h.elim
  | _ :: _, [], h => h.elim
theorem gRS_len {sg : List Nat} : ∀ {S S' : List Value}, gRS sg S S' → S'.length = S.length
  | [], [], _ => rfl
  | _ :: _, _ :: _, h => by simp [gRS_len h.2]
  | [], _ :: _, h => h.elim
  | _ :: _, [], h => h.elim
theorem gRS_cat {sg : List Nat} : ∀ {S S' : List Value}, gRS sg S S' → S'.map (fun v => v.category) = S.map (fun v => v.category)
  | [], [], _ => rfl
  | _ :: _, _ :: _, h => by simp [gRS_cat h.2, gRV_cat h.1]
  | [], _ :: _, h => h.elim
  | _ :: _, [], h => h.elim
theorem gRS_get {sg : List Nat} : ∀ {S S' : List Value}, gRS sg S S' → ∀ {i : Nat} {v : Value}, S[i]? = some v → ∃ v', S'[i]? = some v' ∧ gRV sg v v'
  | [], [], _, i, v, h => by simp at h
  | v :: S, v' :: S', h, 0, w, hw => by
    simp at hw
    subst hw
    exact ⟨v', by simp, h.1⟩
  | v :: S, v' :: S', h, i + 1, w, hw => by
    simp at hw
    obtain ⟨w', h1, h2⟩ := gRS_get h.2 hw
    exact ⟨w', by simpa using h1, h2⟩
  | [], _ :: _, h, _, _, _ => h.elim
  | _ :: _, [], h, _, _, _ => h.elim
theorem gRS_set {sg : List Nat} {w w' : Value} (hw : gRV sg w w') : ∀ {S S' : List Value}, gRS sg S S' → ∀ (i : Nat), gRS sg (S.set i w) (S'.set i w')
  | [], [], _, i => by simp [gRS]
  | v :: S, v' :: S', h, 0 => ⟨hw, h.2⟩
  | v :: S, v' :: S', h, i + 1 => ⟨h.1, gRS_set hw h.2 i⟩
  | [], _ :: _, h, _ => h.elim
  | _ :: _, [], h, _ => h.elim
theorem gRP_get {sg : List Nat} : ∀ {S S' : List (Nat × Value)}, gRP sg S S' → ∀ {i : Nat} {q : Nat × Value}, S[i]? = some q → ∃ v', S'[i]? = some (q.1, v') ∧ gRV sg q.2 v'
  | [], [], _, i, v, h => by simp at h
  | v :: S, v' :: S', h, 0, w, hw => by
    simp at hw
    subst hw
    exact ⟨v'.2, by rw [← h.1.1]; simp, h.1.2⟩
  | v :: S, v' :: S', h, i + 1, w, hw => by
    simp at hw
    obtain ⟨w', h1, h2⟩ := gRP_get h.2 hw
    exact ⟨w', by simpa using h1, h2⟩
  | [], _ :: _, h, _, _, _ => h.elim
  | _ :: _, [], h, _, _, _ => h.elim
theorem gRP_none {sg : List Nat} : ∀ {S S' : List (Nat × Value)}, gRP sg S S' → S'.length = S.length
  | [], [], _ => rfl
  | _ :: _, _ :: _, h => by simp [gRP_none h.2]
  | [], _ :: _, h => h.elim
  | _ :: _, [], h => h.elim
theorem gRP_filter {sg : List Nat} {f : Nat × Value → Bool} (hf : ∀ q q' : Nat × Value, q'.1 = q.1 → q'.2.category = q.2.category → f q' = f q) : ∀ {S S' : List (Nat × Value)}, gRP sg S S' → gRP sg (S.filter f) (S'.filter f)
  | [], [], _ => trivial
  | v :: S, v' :: S', h => by
    have e := hf v v' h.1.1 (gRV_cat h.1.2)
    rw [List.filter_cons, List.filter_cons, e]
    cases f v with
    | true => exact ⟨h.1, gRP_filter hf h.2⟩
    | false => exact gRP_filter hf h.2
  | [], _ :: _, h => h.elim
  | _ :: _, [], h => h.elim
theorem gRP_pick {sg : List Nat} {S S' : List (Nat × Value)} (h : gRP sg S S') : ∀ ks : List Nat, gRP sg (lv_pick S ks) (lv_pick S' ks)
  | [] => trivial
  | k :: ks => by
    have ih := gRP_pick h ks
    unfold lv_pick at ih ⊢
    rw [List.filterMap_cons, List.filterMap_cons]
    cases hk : S[k]? with
    | none =>
      have : S'[k]? = none := by
        rw [List.getElem?_eq_none_iff] at hk ⊢
        rw [gRP_none h]
        exact hk
      rw [this]
      exact ih
    | some q =>
      obtain ⟨v', h1, h2⟩ := gRP_get h hk
      rw [h1]
      exact ⟨⟨rfl, h2⟩, ih⟩
theorem gRP_args {sg : List Nat} : ∀ {S S' : List Value}, gRS sg S S' → ∀ i : Nat, gRP sg (lv_args i S) (lv_args i S')
  | [], [], _, _ => trivial
  | v :: S, v' :: S', h, i => by
    unfold lv_args
    rw [gRV_cat h.1]
    exact ⟨⟨rfl, h.1⟩, gRP_args h.2 _⟩
  | [], _ :: _, h, _ => h.elim
  | _ :: _, [], h, _ => h.elim
theorem gRS_sl {sg : List Nat} : ∀ {S S' : List Value}, gRS sg S S' → (lg_sl S').length = (lg_sl S).length
  | [], [], _ => rfl
  | v :: S, v' :: S', h => by
    have ih := gRS_sl h.2
    unfold lg_sl at ih ⊢
    rw [List.flatMap_cons, List.flatMap_cons, List.length_append, List.length_append, ih, gRV_cat h.1]
    split <;> rfl
  | [], _ :: _, h => h.elim
  | _ :: _, [], h => h.elim
/-! the world behind a store or a new cell -/
theorem gmap_set {ws : va_W} {k a : Nat} {e e' : va_E} (h : ws[k]? = some (a, e)) : (ws.set k (a, e')).map Prod.fst = ws.map Prod.fst := by
  apply List.ext_getElem?
  intro i
  rw [List.getElem?_map, List.getElem?_map, List.getElem?_set]
  split
  · rename_i hi
    subst hi
    rw [if_pos (List.getElem?_eq_some_iff.mp h).1, h]
    rfl
  · rfl
theorem gRH_set {U : State} {b k a : Nat} {h : gAH} {ws : va_W} {x : gAE} {e e' : va_E} (hh : gRH U (b :: ws.map Prod.fst) h ws) (hk : ws[k]? = some (a, e)) (hx : gRE U (b :: ws.map Prod.fst) x e') : gRH U (b :: (ws.set k (a, e')).map Prod.fst) (h.set k x) (ws.set k (a, e')) := by
  rw [gmap_set hk]
  refine ⟨by simp [hh.1], fun i y hy => ?_⟩
  rw [List.getElem?_set] at hy ⊢
  by_cases hi : k = i
  · subst hi
    rw [if_pos rfl] at hy ⊢
    have hl := (List.getElem?_eq_some_iff.mp hk).1
    rw [if_pos (by rw [hh.1]; exact hl)] at hy
    rw [if_pos hl]
    cases hy
    exact ⟨a, e', rfl, hx⟩
  · rw [if_neg hi] at hy ⊢
    exact hh.2 i y hy
theorem gRH_push {U : State} {b q : Nat} {h : gAH} {ws : va_W} {x : gAE} {e : va_E} (hh : gRH U (b :: ws.map Prod.fst) h ws) (hx : gRE U (b :: (ws ++ [(q, e)]).map Prod.fst) x e) : gRH U (b :: (ws ++ [(q, e)]).map Prod.fst) (h ++ [x]) (ws ++ [(q, e)]) := by
  refine ⟨by simp [hh.1], fun i y hy => ?_⟩
  have es : b :: (ws ++ [(q, e)]).map Prod.fst = (b :: ws.map Prod.fst) ++ [q] := by simp
  by_cases hi : i < h.length
  · rw [List.getElem?_append_left hi] at hy
    obtain ⟨a, e1, h1, h2⟩ := hh.2 i y hy
    refine ⟨a, e1, ?_, ?_⟩
    · rw [List.getElem?_append_left (by rw [← hh.1]; exact hi)]
      exact h1
    · rw [es]
      exact gRE_mono h2
  · rw [List.getElem?_append_right (by omega)] at hy
    have hz : i - h.length < 1 := (List.getElem?_eq_some_iff.mp hy).1
    have hz0 : i - h.length = 0 := by omega
    rw [hz0] at hy
    cases hy
    refine ⟨q, e, ?_, hx⟩
    rw [List.getElem?_append_right (by rw [← hh.1]; omega), ← hh.1, hz0]
    rfl
/-- a reference to a cell of the heap: its address -/
theorem gRH_at {U : State} {b k a : Nat} {h : gAH} {ws : va_W} {x : gAE} (hh : gRH U (b :: ws.map Prod.fst) h ws) (hx : h[k]? = some x) (ha : (b :: ws.map Prod.fst)[k + 1]? = some a) : ∃ e : va_E, ws[k]? = some (a, e) ∧ gRE U (b :: ws.map Prod.fst) x e := by
  obtain ⟨a1, e, h1, h2⟩ := hh.2 k x hx
  rw [List.getElem?_cons_succ, List.getElem?_map, h1] at ha
  cases ha
  exact ⟨e, h1, h2⟩
end
section
/-! classes: their fields in the order of the slots -/
def gR_CastSearch : String := "SwingDesk$CastSearch"
def gF_CastSearch : u_T := fun k => match k with
  | 0 => ("SwingDesk$CastSearch", "show", "LSwingDesk$Show;", true)
  | 1 => ("SwingDesk$CastSearch", "company", "LSwingDesk$Company;", true)
  | 2 => ("SwingDesk$CastSearch", "able", "[I", true)
  | 3 => ("SwingDesk$CastSearch", "oneApart", "[I", true)
  | 4 => ("SwingDesk$CastSearch", "foesApart", "[I", true)
  | 5 => ("SwingDesk$CastSearch", "cutLosses", "[I", true)
  | 6 => ("SwingDesk$CastSearch", "coverLosses", "[I", true)
  | 7 => ("SwingDesk$CastSearch", "lifts", "[I", true)
  | 8 => ("SwingDesk$CastSearch", "put", "[I", true)
  | 9 => ("SwingDesk$CastSearch", "held", "[I", true)
  | 10 => ("SwingDesk$CastSearch", "best", "[I", true)
  | 11 => ("SwingDesk$CastSearch", "bestLoss", "I", false)
  | 12 => ("SwingDesk$CastSearch", "triesLeft", "I", false)
  | _ => ("SwingDesk$CastSearch", "isSpent", "Z", false)
def gt_CastSearch : Nat → FieldType := fun k => match k with
  | 0 => .object "SwingDesk$Show"
  | 1 => .object "SwingDesk$Company"
  | 2 => .array .int
  | 3 => .array .int
  | 4 => .array .int
  | 5 => .array .int
  | 6 => .array .int
  | 7 => .array .int
  | 8 => .array .int
  | 9 => .array .int
  | 10 => .array .int
  | 11 => .int
  | 12 => .int
  | _ => .boolean
def gR_Company : String := "SwingDesk$Company"
def gF_Company : u_T := fun k => match k with
  | 0 => ("SwingDesk$Company", "people", "I", false)
  | 1 => ("SwingDesk$Company", "today", "I", false)
  | 2 => ("SwingDesk$Company", "kinds", "[I", true)
  | 3 => ("SwingDesk$Company", "sizes", "[I", true)
  | 4 => ("SwingDesk$Company", "owned", "[I", true)
  | 5 => ("SwingDesk$Company", "didOn", "[I", true)
  | 6 => ("SwingDesk$Company", "rehearsedOn", "[I", true)
  | 7 => ("SwingDesk$Company", "foes", "[I", true)
  | _ => ("SwingDesk$Company", "outFrom", "[I", true)
def gt_Company : Nat → FieldType := fun k => match k with
  | 0 => .int
  | 1 => .int
  | 2 => .array .int
  | 3 => .array .int
  | 4 => .array .int
  | 5 => .array .int
  | 6 => .array .int
  | 7 => .array .int
  | _ => .array .int
def gR_Night : String := "SwingDesk$Night"
def gF_Night : u_T := fun k => match k with
  | 0 => ("SwingDesk$Night", "show", "LSwingDesk$Show;", true)
  | 1 => ("SwingDesk$Night", "company", "LSwingDesk$Company;", true)
  | 2 => ("SwingDesk$Night", "hasCast", "Z", false)
  | 3 => ("SwingDesk$Night", "cast", "[I", true)
  | _ => ("SwingDesk$Night", "holders", "[I", true)
def gt_Night : Nat → FieldType := fun k => match k with
  | 0 => .object "SwingDesk$Show"
  | 1 => .object "SwingDesk$Company"
  | 2 => .boolean
  | 3 => .array .int
  | _ => .array .int
def gR_PutIns : String := "SwingDesk$PutIns"
def gF_PutIns : u_T := fun k => match k with
  | 0 => ("SwingDesk$PutIns", "show", "LSwingDesk$Show;", true)
  | 1 => ("SwingDesk$PutIns", "company", "LSwingDesk$Company;", true)
  | 2 => ("SwingDesk$PutIns", "needs", "[I", true)
  | 3 => ("SwingDesk$PutIns", "steps", "[I", true)
  | 4 => ("SwingDesk$PutIns", "hours", "[I", true)
  | 5 => ("SwingDesk$PutIns", "worths", "[J", true)
  | _ => ("SwingDesk$PutIns", "states", "I", false)
def gt_PutIns : Nat → FieldType := fun k => match k with
  | 0 => .object "SwingDesk$Show"
  | 1 => .object "SwingDesk$Company"
  | 2 => .array .int
  | 3 => .array .int
  | 4 => .array .int
  | 5 => .array .long
  | _ => .int
def gR_Sheet : String := "SwingDesk$Sheet"
def gF_Sheet : u_T := fun k => match k with
  | 0 => ("SwingDesk$Sheet", "length", "I", false)
  | _ => ("SwingDesk$Sheet", "row", "[B", true)
def gt_Sheet : Nat → FieldType := fun k => match k with
  | 0 => .int
  | _ => .array .byte
def gR_Show : String := "SwingDesk$Show"
def gF_Show : u_T := fun k => match k with
  | 0 => ("SwingDesk$Show", "tracks", "I", false)
  | 1 => ("SwingDesk$Show", "dresses", "[I", true)
  | 2 => ("SwingDesk$Show", "places", "[I", true)
  | 3 => ("SwingDesk$Show", "musts", "[I", true)
  | 4 => ("SwingDesk$Show", "lifters", "[I", true)
  | _ => ("SwingDesk$Show", "lifted", "[I", true)
def gt_Show : Nat → FieldType := fun k => match k with
  | 0 => .int
  | 1 => .array .int
  | 2 => .array .int
  | 3 => .array .int
  | 4 => .array .int
  | _ => .array .int
def gR_SwingDesk : String := "SwingDesk"
def gF_SwingDesk : u_T := fun k => match k with
  | 0 => ("SwingDesk", "show", "LSwingDesk$Show;", true)
  | 1 => ("SwingDesk", "company", "LSwingDesk$Company;", true)
  | 2 => ("SwingDesk", "night", "LSwingDesk$Night;", true)
  | 3 => ("SwingDesk", "search", "LSwingDesk$CastSearch;", true)
  | 4 => ("SwingDesk", "putIns", "LSwingDesk$PutIns;", true)
  | _ => ("SwingDesk", "sheets", "[LSwingDesk$Sheet;", true)
def gt_SwingDesk : Nat → FieldType := fun k => match k with
  | 0 => .object "SwingDesk$Show"
  | 1 => .object "SwingDesk$Company"
  | 2 => .object "SwingDesk$Night"
  | 3 => .object "SwingDesk$CastSearch"
  | 4 => .object "SwingDesk$PutIns"
  | _ => .array (.object "SwingDesk$Sheet")
def gR_SwingDeskModel : String := "SwingDeskModel"
def gF_SwingDeskModel : u_T := fun k => match k with
  | 0 => ("SwingDeskModel", "tracks", "I", false)
  | 1 => ("SwingDeskModel", "dress", "[I", true)
  | 2 => ("SwingDeskModel", "place", "[I", true)
  | 3 => ("SwingDeskModel", "must", "[I", true)
  | 4 => ("SwingDeskModel", "lifts", "[I", true)
  | 5 => ("SwingDeskModel", "lifted", "[I", true)
  | 6 => ("SwingDeskModel", "people", "I", false)
  | 7 => ("SwingDeskModel", "kind", "[I", true)
  | 8 => ("SwingDeskModel", "size", "[I", true)
  | 9 => ("SwingDeskModel", "owns", "[I", true)
  | 10 => ("SwingDeskModel", "done", "[I", true)
  | 11 => ("SwingDeskModel", "rehearsed", "[I", true)
  | 12 => ("SwingDeskModel", "feuds", "[I", true)
  | 13 => ("SwingDeskModel", "outs", "[I", true)
  | 14 => ("SwingDeskModel", "today", "I", false)
  | 15 => ("SwingDeskModel", "hasCast", "Z", false)
  | 16 => ("SwingDeskModel", "cast", "[I", true)
  | 17 => ("SwingDeskModel", "holders", "[I", true)
  | 18 => ("SwingDeskModel", "places", "[I", true)
  | 19 => ("SwingDeskModel", "numbers", "[I", true)
  | 20 => ("SwingDeskModel", "trial", "[I", true)
  | 21 => ("SwingDeskModel", "best", "[I", true)
  | 22 => ("SwingDeskModel", "bestLoss", "I", false)
  | 23 => ("SwingDeskModel", "triesLeft", "I", false)
  | 24 => ("SwingDeskModel", "isSpent", "Z", false)
  | 25 => ("SwingDeskModel", "least", "[I", true)
  | 26 => ("SwingDeskModel", "power", "[I", true)
  | _ => ("SwingDeskModel", "carried", "[I", true)
def gt_SwingDeskModel : Nat → FieldType := fun k => match k with
  | 0 => .int
  | 1 => .array .int
  | 2 => .array .int
  | 3 => .array .int
  | 4 => .array .int
  | 5 => .array .int
  | 6 => .int
  | 7 => .array .int
  | 8 => .array .int
  | 9 => .array .int
  | 10 => .array .int
  | 11 => .array .int
  | 12 => .array .int
  | 13 => .array .int
  | 14 => .int
  | 15 => .boolean
  | 16 => .array .int
  | 17 => .array .int
  | 18 => .array .int
  | 19 => .array .int
  | 20 => .array .int
  | 21 => .array .int
  | 22 => .int
  | 23 => .int
  | 24 => .boolean
  | 25 => .array .int
  | 26 => .array .int
  | _ => .array .int
abbrev gcl : List vw_C := [(gR_CastSearch, gF_CastSearch, 14), (gR_Company, gF_Company, 9), (gR_Night, gF_Night, 5), (gR_PutIns, gF_PutIns, 7), (gR_Sheet, gF_Sheet, 2), (gR_Show, gF_Show, 6), (gR_SwingDesk, gF_SwingDesk, 6), (gR_SwingDeskModel, gF_SwingDeskModel, 28)]
def gT : List Cond := lw_tbl.filter goodWord
theorem gT_of {i : Nat} {w : Cond} (h : lw_tbl[i]? = some w) (hg : goodWord w = true) : w ∈ gT := List.mem_filter.mpr ⟨List.mem_of_getElem? h, hg⟩
theorem gn_CastSearch : ∀ a, a < 14 → ∀ b, b < 14 → a ≠ b → (gF_CastSearch a).2.1 ≠ (gF_CastSearch b).2.1 := by decide +kernel
theorem gty_CastSearch : ∀ k, k < 14 → parseFieldDescriptor (gF_CastSearch k).2.2.1 = some (gt_CastSearch k) := by decide +kernel
theorem gl_CastSearch : ∀ k, k < 14 → lw_tbl[([179, 181, 183, 185, 187, 189, 191, 193, 195, 197, 199, 201, 203, 205] : List Nat).getD k 0]? = some (u_lay gR_CastSearch gF_CastSearch k) ∧ goodWord (u_lay gR_CastSearch gF_CastSearch k) = true := by decide +kernel
theorem gi_CastSearch : ∀ w ∈ u_ws gR_CastSearch gF_CastSearch 14, w ∈ gT := by
  intro w hw
  obtain ⟨k, hk, rfl⟩ := List.mem_map.mp hw
  obtain ⟨h1, h2⟩ := gl_CastSearch k (List.mem_range.mp hk)
  exact gT_of h1 h2
theorem gn_Company : ∀ a, a < 9 → ∀ b, b < 9 → a ≠ b → (gF_Company a).2.1 ≠ (gF_Company b).2.1 := by decide +kernel
theorem gty_Company : ∀ k, k < 9 → parseFieldDescriptor (gF_Company k).2.2.1 = some (gt_Company k) := by decide +kernel
theorem gl_Company : ∀ k, k < 9 → lw_tbl[([116, 118, 120, 122, 124, 126, 128, 130, 132] : List Nat).getD k 0]? = some (u_lay gR_Company gF_Company k) ∧ goodWord (u_lay gR_Company gF_Company k) = true := by decide +kernel
theorem gi_Company : ∀ w ∈ u_ws gR_Company gF_Company 9, w ∈ gT := by
  intro w hw
  obtain ⟨k, hk, rfl⟩ := List.mem_map.mp hw
  obtain ⟨h1, h2⟩ := gl_Company k (List.mem_range.mp hk)
  exact gT_of h1 h2
theorem gn_Night : ∀ a, a < 5 → ∀ b, b < 5 → a ≠ b → (gF_Night a).2.1 ≠ (gF_Night b).2.1 := by decide +kernel
theorem gty_Night : ∀ k, k < 5 → parseFieldDescriptor (gF_Night k).2.2.1 = some (gt_Night k) := by decide +kernel
theorem gl_Night : ∀ k, k < 5 → lw_tbl[([148, 150, 152, 154, 156] : List Nat).getD k 0]? = some (u_lay gR_Night gF_Night k) ∧ goodWord (u_lay gR_Night gF_Night k) = true := by decide +kernel
theorem gi_Night : ∀ w ∈ u_ws gR_Night gF_Night 5, w ∈ gT := by
  intro w hw
  obtain ⟨k, hk, rfl⟩ := List.mem_map.mp hw
  obtain ⟨h1, h2⟩ := gl_Night k (List.mem_range.mp hk)
  exact gT_of h1 h2
theorem gn_PutIns : ∀ a, a < 7 → ∀ b, b < 7 → a ≠ b → (gF_PutIns a).2.1 ≠ (gF_PutIns b).2.1 := by decide +kernel
theorem gty_PutIns : ∀ k, k < 7 → parseFieldDescriptor (gF_PutIns k).2.2.1 = some (gt_PutIns k) := by decide +kernel
theorem gl_PutIns : ∀ k, k < 7 → lw_tbl[([221, 223, 225, 227, 229, 231, 233] : List Nat).getD k 0]? = some (u_lay gR_PutIns gF_PutIns k) ∧ goodWord (u_lay gR_PutIns gF_PutIns k) = true := by decide +kernel
theorem gi_PutIns : ∀ w ∈ u_ws gR_PutIns gF_PutIns 7, w ∈ gT := by
  intro w hw
  obtain ⟨k, hk, rfl⟩ := List.mem_map.mp hw
  obtain ⟨h1, h2⟩ := gl_PutIns k (List.mem_range.mp hk)
  exact gT_of h1 h2
theorem gn_Sheet : ∀ a, a < 2 → ∀ b, b < 2 → a ≠ b → (gF_Sheet a).2.1 ≠ (gF_Sheet b).2.1 := by decide +kernel
theorem gty_Sheet : ∀ k, k < 2 → parseFieldDescriptor (gF_Sheet k).2.2.1 = some (gt_Sheet k) := by decide +kernel
theorem gl_Sheet : ∀ k, k < 2 → lw_tbl[([246, 248] : List Nat).getD k 0]? = some (u_lay gR_Sheet gF_Sheet k) ∧ goodWord (u_lay gR_Sheet gF_Sheet k) = true := by decide +kernel
theorem gi_Sheet : ∀ w ∈ u_ws gR_Sheet gF_Sheet 2, w ∈ gT := by
  intro w hw
  obtain ⟨k, hk, rfl⟩ := List.mem_map.mp hw
  obtain ⟨h1, h2⟩ := gl_Sheet k (List.mem_range.mp hk)
  exact gT_of h1 h2
theorem gn_Show : ∀ a, a < 6 → ∀ b, b < 6 → a ≠ b → (gF_Show a).2.1 ≠ (gF_Show b).2.1 := by decide +kernel
theorem gty_Show : ∀ k, k < 6 → parseFieldDescriptor (gF_Show k).2.2.1 = some (gt_Show k) := by decide +kernel
theorem gl_Show : ∀ k, k < 6 → lw_tbl[([85, 87, 89, 91, 93, 95] : List Nat).getD k 0]? = some (u_lay gR_Show gF_Show k) ∧ goodWord (u_lay gR_Show gF_Show k) = true := by decide +kernel
theorem gi_Show : ∀ w ∈ u_ws gR_Show gF_Show 6, w ∈ gT := by
  intro w hw
  obtain ⟨k, hk, rfl⟩ := List.mem_map.mp hw
  obtain ⟨h1, h2⟩ := gl_Show k (List.mem_range.mp hk)
  exact gT_of h1 h2
theorem gn_SwingDesk : ∀ a, a < 6 → ∀ b, b < 6 → a ≠ b → (gF_SwingDesk a).2.1 ≠ (gF_SwingDesk b).2.1 := by decide +kernel
theorem gty_SwingDesk : ∀ k, k < 6 → parseFieldDescriptor (gF_SwingDesk k).2.2.1 = some (gt_SwingDesk k) := by decide +kernel
theorem gl_SwingDesk : ∀ k, k < 6 → lw_tbl[([258, 260, 262, 264, 266, 268] : List Nat).getD k 0]? = some (u_lay gR_SwingDesk gF_SwingDesk k) ∧ goodWord (u_lay gR_SwingDesk gF_SwingDesk k) = true := by decide +kernel
theorem gi_SwingDesk : ∀ w ∈ u_ws gR_SwingDesk gF_SwingDesk 6, w ∈ gT := by
  intro w hw
  obtain ⟨k, hk, rfl⟩ := List.mem_map.mp hw
  obtain ⟨h1, h2⟩ := gl_SwingDesk k (List.mem_range.mp hk)
  exact gT_of h1 h2
theorem gn_SwingDeskModel : ∀ a, a < 28 → ∀ b, b < 28 → a ≠ b → (gF_SwingDeskModel a).2.1 ≠ (gF_SwingDeskModel b).2.1 := by decide +kernel
theorem gty_SwingDeskModel : ∀ k, k < 28 → parseFieldDescriptor (gF_SwingDeskModel k).2.2.1 = some (gt_SwingDeskModel k) := by decide +kernel
theorem gl_SwingDeskModel : ∀ k, k < 28 → lw_tbl[([890, 892, 894, 896, 898, 900, 902, 904, 906, 908, 910, 912, 914, 916, 918, 920, 922, 924, 926, 928, 930, 932, 934, 936, 938, 940, 942, 944] : List Nat).getD k 0]? = some (u_lay gR_SwingDeskModel gF_SwingDeskModel k) ∧ goodWord (u_lay gR_SwingDeskModel gF_SwingDeskModel k) = true := by decide +kernel
theorem gi_SwingDeskModel : ∀ w ∈ u_ws gR_SwingDeskModel gF_SwingDeskModel 28, w ∈ gT := by
  intro w hw
  obtain ⟨k, hk, rfl⟩ := List.mem_map.mp hw
  obtain ⟨h1, h2⟩ := gl_SwingDeskModel k (List.mem_range.mp hk)
  exact gT_of h1 h2
def gNest : List Cond := [.methodLinkNest "SwingDesk$Show" 43 (⟨"SwingDesk", "isCue", "(I)Z"⟩ : MethodName) "SwingDesk", .methodLinkNest "SwingDesk$Sheet" 19 (⟨"SwingDesk", "isWithin", "(III)Z"⟩ : MethodName) "SwingDesk", .methodLinkNest "SwingDesk$Company" 62 (⟨"SwingDesk", "isWithin", "(III)Z"⟩ : MethodName) "SwingDesk", .methodLinkNest "SwingDesk$Night" 60 (⟨"SwingDesk", "isCue", "(I)Z"⟩ : MethodName) "SwingDesk", .methodLinkNest "SwingDesk$PutIns" 70 (⟨"SwingDesk", "isWithin", "(III)Z"⟩ : MethodName) "SwingDesk"]
theorem gNest_in : ∀ w ∈ gNest, w ∈ lw_tbl := by
  intro w hw
  simp only [gNest, List.mem_cons, List.not_mem_nil, or_false] at hw
  rcases hw with rfl | rfl | rfl | rfl | rfl
  · exact List.mem_of_getElem? (i := 304) (by decide +kernel)
  · exact List.mem_of_getElem? (i := 357) (by decide +kernel)
  · exact List.mem_of_getElem? (i := 427) (by decide +kernel)
  · exact List.mem_of_getElem? (i := 642) (by decide +kernel)
  · exact List.mem_of_getElem? (i := 776) (by decide +kernel)
theorem gAO_in : Cond.arrayOver (.object "SwingDesk$Sheet") ∈ lw_tbl := List.mem_of_getElem? (i := 238) (by decide +kernel)
def gN (U : State) : Prop := (∀ w ∈ gNest, va_Nw w U) ∧ va_AO "SwingDesk$Sheet" U
theorem gN_warm {s U : State} (hW : s.WarmedH U.vm) (h : gN s) : gN U := by
  refine ⟨fun w hw => ?_, h.2.moved hW.alike⟩
  have h1 := h.1 w hw
  simp only [gNest, List.mem_cons, List.not_mem_nil, or_false] at hw
  rcases hw with rfl | rfl | rfl | rfl | rfl <;> exact va_Nw.warmM hW h1
theorem gN_same {s U : State} (e : s.vm = U.vm) (h : gN s) : gN U := by
  refine ⟨fun w hw => ?_, h.2.moved (by rw [e]; exact Vm.Alike.refl _)⟩
  have h1 := h.1 w hw
  simp only [gNest, List.mem_cons, List.not_mem_nil, or_false] at hw
  rcases hw with rfl | rfl | rfl | rfl | rfl <;> exact va_Nw.same rfl e h1
end
section
/-! what a walk stands in: machine, room, start, method, the world's letters, the end -/
abbrev gCx : Type := (Program × Launch × Env × Room × State × MethodId × Array Value × List Frame) × (Method × Code × va_G × Nat × (Nat → Prop) × List Nat × (State → Prop))
/-- a method: name, bytes, locals, return type, cells and slots that it may make -/
abbrev gMd : Type := MethodName × ByteArray × Nat × Option FieldType × Nat × Nat
abbrev gRm (d : Nat) (M : gMd) : Room := { frames := d, cells := M.2.2.2.2.1, slots := M.2.2.2.2.2, locals := 40 * d }
abbrev gWs (M : gMd) : List Cond := Cond.code M.1 M.2.1 M.2.2.1 M.2.2.2.1 :: gT
def gC (X : gCx) (M : gMd) : Prop := match X with
  | ((p, l, e, R, s, m, args, below), (meth, c, D, b, A, s0, Z)) => p.tables.exec = Jvm.exec ∧ c.code = M.2.1 ∧ c.maxLocals = M.2.2.1 ∧ s.vm.findClass M.1.cls = some m.cls ∧ (∀ w ∈ gT, w.before args s = true) ∧ gN s ∧ va_K D gcl [] s ∧ (∀ q : Nat, s.heap.size ≤ q → A q)
def gSt (X : gCx) (M : gMd) (L : List (Nat × Value)) (S : List Value) (h : gAH) (ws : va_W) (H : Heap) (locs : List Loc) (ls : Array Slot) (S' : List Value) : Prop := match X with
  | ((p, l, e, R, s, m, args, below), (meth, c, D, b, A, s0, Z)) => va_P D gcl ws H ∧ va_D A ws ∧ va_S A s.heap H locs ∧ gRH s (b :: ws.map Prod.fst) h ws ∧ s0 <+: ws.map Prod.fst ∧ (∃ L' : List (Nat × Value), lv_has ls M.2.2.1 L' ∧ gRP (b :: ws.map Prod.fst) L L') ∧ gRS (b :: ws.map Prod.fst) S S'
/-- the machine, at this place with these values, comes to its end -/
def GW (X : gCx) (M : gMd) (pc : Nat) (L : List (Nat × Value)) (S : List Value) (h : gAH) (kc ks : Nat) : Prop := match X with
  | ((p, l, e, R, s, m, args, below), (meth, c, D, b, A, s0, Z)) => ∀ (ws : va_W) (H : Heap) (locs : List Loc) (ls : Array Slot) (S' : List Value), gSt ((p, l, e, R, s, m, args, below), (meth, c, D, b, A, s0, Z)) M L S h ws H locs ls S' → W p l e R s m args below meth c H locs kc ks Z (F0 m pc ls S')
/-- a method's end: an answer, and the heap with it -/
def gQC (D : va_G) (b : Nat) (s0 : List Nat) (A : Nat → Prop) (Q : Option Value → gAH → Prop) : Array Value → State → Outcome → State → Prop := fun _ st oc t => (∃ (v v' : Option Value) (h' : gAH) (ws' : va_W), oc = .returned v' ∧ Q v h' ∧ gROV (b :: ws'.map Prod.fst) v v' ∧ va_P D gcl ws' t.heap ∧ va_K D gcl [] t ∧ va_D A ws' ∧ gRH t (b :: ws'.map Prod.fst) h' ws' ∧ s0 <+: ws'.map Prod.fst) ∧ va_F A st t
def gB (D : va_G) (b : Nat) (h : gAH) (ws : va_W) (sz : Nat) (U : State) : Prop := U.heap.size = sz ∧ va_P D gcl ws U.heap ∧ va_K D gcl [] U ∧ va_D (fun _ => True) ws ∧ gRH U (b :: ws.map Prod.fst) h ws ∧ gN U
/-- A METHOD'S CONTRACT: with these arguments and this heap it returns, and Q holds of answer and heap -/
def AM (D : va_G) (d : Nat) (M : gMd) (av : List Value) (h : gAH) (Q : Option Value → gAH → Prop) : Prop :=
  ∀ (l : Launch) (b : Nat) (ws : va_W) (sz : Nat) (av' : List Value), gRS (b :: ws.map Prod.fst) av av' → Met l M.1 (gWs M) (gRm d M) (va_Pc av' (gB D b h ws sz)) (gQC D b (ws.map Prod.fst) (va_A ws sz) Q) M.2.2.2.2.1 M.2.2.2.2.2 (va_A ws sz)
def gCX (D : va_G) (d : Nat) (M : gMd) (Q : Option Value → gAH → Prop) (X : gCx) : Prop := gC X M ∧ match X with
  | ((p, l, e, R, s, m, args, below), (meth, c, D', b, A, s0, Z)) => D' = D ∧ R = gRm d M ∧ meth.sig.returnType = M.2.2.2.1 ∧ meth.locks = false ∧ meth.name = M.1.name ∧ Z = MQ below (gQC D b s0 A Q) args s M.2.2.2.2.1 M.2.2.2.2.2 A
def AW (D : va_G) (d : Nat) (M : gMd) (pc : Nat) (L : List (Nat × Value)) (S : List Value) (h : gAH) (kc ks : Nat) (Q : Option Value → gAH → Prop) : Prop := ∀ X : gCx, gCX D d M Q X → GW X M pc L S h kc ks
section GRULES
variable {X : gCx} {M : gMd} {pc : Nat} {L : List (Nat × Value)} {S : List Value} {h : gAH} {kc ks : Nat}

theorem gw_iadd (C : gC X M) {y : Int32} {x : Int32} (hd : decode M.2.1 pc = .ok (.iadd, 1)) (k : GW X M (pc + 1) L (.int (x + y) :: S) h kc ks) : GW X M pc L (.int y :: .int x :: S) h kc ks := by
  obtain ⟨⟨p, l, e, R, s, m, args, below⟩, ⟨meth, c, D, b, A, s0, Z⟩⟩ := X
  obtain ⟨hx, hb, hml, hown, hts, hN, hK, hA⟩ := C
  intro ws H locs ls S' ⟨hP, hD, hS, hRH, hpre, hL, hSt⟩
  obtain ⟨S1', rfl, hSt1⟩ := gRS_int hSt
  obtain ⟨S2', rfl, hSt2⟩ := gRS_int hSt1
  exact lv_iadd hx hb hd (k ws H locs ls _ ⟨hP, hD, hS, hRH, hpre, hL, rfl, hSt2⟩)
theorem gw_isub (C : gC X M) {y : Int32} {x : Int32} (hd : decode M.2.1 pc = .ok (.isub, 1)) (k : GW X M (pc + 1) L (.int (x - y) :: S) h kc ks) : GW X M pc L (.int y :: .int x :: S) h kc ks := by
  obtain ⟨⟨p, l, e, R, s, m, args, below⟩, ⟨meth, c, D, b, A, s0, Z⟩⟩ := X
  obtain ⟨hx, hb, hml, hown, hts, hN, hK, hA⟩ := C
  intro ws H locs ls S' ⟨hP, hD, hS, hRH, hpre, hL, hSt⟩
  obtain ⟨S1', rfl, hSt1⟩ := gRS_int hSt
  obtain ⟨S2', rfl, hSt2⟩ := gRS_int hSt1
  exact lv_isub hx hb hd (k ws H locs ls _ ⟨hP, hD, hS, hRH, hpre, hL, rfl, hSt2⟩)
theorem gw_imul (C : gC X M) {y : Int32} {x : Int32} (hd : decode M.2.1 pc = .ok (.imul, 1)) (k : GW X M (pc + 1) L (.int (x * y) :: S) h kc ks) : GW X M pc L (.int y :: .int x :: S) h kc ks := by
  obtain ⟨⟨p, l, e, R, s, m, args, below⟩, ⟨meth, c, D, b, A, s0, Z⟩⟩ := X
  obtain ⟨hx, hb, hml, hown, hts, hN, hK, hA⟩ := C
  intro ws H locs ls S' ⟨hP, hD, hS, hRH, hpre, hL, hSt⟩
  obtain ⟨S1', rfl, hSt1⟩ := gRS_int hSt
  obtain ⟨S2', rfl, hSt2⟩ := gRS_int hSt1
  exact lv_imul hx hb hd (k ws H locs ls _ ⟨hP, hD, hS, hRH, hpre, hL, rfl, hSt2⟩)
theorem gw_iand (C : gC X M) {y : Int32} {x : Int32} (hd : decode M.2.1 pc = .ok (.iand, 1)) (k : GW X M (pc + 1) L (.int (x &&& y) :: S) h kc ks) : GW X M pc L (.int y :: .int x :: S) h kc ks := by
  obtain ⟨⟨p, l, e, R, s, m, args, below⟩, ⟨meth, c, D, b, A, s0, Z⟩⟩ := X
  obtain ⟨hx, hb, hml, hown, hts, hN, hK, hA⟩ := C
  intro ws H locs ls S' ⟨hP, hD, hS, hRH, hpre, hL, hSt⟩
  obtain ⟨S1', rfl, hSt1⟩ := gRS_int hSt
  obtain ⟨S2', rfl, hSt2⟩ := gRS_int hSt1
  exact lv_iand hx hb hd (k ws H locs ls _ ⟨hP, hD, hS, hRH, hpre, hL, rfl, hSt2⟩)
theorem gw_ior (C : gC X M) {y : Int32} {x : Int32} (hd : decode M.2.1 pc = .ok (.ior, 1)) (k : GW X M (pc + 1) L (.int (x ||| y) :: S) h kc ks) : GW X M pc L (.int y :: .int x :: S) h kc ks := by
  obtain ⟨⟨p, l, e, R, s, m, args, below⟩, ⟨meth, c, D, b, A, s0, Z⟩⟩ := X
  obtain ⟨hx, hb, hml, hown, hts, hN, hK, hA⟩ := C
  intro ws H locs ls S' ⟨hP, hD, hS, hRH, hpre, hL, hSt⟩
  obtain ⟨S1', rfl, hSt1⟩ := gRS_int hSt
  obtain ⟨S2', rfl, hSt2⟩ := gRS_int hSt1
  exact lv_ior hx hb hd (k ws H locs ls _ ⟨hP, hD, hS, hRH, hpre, hL, rfl, hSt2⟩)
theorem gw_ixor (C : gC X M) {y : Int32} {x : Int32} (hd : decode M.2.1 pc = .ok (.ixor, 1)) (k : GW X M (pc + 1) L (.int (x ^^^ y) :: S) h kc ks) : GW X M pc L (.int y :: .int x :: S) h kc ks := by
  obtain ⟨⟨p, l, e, R, s, m, args, below⟩, ⟨meth, c, D, b, A, s0, Z⟩⟩ := X
  obtain ⟨hx, hb, hml, hown, hts, hN, hK, hA⟩ := C
  intro ws H locs ls S' ⟨hP, hD, hS, hRH, hpre, hL, hSt⟩
  obtain ⟨S1', rfl, hSt1⟩ := gRS_int hSt
  obtain ⟨S2', rfl, hSt2⟩ := gRS_int hSt1
  exact lv_ixor hx hb hd (k ws H locs ls _ ⟨hP, hD, hS, hRH, hpre, hL, rfl, hSt2⟩)
theorem gw_ishl (C : gC X M) {y : Int32} {x : Int32} (hd : decode M.2.1 pc = .ok (.ishl, 1)) (k : GW X M (pc + 1) L (.int (x <<< (y &&& 31)) :: S) h kc ks) : GW X M pc L (.int y :: .int x :: S) h kc ks := by
  obtain ⟨⟨p, l, e, R, s, m, args, below⟩, ⟨meth, c, D, b, A, s0, Z⟩⟩ := X
  obtain ⟨hx, hb, hml, hown, hts, hN, hK, hA⟩ := C
  intro ws H locs ls S' ⟨hP, hD, hS, hRH, hpre, hL, hSt⟩
  obtain ⟨S1', rfl, hSt1⟩ := gRS_int hSt
  obtain ⟨S2', rfl, hSt2⟩ := gRS_int hSt1
  exact lv_ishl hx hb hd (k ws H locs ls _ ⟨hP, hD, hS, hRH, hpre, hL, rfl, hSt2⟩)
theorem gw_ishr (C : gC X M) {y : Int32} {x : Int32} (hd : decode M.2.1 pc = .ok (.ishr, 1)) (k : GW X M (pc + 1) L (.int (x >>> (y &&& 31)) :: S) h kc ks) : GW X M pc L (.int y :: .int x :: S) h kc ks := by
  obtain ⟨⟨p, l, e, R, s, m, args, below⟩, ⟨meth, c, D, b, A, s0, Z⟩⟩ := X
  obtain ⟨hx, hb, hml, hown, hts, hN, hK, hA⟩ := C
  intro ws H locs ls S' ⟨hP, hD, hS, hRH, hpre, hL, hSt⟩
  obtain ⟨S1', rfl, hSt1⟩ := gRS_int hSt
  obtain ⟨S2', rfl, hSt2⟩ := gRS_int hSt1
  exact lv_ishr hx hb hd (k ws H locs ls _ ⟨hP, hD, hS, hRH, hpre, hL, rfl, hSt2⟩)
theorem gw_idiv (C : gC X M) {y : Int32} {x : Int32} (hd : decode M.2.1 pc = .ok (.idiv, 1)) (hne : ¬ y = 0) (k : GW X M (pc + 1) L (.int (x / y) :: S) h kc ks) : GW X M pc L (.int y :: .int x :: S) h kc ks := by
  obtain ⟨⟨p, l, e, R, s, m, args, below⟩, ⟨meth, c, D, b, A, s0, Z⟩⟩ := X
  obtain ⟨hx, hb, hml, hown, hts, hN, hK, hA⟩ := C
  intro ws H locs ls S' ⟨hP, hD, hS, hRH, hpre, hL, hSt⟩
  obtain ⟨S1', rfl, hSt1⟩ := gRS_int hSt
  obtain ⟨S2', rfl, hSt2⟩ := gRS_int hSt1
  exact lv_idiv hx hb hd hne (k ws H locs ls _ ⟨hP, hD, hS, hRH, hpre, hL, rfl, hSt2⟩)
theorem gw_irem (C : gC X M) {y : Int32} {x : Int32} (hd : decode M.2.1 pc = .ok (.irem, 1)) (hne : ¬ y = 0) (k : GW X M (pc + 1) L (.int (x - x / y * y) :: S) h kc ks) : GW X M pc L (.int y :: .int x :: S) h kc ks := by
  obtain ⟨⟨p, l, e, R, s, m, args, below⟩, ⟨meth, c, D, b, A, s0, Z⟩⟩ := X
  obtain ⟨hx, hb, hml, hown, hts, hN, hK, hA⟩ := C
  intro ws H locs ls S' ⟨hP, hD, hS, hRH, hpre, hL, hSt⟩
  obtain ⟨S1', rfl, hSt1⟩ := gRS_int hSt
  obtain ⟨S2', rfl, hSt2⟩ := gRS_int hSt1
  exact lv_irem hx hb hd hne (k ws H locs ls _ ⟨hP, hD, hS, hRH, hpre, hL, rfl, hSt2⟩)
theorem gw_iushr (C : gC X M) {y : Int32} {x : Int32} (hd : decode M.2.1 pc = .ok (.iushr, 1)) (k : GW X M (pc + 1) L (.int ((x.toUInt32 >>> (y.toUInt32 &&& Int32.toUInt32 31)).toInt32) :: S) h kc ks) : GW X M pc L (.int y :: .int x :: S) h kc ks := by
  obtain ⟨⟨p, l, e, R, s, m, args, below⟩, ⟨meth, c, D, b, A, s0, Z⟩⟩ := X
  obtain ⟨hx, hb, hml, hown, hts, hN, hK, hA⟩ := C
  intro ws H locs ls S' ⟨hP, hD, hS, hRH, hpre, hL, hSt⟩
  obtain ⟨S1', rfl, hSt1⟩ := gRS_int hSt
  obtain ⟨S2', rfl, hSt2⟩ := gRS_int hSt1
  exact lv_iushr hx hb hd rfl (k ws H locs ls _ ⟨hP, hD, hS, hRH, hpre, hL, rfl, hSt2⟩)
theorem gw_ineg (C : gC X M) {x : Int32} (hd : decode M.2.1 pc = .ok (.ineg, 1)) (k : GW X M (pc + 1) L (.int (-x) :: S) h kc ks) : GW X M pc L (.int x :: S) h kc ks := by
  obtain ⟨⟨p, l, e, R, s, m, args, below⟩, ⟨meth, c, D, b, A, s0, Z⟩⟩ := X
  obtain ⟨hx, hb, hml, hown, hts, hN, hK, hA⟩ := C
  intro ws H locs ls S' ⟨hP, hD, hS, hRH, hpre, hL, hSt⟩
  obtain ⟨S1', rfl, hSt1⟩ := gRS_int hSt
  exact lv_ineg hx hb hd (k ws H locs ls _ ⟨hP, hD, hS, hRH, hpre, hL, rfl, hSt1⟩)
theorem gw_ladd (C : gC X M) {y : Int64} {x : Int64} (hd : decode M.2.1 pc = .ok (.ladd, 1)) (k : GW X M (pc + 1) L (.long (x + y) :: S) h kc ks) : GW X M pc L (.long y :: .long x :: S) h kc ks := by
  obtain ⟨⟨p, l, e, R, s, m, args, below⟩, ⟨meth, c, D, b, A, s0, Z⟩⟩ := X
  obtain ⟨hx, hb, hml, hown, hts, hN, hK, hA⟩ := C
  intro ws H locs ls S' ⟨hP, hD, hS, hRH, hpre, hL, hSt⟩
  obtain ⟨S1', rfl, hSt1⟩ := gRS_long hSt
  obtain ⟨S2', rfl, hSt2⟩ := gRS_long hSt1
  exact lv_ladd hx hb hd (k ws H locs ls _ ⟨hP, hD, hS, hRH, hpre, hL, rfl, hSt2⟩)
theorem gw_lsub (C : gC X M) {y : Int64} {x : Int64} (hd : decode M.2.1 pc = .ok (.lsub, 1)) (k : GW X M (pc + 1) L (.long (x - y) :: S) h kc ks) : GW X M pc L (.long y :: .long x :: S) h kc ks := by
  obtain ⟨⟨p, l, e, R, s, m, args, below⟩, ⟨meth, c, D, b, A, s0, Z⟩⟩ := X
  obtain ⟨hx, hb, hml, hown, hts, hN, hK, hA⟩ := C
  intro ws H locs ls S' ⟨hP, hD, hS, hRH, hpre, hL, hSt⟩
  obtain ⟨S1', rfl, hSt1⟩ := gRS_long hSt
  obtain ⟨S2', rfl, hSt2⟩ := gRS_long hSt1
  exact lv_lsub hx hb hd (k ws H locs ls _ ⟨hP, hD, hS, hRH, hpre, hL, rfl, hSt2⟩)
theorem gw_lmul (C : gC X M) {y : Int64} {x : Int64} (hd : decode M.2.1 pc = .ok (.lmul, 1)) (k : GW X M (pc + 1) L (.long (x * y) :: S) h kc ks) : GW X M pc L (.long y :: .long x :: S) h kc ks := by
  obtain ⟨⟨p, l, e, R, s, m, args, below⟩, ⟨meth, c, D, b, A, s0, Z⟩⟩ := X
  obtain ⟨hx, hb, hml, hown, hts, hN, hK, hA⟩ := C
  intro ws H locs ls S' ⟨hP, hD, hS, hRH, hpre, hL, hSt⟩
  obtain ⟨S1', rfl, hSt1⟩ := gRS_long hSt
  obtain ⟨S2', rfl, hSt2⟩ := gRS_long hSt1
  exact lv_lmul hx hb hd (k ws H locs ls _ ⟨hP, hD, hS, hRH, hpre, hL, rfl, hSt2⟩)
theorem gw_ldiv (C : gC X M) {y : Int64} {x : Int64} (hd : decode M.2.1 pc = .ok (.ldiv, 1)) (hne : ¬ y = 0) (k : GW X M (pc + 1) L (.long (x / y) :: S) h kc ks) : GW X M pc L (.long y :: .long x :: S) h kc ks := by
  obtain ⟨⟨p, l, e, R, s, m, args, below⟩, ⟨meth, c, D, b, A, s0, Z⟩⟩ := X
  obtain ⟨hx, hb, hml, hown, hts, hN, hK, hA⟩ := C
  intro ws H locs ls S' ⟨hP, hD, hS, hRH, hpre, hL, hSt⟩
  obtain ⟨S1', rfl, hSt1⟩ := gRS_long hSt
  obtain ⟨S2', rfl, hSt2⟩ := gRS_long hSt1
  exact lv_ldiv hx hb hd hne (k ws H locs ls _ ⟨hP, hD, hS, hRH, hpre, hL, rfl, hSt2⟩)
theorem gw_lrem (C : gC X M) {y : Int64} {x : Int64} (hd : decode M.2.1 pc = .ok (.lrem, 1)) (hne : ¬ y = 0) (k : GW X M (pc + 1) L (.long (x - x / y * y) :: S) h kc ks) : GW X M pc L (.long y :: .long x :: S) h kc ks := by
  obtain ⟨⟨p, l, e, R, s, m, args, below⟩, ⟨meth, c, D, b, A, s0, Z⟩⟩ := X
  obtain ⟨hx, hb, hml, hown, hts, hN, hK, hA⟩ := C
  intro ws H locs ls S' ⟨hP, hD, hS, hRH, hpre, hL, hSt⟩
  obtain ⟨S1', rfl, hSt1⟩ := gRS_long hSt
  obtain ⟨S2', rfl, hSt2⟩ := gRS_long hSt1
  exact lv_lrem hx hb hd hne (k ws H locs ls _ ⟨hP, hD, hS, hRH, hpre, hL, rfl, hSt2⟩)
theorem gw_lcmp (C : gC X M) {y : Int64} {x : Int64} (hd : decode M.2.1 pc = .ok (.lcmp, 1)) (k : GW X M (pc + 1) L (.int (lg_cmp x y) :: S) h kc ks) : GW X M pc L (.long y :: .long x :: S) h kc ks := by
  obtain ⟨⟨p, l, e, R, s, m, args, below⟩, ⟨meth, c, D, b, A, s0, Z⟩⟩ := X
  obtain ⟨hx, hb, hml, hown, hts, hN, hK, hA⟩ := C
  intro ws H locs ls S' ⟨hP, hD, hS, hRH, hpre, hL, hSt⟩
  obtain ⟨S1', rfl, hSt1⟩ := gRS_long hSt
  obtain ⟨S2', rfl, hSt2⟩ := gRS_long hSt1
  exact W.lcmp hx hb hd (k ws H locs ls _ ⟨hP, hD, hS, hRH, hpre, hL, rfl, hSt2⟩)
theorem gw_i2l (C : gC X M) {x : Int32} (hd : decode M.2.1 pc = .ok (.i2l, 1)) (k : GW X M (pc + 1) L (.long x.toInt64 :: S) h kc ks) : GW X M pc L (.int x :: S) h kc ks := by
  obtain ⟨⟨p, l, e, R, s, m, args, below⟩, ⟨meth, c, D, b, A, s0, Z⟩⟩ := X
  obtain ⟨hx, hb, hml, hown, hts, hN, hK, hA⟩ := C
  intro ws H locs ls S' ⟨hP, hD, hS, hRH, hpre, hL, hSt⟩
  obtain ⟨S1', rfl, hSt1⟩ := gRS_int hSt
  exact lv_i2l hx hb hd rfl (k ws H locs ls _ ⟨hP, hD, hS, hRH, hpre, hL, rfl, hSt1⟩)
theorem gw_l2i (C : gC X M) {x : Int64} (hd : decode M.2.1 pc = .ok (.l2i, 1)) (k : GW X M (pc + 1) L (.int x.toInt32 :: S) h kc ks) : GW X M pc L (.long x :: S) h kc ks := by
  obtain ⟨⟨p, l, e, R, s, m, args, below⟩, ⟨meth, c, D, b, A, s0, Z⟩⟩ := X
  obtain ⟨hx, hb, hml, hown, hts, hN, hK, hA⟩ := C
  intro ws H locs ls S' ⟨hP, hD, hS, hRH, hpre, hL, hSt⟩
  obtain ⟨S1', rfl, hSt1⟩ := gRS_long hSt
  exact lv_l2i hx hb hd rfl (k ws H locs ls _ ⟨hP, hD, hS, hRH, hpre, hL, rfl, hSt1⟩)
theorem gw_i2b (C : gC X M) {x : Int32} (hd : decode M.2.1 pc = .ok (.i2b, 1)) (k : GW X M (pc + 1) L (.int x.toInt8.toInt32 :: S) h kc ks) : GW X M pc L (.int x :: S) h kc ks := by
  obtain ⟨⟨p, l, e, R, s, m, args, below⟩, ⟨meth, c, D, b, A, s0, Z⟩⟩ := X
  obtain ⟨hx, hb, hml, hown, hts, hN, hK, hA⟩ := C
  intro ws H locs ls S' ⟨hP, hD, hS, hRH, hpre, hL, hSt⟩
  obtain ⟨S1', rfl, hSt1⟩ := gRS_int hSt
  exact lv_i2b hx hb hd rfl (k ws H locs ls _ ⟨hP, hD, hS, hRH, hpre, hL, rfl, hSt1⟩)
theorem gw_iconst (C : gC X M) {n : Int} {v : Int32} (hd : decode M.2.1 pc = .ok (.iconst n, 1)) (hv : Int32.ofInt n = v) (k : GW X M (pc + 1) L (.int v :: S) h kc ks) : GW X M pc L (S) h kc ks := by
  obtain ⟨⟨p, l, e, R, s, m, args, below⟩, ⟨meth, c, D, b, A, s0, Z⟩⟩ := X
  obtain ⟨hx, hb, hml, hown, hts, hN, hK, hA⟩ := C
  intro ws H locs ls S' ⟨hP, hD, hS, hRH, hpre, hL, hSt⟩
  exact lv_iconst hx hb hd hv (k ws H locs ls _ ⟨hP, hD, hS, hRH, hpre, hL, rfl, hSt⟩)
theorem gw_bipush (C : gC X M) {n : Int} {v : Int32} (hd : decode M.2.1 pc = .ok (.bipush n, 2)) (hv : (Int8.ofInt n).toInt32 = v) (k : GW X M (pc + 2) L (.int v :: S) h kc ks) : GW X M pc L (S) h kc ks := by
  obtain ⟨⟨p, l, e, R, s, m, args, below⟩, ⟨meth, c, D, b, A, s0, Z⟩⟩ := X
  obtain ⟨hx, hb, hml, hown, hts, hN, hK, hA⟩ := C
  intro ws H locs ls S' ⟨hP, hD, hS, hRH, hpre, hL, hSt⟩
  exact lv_bipush hx hb hd hv (k ws H locs ls _ ⟨hP, hD, hS, hRH, hpre, hL, rfl, hSt⟩)
theorem gw_sipush (C : gC X M) {n : Int} {v : Int32} (hd : decode M.2.1 pc = .ok (.sipush n, 3)) (hv : (Int16.ofInt n).toInt32 = v) (k : GW X M (pc + 3) L (.int v :: S) h kc ks) : GW X M pc L (S) h kc ks := by
  obtain ⟨⟨p, l, e, R, s, m, args, below⟩, ⟨meth, c, D, b, A, s0, Z⟩⟩ := X
  obtain ⟨hx, hb, hml, hown, hts, hN, hK, hA⟩ := C
  intro ws H locs ls S' ⟨hP, hD, hS, hRH, hpre, hL, hSt⟩
  exact lv_sipush hx hb hd hv (k ws H locs ls _ ⟨hP, hD, hS, hRH, hpre, hL, rfl, hSt⟩)
theorem gw_lconst (C : gC X M) {n : Fin 2} {v : Int64} (hd : decode M.2.1 pc = .ok (.lconst n, 1)) (hv : Int64.ofNat (n : Nat) = v) (k : GW X M (pc + 1) L (.long v :: S) h kc ks) : GW X M pc L (S) h kc ks := by
  obtain ⟨⟨p, l, e, R, s, m, args, below⟩, ⟨meth, c, D, b, A, s0, Z⟩⟩ := X
  obtain ⟨hx, hb, hml, hown, hts, hN, hK, hA⟩ := C
  intro ws H locs ls S' ⟨hP, hD, hS, hRH, hpre, hL, hSt⟩
  exact lv_lconst hx hb hd hv (k ws H locs ls _ ⟨hP, hD, hS, hRH, hpre, hL, rfl, hSt⟩)
theorem gw_null (C : gC X M) (hd : decode M.2.1 pc = .ok (.aconst_null, 1)) (k : GW X M (pc + 1) L (.null :: S) h kc ks) : GW X M pc L (S) h kc ks := by
  obtain ⟨⟨p, l, e, R, s, m, args, below⟩, ⟨meth, c, D, b, A, s0, Z⟩⟩ := X
  obtain ⟨hx, hb, hml, hown, hts, hN, hK, hA⟩ := C
  intro ws H locs ls S' ⟨hP, hD, hS, hRH, hpre, hL, hSt⟩
  exact lv_null hx hb hd (k ws H locs ls _ ⟨hP, hD, hS, hRH, hpre, hL, rfl, hSt⟩)
theorem gw_ldc (C : gC X M) {i : Nat} {v : Int32} (hc : Cond.constant M.1.cls i v ∈ gT) (hd : decode M.2.1 pc = .ok (.ldc i, 2)) (k : GW X M (pc + 2) L (.int v :: S) h kc ks) : GW X M pc L S h kc ks := by
  obtain ⟨⟨p, l, e, R, s, m, args, below⟩, ⟨meth, c, D, b, A, s0, Z⟩⟩ := X
  obtain ⟨hx, hb, hml, hown, hts, hN, hK, hA⟩ := C
  intro ws H locs ls S' ⟨hP, hD, hS, hRH, hpre, hL, hSt⟩
  exact lv_ldc hx hb hown (hts _ hc) hd (k ws H locs ls _ ⟨hP, hD, hS, hRH, hpre, hL, rfl, hSt⟩)
theorem gw_ldcw (C : gC X M) {i : Nat} {v : Int32} (hc : Cond.constant M.1.cls i v ∈ gT) (hd : decode M.2.1 pc = .ok (.ldc_w i, 3)) (k : GW X M (pc + 3) L (.int v :: S) h kc ks) : GW X M pc L S h kc ks := by
  obtain ⟨⟨p, l, e, R, s, m, args, below⟩, ⟨meth, c, D, b, A, s0, Z⟩⟩ := X
  obtain ⟨hx, hb, hml, hown, hts, hN, hK, hA⟩ := C
  intro ws H locs ls S' ⟨hP, hD, hS, hRH, hpre, hL, hSt⟩
  exact lv_ldcw hx hb hown (hts _ hc) hd (k ws H locs ls _ ⟨hP, hD, hS, hRH, hpre, hL, rfl, hSt⟩)
theorem gw_ldc2 (C : gC X M) {i : Nat} {v : Int64} (hc : Cond.constantLong M.1.cls i v ∈ gT) (hd : decode M.2.1 pc = .ok (.ldc2_w i, 3)) (k : GW X M (pc + 3) L (.long v :: S) h kc ks) : GW X M pc L S h kc ks := by
  obtain ⟨⟨p, l, e, R, s, m, args, below⟩, ⟨meth, c, D, b, A, s0, Z⟩⟩ := X
  obtain ⟨hx, hb, hml, hown, hts, hN, hK, hA⟩ := C
  intro ws H locs ls S' ⟨hP, hD, hS, hRH, hpre, hL, hSt⟩
  exact lv_ldc2 hx hb hown (hts _ hc) hd (k ws H locs ls _ ⟨hP, hD, hS, hRH, hpre, hL, rfl, hSt⟩)
theorem gw_iload_n (C : gC X M) {n : Fin 4} {i : Nat} {x : Int32} (j : Nat) (hj : L[j]? = some (i, .int x)) (hd : decode M.2.1 pc = .ok (.iload_n n, 1)) (hi : (n : Nat) = i) (k : GW X M (pc + 1) L (.int x :: S) h kc ks) : GW X M pc L S h kc ks := by
  obtain ⟨⟨p, l, e, R, s, m, args, below⟩, ⟨meth, c, D, b, A, s0, Z⟩⟩ := X
  obtain ⟨hx, hb, hml, hown, hts, hN, hK, hA⟩ := C
  intro ws H locs ls S' ⟨hP, hD, hS, hRH, hpre, hL, hSt⟩
  obtain ⟨L', hl, hLP⟩ := hL
  obtain ⟨v', h1, h2⟩ := gRP_get hLP hj
  cases h2
  exact lv_iload_n hx hb hd hi (lv_at hl j h1) (k ws H locs ls _ ⟨hP, hD, hS, hRH, hpre, ⟨L', hl, hLP⟩, rfl, hSt⟩)
theorem gw_iload (C : gC X M) {i : Nat} {x : Int32} (j : Nat) (hj : L[j]? = some (i, .int x)) (hd : decode M.2.1 pc = .ok (.iload i, 2)) (k : GW X M (pc + 2) L (.int x :: S) h kc ks) : GW X M pc L S h kc ks := by
  obtain ⟨⟨p, l, e, R, s, m, args, below⟩, ⟨meth, c, D, b, A, s0, Z⟩⟩ := X
  obtain ⟨hx, hb, hml, hown, hts, hN, hK, hA⟩ := C
  intro ws H locs ls S' ⟨hP, hD, hS, hRH, hpre, hL, hSt⟩
  obtain ⟨L', hl, hLP⟩ := hL
  obtain ⟨v', h1, h2⟩ := gRP_get hLP hj
  cases h2
  exact lv_iload hx hb hd (lv_at hl j h1) (k ws H locs ls _ ⟨hP, hD, hS, hRH, hpre, ⟨L', hl, hLP⟩, rfl, hSt⟩)
theorem gw_lload_n (C : gC X M) {n : Fin 4} {i : Nat} {x : Int64} (j : Nat) (hj : L[j]? = some (i, .long x)) (hd : decode M.2.1 pc = .ok (.lload_n n, 1)) (hi : (n : Nat) = i) (k : GW X M (pc + 1) L (.long x :: S) h kc ks) : GW X M pc L S h kc ks := by
  obtain ⟨⟨p, l, e, R, s, m, args, below⟩, ⟨meth, c, D, b, A, s0, Z⟩⟩ := X
  obtain ⟨hx, hb, hml, hown, hts, hN, hK, hA⟩ := C
  intro ws H locs ls S' ⟨hP, hD, hS, hRH, hpre, hL, hSt⟩
  obtain ⟨L', hl, hLP⟩ := hL
  obtain ⟨v', h1, h2⟩ := gRP_get hLP hj
  cases h2
  exact lv_lload_n hx hb hd hi (lv_at hl j h1) (k ws H locs ls _ ⟨hP, hD, hS, hRH, hpre, ⟨L', hl, hLP⟩, rfl, hSt⟩)
theorem gw_lload (C : gC X M) {i : Nat} {x : Int64} (j : Nat) (hj : L[j]? = some (i, .long x)) (hd : decode M.2.1 pc = .ok (.lload i, 2)) (k : GW X M (pc + 2) L (.long x :: S) h kc ks) : GW X M pc L S h kc ks := by
  obtain ⟨⟨p, l, e, R, s, m, args, below⟩, ⟨meth, c, D, b, A, s0, Z⟩⟩ := X
  obtain ⟨hx, hb, hml, hown, hts, hN, hK, hA⟩ := C
  intro ws H locs ls S' ⟨hP, hD, hS, hRH, hpre, hL, hSt⟩
  obtain ⟨L', hl, hLP⟩ := hL
  obtain ⟨v', h1, h2⟩ := gRP_get hLP hj
  cases h2
  exact lv_lload hx hb hd (lv_at hl j h1) (k ws H locs ls _ ⟨hP, hD, hS, hRH, hpre, ⟨L', hl, hLP⟩, rfl, hSt⟩)
theorem gw_aload_n (C : gC X M) {n : Fin 4} {i : Nat} {x : Nat} (j : Nat) (hj : L[j]? = some (i, .ref x)) (hd : decode M.2.1 pc = .ok (.aload_n n, 1)) (hi : (n : Nat) = i) (k : GW X M (pc + 1) L (.ref x :: S) h kc ks) : GW X M pc L S h kc ks := by
  obtain ⟨⟨p, l, e, R, s, m, args, below⟩, ⟨meth, c, D, b, A, s0, Z⟩⟩ := X
  obtain ⟨hx, hb, hml, hown, hts, hN, hK, hA⟩ := C
  intro ws H locs ls S' ⟨hP, hD, hS, hRH, hpre, hL, hSt⟩
  obtain ⟨L', hl, hLP⟩ := hL
  obtain ⟨v', h1, ⟨a, h2, h3⟩⟩ := gRP_get hLP hj
  subst h3
  exact lv_aload_n hx hb hd hi (lv_at hl j h1) (k ws H locs ls _ ⟨hP, hD, hS, hRH, hpre, ⟨L', hl, hLP⟩, ⟨a, h2, rfl⟩, hSt⟩)
theorem gw_aload_nN (C : gC X M) {n : Fin 4} {i : Nat} (j : Nat) (hj : L[j]? = some (i, .null)) (hd : decode M.2.1 pc = .ok (.aload_n n, 1)) (hi : (n : Nat) = i) (k : GW X M (pc + 1) L (.null :: S) h kc ks) : GW X M pc L S h kc ks := by
  obtain ⟨⟨p, l, e, R, s, m, args, below⟩, ⟨meth, c, D, b, A, s0, Z⟩⟩ := X
  obtain ⟨hx, hb, hml, hown, hts, hN, hK, hA⟩ := C
  intro ws H locs ls S' ⟨hP, hD, hS, hRH, hpre, hL, hSt⟩
  obtain ⟨L', hl, hLP⟩ := hL
  obtain ⟨v', h1, h2⟩ := gRP_get hLP hj
  cases h2
  exact lv_aload_nN hx hb hd hi (lv_at hl j h1) (k ws H locs ls _ ⟨hP, hD, hS, hRH, hpre, ⟨L', hl, hLP⟩, rfl, hSt⟩)
theorem gw_aload (C : gC X M) {i : Nat} {x : Nat} (j : Nat) (hj : L[j]? = some (i, .ref x)) (hd : decode M.2.1 pc = .ok (.aload i, 2)) (k : GW X M (pc + 2) L (.ref x :: S) h kc ks) : GW X M pc L S h kc ks := by
  obtain ⟨⟨p, l, e, R, s, m, args, below⟩, ⟨meth, c, D, b, A, s0, Z⟩⟩ := X
  obtain ⟨hx, hb, hml, hown, hts, hN, hK, hA⟩ := C
  intro ws H locs ls S' ⟨hP, hD, hS, hRH, hpre, hL, hSt⟩
  obtain ⟨L', hl, hLP⟩ := hL
  obtain ⟨v', h1, ⟨a, h2, h3⟩⟩ := gRP_get hLP hj
  subst h3
  exact lv_aload hx hb hd (lv_at hl j h1) (k ws H locs ls _ ⟨hP, hD, hS, hRH, hpre, ⟨L', hl, hLP⟩, ⟨a, h2, rfl⟩, hSt⟩)
theorem gw_aloadN (C : gC X M) {i : Nat} (j : Nat) (hj : L[j]? = some (i, .null)) (hd : decode M.2.1 pc = .ok (.aload i, 2)) (k : GW X M (pc + 2) L (.null :: S) h kc ks) : GW X M pc L S h kc ks := by
  obtain ⟨⟨p, l, e, R, s, m, args, below⟩, ⟨meth, c, D, b, A, s0, Z⟩⟩ := X
  obtain ⟨hx, hb, hml, hown, hts, hN, hK, hA⟩ := C
  intro ws H locs ls S' ⟨hP, hD, hS, hRH, hpre, hL, hSt⟩
  obtain ⟨L', hl, hLP⟩ := hL
  obtain ⟨v', h1, h2⟩ := gRP_get hLP hj
  cases h2
  exact lv_aloadN hx hb hd (lv_at hl j h1) (k ws H locs ls _ ⟨hP, hD, hS, hRH, hpre, ⟨L', hl, hLP⟩, rfl, hSt⟩)
theorem gf1 {sg : List Nat} {i : Nat} {L L' : List (Nat × Value)} (hl : gRP sg L L') : gRP sg (L.filter (fun q => !(q.1 == i) && !(q.1 + 1 == i && q.2.category == 2))) (L'.filter (fun q => !(q.1 == i) && !(q.1 + 1 == i && q.2.category == 2))) := gRP_filter (fun q q' e1 e2 => by simp only [e1, e2]) hl
theorem gf2 {sg : List Nat} {i : Nat} {L L' : List (Nat × Value)} (hl : gRP sg L L') : gRP sg (L.filter (fun q => !(q.1 == i) && (!(q.1 == i + 1) && !(q.1 + 1 == i && q.2.category == 2)))) (L'.filter (fun q => !(q.1 == i) && (!(q.1 == i + 1) && !(q.1 + 1 == i && q.2.category == 2)))) := gRP_filter (fun q q' e1 e2 => by simp only [e1, e2]) hl
theorem gw_istore_n (C : gC X M) {n : Fin 4} {i : Nat} {x : Int32} {L2 : List (Nat × Value)} (hd : decode M.2.1 pc = .ok (.istore_n n, 1)) (hi : (n : Nat) = i) (hn : i < M.2.2.1) (hL2 : (i, Value.int x) :: L.filter (fun q => !(q.1 == i) && !(q.1 + 1 == i && q.2.category == 2)) = L2) (k : GW X M (pc + 1) L2 S h kc ks) : GW X M pc L (.int x :: S) h kc ks := by
  obtain ⟨⟨p, l, e, R, s, m, args, below⟩, ⟨meth, c, D, b, A, s0, Z⟩⟩ := X
  obtain ⟨hx, hb, hml, hown, hts, hN, hK, hA⟩ := C
  intro ws H locs ls S' ⟨hP, hD, hS, hRH, hpre, hL, hSt⟩
  obtain ⟨S1', rfl, hSt1⟩ := gRS_int hSt
  obtain ⟨L', hl, hLP⟩ := hL
  subst hL2
  exact lv_istore_n hx hb hd hi hl hn rfl (fun ls hl => k ws H locs ls _ ⟨hP, hD, hS, hRH, hpre, ⟨_, hl, ⟨⟨rfl, rfl⟩, gf1 hLP⟩⟩, hSt1⟩)
theorem gw_istore (C : gC X M) {i : Nat} {x : Int32} {L2 : List (Nat × Value)} (hd : decode M.2.1 pc = .ok (.istore i, 2)) (hn : i < M.2.2.1) (hL2 : (i, Value.int x) :: L.filter (fun q => !(q.1 == i) && !(q.1 + 1 == i && q.2.category == 2)) = L2) (k : GW X M (pc + 2) L2 S h kc ks) : GW X M pc L (.int x :: S) h kc ks := by
  obtain ⟨⟨p, l, e, R, s, m, args, below⟩, ⟨meth, c, D, b, A, s0, Z⟩⟩ := X
  obtain ⟨hx, hb, hml, hown, hts, hN, hK, hA⟩ := C
  intro ws H locs ls S' ⟨hP, hD, hS, hRH, hpre, hL, hSt⟩
  obtain ⟨S1', rfl, hSt1⟩ := gRS_int hSt
  obtain ⟨L', hl, hLP⟩ := hL
  subst hL2
  exact lv_istore hx hb hd hl hn rfl (fun ls hl => k ws H locs ls _ ⟨hP, hD, hS, hRH, hpre, ⟨_, hl, ⟨⟨rfl, rfl⟩, gf1 hLP⟩⟩, hSt1⟩)
theorem gw_lstore_n (C : gC X M) {n : Fin 4} {i : Nat} {x : Int64} {L2 : List (Nat × Value)} (hd : decode M.2.1 pc = .ok (.lstore_n n, 1)) (hi : (n : Nat) = i) (hn : i + 1 < M.2.2.1) (hL2 : (i, Value.long x) :: L.filter (fun q => !(q.1 == i) && (!(q.1 == i + 1) && !(q.1 + 1 == i && q.2.category == 2))) = L2) (k : GW X M (pc + 1) L2 S h kc ks) : GW X M pc L (.long x :: S) h kc ks := by
  obtain ⟨⟨p, l, e, R, s, m, args, below⟩, ⟨meth, c, D, b, A, s0, Z⟩⟩ := X
  obtain ⟨hx, hb, hml, hown, hts, hN, hK, hA⟩ := C
  intro ws H locs ls S' ⟨hP, hD, hS, hRH, hpre, hL, hSt⟩
  obtain ⟨S1', rfl, hSt1⟩ := gRS_long hSt
  obtain ⟨L', hl, hLP⟩ := hL
  subst hL2
  exact lv_lstore_n hx hb hd hi hl hn rfl (fun ls hl => k ws H locs ls _ ⟨hP, hD, hS, hRH, hpre, ⟨_, hl, ⟨⟨rfl, rfl⟩, gf2 hLP⟩⟩, hSt1⟩)
theorem gw_lstore (C : gC X M) {i : Nat} {x : Int64} {L2 : List (Nat × Value)} (hd : decode M.2.1 pc = .ok (.lstore i, 2)) (hn : i + 1 < M.2.2.1) (hL2 : (i, Value.long x) :: L.filter (fun q => !(q.1 == i) && (!(q.1 == i + 1) && !(q.1 + 1 == i && q.2.category == 2))) = L2) (k : GW X M (pc + 2) L2 S h kc ks) : GW X M pc L (.long x :: S) h kc ks := by
  obtain ⟨⟨p, l, e, R, s, m, args, below⟩, ⟨meth, c, D, b, A, s0, Z⟩⟩ := X
  obtain ⟨hx, hb, hml, hown, hts, hN, hK, hA⟩ := C
  intro ws H locs ls S' ⟨hP, hD, hS, hRH, hpre, hL, hSt⟩
  obtain ⟨S1', rfl, hSt1⟩ := gRS_long hSt
  obtain ⟨L', hl, hLP⟩ := hL
  subst hL2
  exact lv_lstore hx hb hd hl hn rfl (fun ls hl => k ws H locs ls _ ⟨hP, hD, hS, hRH, hpre, ⟨_, hl, ⟨⟨rfl, rfl⟩, gf2 hLP⟩⟩, hSt1⟩)
theorem gw_astore_n (C : gC X M) {n : Fin 4} {i : Nat} {x : Nat} {L2 : List (Nat × Value)} (hd : decode M.2.1 pc = .ok (.astore_n n, 1)) (hi : (n : Nat) = i) (hn : i < M.2.2.1) (hL2 : (i, Value.ref x) :: L.filter (fun q => !(q.1 == i) && !(q.1 + 1 == i && q.2.category == 2)) = L2) (k : GW X M (pc + 1) L2 S h kc ks) : GW X M pc L (.ref x :: S) h kc ks := by
  obtain ⟨⟨p, l, e, R, s, m, args, below⟩, ⟨meth, c, D, b, A, s0, Z⟩⟩ := X
  obtain ⟨hx, hb, hml, hown, hts, hN, hK, hA⟩ := C
  intro ws H locs ls S' ⟨hP, hD, hS, hRH, hpre, hL, hSt⟩
  obtain ⟨a, S1', ha, rfl, hSt1⟩ := gRS_ref hSt
  obtain ⟨L', hl, hLP⟩ := hL
  subst hL2
  exact lv_astore_n hx hb hd hi hl hn rfl (fun ls hl => k ws H locs ls _ ⟨hP, hD, hS, hRH, hpre, ⟨_, hl, ⟨⟨rfl, ⟨a, ha, rfl⟩⟩, gf1 hLP⟩⟩, hSt1⟩)
theorem gw_astore (C : gC X M) {i : Nat} {x : Nat} {L2 : List (Nat × Value)} (hd : decode M.2.1 pc = .ok (.astore i, 2)) (hn : i < M.2.2.1) (hL2 : (i, Value.ref x) :: L.filter (fun q => !(q.1 == i) && !(q.1 + 1 == i && q.2.category == 2)) = L2) (k : GW X M (pc + 2) L2 S h kc ks) : GW X M pc L (.ref x :: S) h kc ks := by
  obtain ⟨⟨p, l, e, R, s, m, args, below⟩, ⟨meth, c, D, b, A, s0, Z⟩⟩ := X
  obtain ⟨hx, hb, hml, hown, hts, hN, hK, hA⟩ := C
  intro ws H locs ls S' ⟨hP, hD, hS, hRH, hpre, hL, hSt⟩
  obtain ⟨a, S1', ha, rfl, hSt1⟩ := gRS_ref hSt
  obtain ⟨L', hl, hLP⟩ := hL
  subst hL2
  exact lv_astore hx hb hd hl hn rfl (fun ls hl => k ws H locs ls _ ⟨hP, hD, hS, hRH, hpre, ⟨_, hl, ⟨⟨rfl, ⟨a, ha, rfl⟩⟩, gf1 hLP⟩⟩, hSt1⟩)
theorem gw_astore_nN (C : gC X M) {n : Fin 4} {i : Nat} {L2 : List (Nat × Value)} (hd : decode M.2.1 pc = .ok (.astore_n n, 1)) (hi : (n : Nat) = i) (hn : i < M.2.2.1) (hL2 : (i, Value.null) :: L.filter (fun q => !(q.1 == i) && !(q.1 + 1 == i && q.2.category == 2)) = L2) (k : GW X M (pc + 1) L2 S h kc ks) : GW X M pc L (.null :: S) h kc ks := by
  obtain ⟨⟨p, l, e, R, s, m, args, below⟩, ⟨meth, c, D, b, A, s0, Z⟩⟩ := X
  obtain ⟨hx, hb, hml, hown, hts, hN, hK, hA⟩ := C
  intro ws H locs ls S' ⟨hP, hD, hS, hRH, hpre, hL, hSt⟩
  obtain ⟨S1', rfl, hSt1⟩ := gRS_null hSt
  obtain ⟨L', hl, hLP⟩ := hL
  subst hL2
  exact lv_astore_nN hx hb hd hi hl hn rfl (fun ls hl => k ws H locs ls _ ⟨hP, hD, hS, hRH, hpre, ⟨_, hl, ⟨⟨rfl, rfl⟩, gf1 hLP⟩⟩, hSt1⟩)
theorem gw_astoreN (C : gC X M) {i : Nat} {L2 : List (Nat × Value)} (hd : decode M.2.1 pc = .ok (.astore i, 2)) (hn : i < M.2.2.1) (hL2 : (i, Value.null) :: L.filter (fun q => !(q.1 == i) && !(q.1 + 1 == i && q.2.category == 2)) = L2) (k : GW X M (pc + 2) L2 S h kc ks) : GW X M pc L (.null :: S) h kc ks := by
  obtain ⟨⟨p, l, e, R, s, m, args, below⟩, ⟨meth, c, D, b, A, s0, Z⟩⟩ := X
  obtain ⟨hx, hb, hml, hown, hts, hN, hK, hA⟩ := C
  intro ws H locs ls S' ⟨hP, hD, hS, hRH, hpre, hL, hSt⟩
  obtain ⟨S1', rfl, hSt1⟩ := gRS_null hSt
  obtain ⟨L', hl, hLP⟩ := hL
  subst hL2
  exact lv_astoreN hx hb hd hl hn rfl (fun ls hl => k ws H locs ls _ ⟨hP, hD, hS, hRH, hpre, ⟨_, hl, ⟨⟨rfl, rfl⟩, gf1 hLP⟩⟩, hSt1⟩)
theorem gw_iinc (C : gC X M) {i : Nat} {n : Int} {x v : Int32} {L2 : List (Nat × Value)} (j : Nat) (hj : L[j]? = some (i, .int x)) (hd : decode M.2.1 pc = .ok (.iinc i n, 3)) (hv : x + Int32.ofInt n = v) (hn : i < M.2.2.1) (hL2 : (i, Value.int v) :: L.filter (fun q => !(q.1 == i) && !(q.1 + 1 == i && q.2.category == 2)) = L2) (k : GW X M (pc + 3) L2 S h kc ks) : GW X M pc L S h kc ks := by
  obtain ⟨⟨p, l, e, R, s, m, args, below⟩, ⟨meth, c, D, b, A, s0, Z⟩⟩ := X
  obtain ⟨hx, hb, hml, hown, hts, hN, hK, hA⟩ := C
  intro ws H locs ls S' ⟨hP, hD, hS, hRH, hpre, hL, hSt⟩
  obtain ⟨L', hl, hLP⟩ := hL
  obtain ⟨v', h1, h2⟩ := gRP_get hLP hj
  cases h2
  subst hL2
  exact lv_iinc hx hb hd hl h1 hv hn rfl (fun ls hl => k ws H locs ls _ ⟨hP, hD, hS, hRH, hpre, ⟨_, hl, ⟨⟨rfl, rfl⟩, gf1 hLP⟩⟩, hSt⟩)
theorem gw_sub {L2 : List (Nat × Value)} (is : List Nat) (hL2 : lv_pick L is = L2) (k : GW X M pc L2 S h kc ks) : GW X M pc L S h kc ks := by
  obtain ⟨⟨p, l, e, R, s, m, args, below⟩, ⟨meth, c, D, b, A, s0, Z⟩⟩ := X
  intro ws H locs ls S' ⟨hP, hD, hS, hRH, hpre, ⟨L', hl, hLP⟩, hSt⟩
  subst hL2
  exact k ws H locs ls _ ⟨hP, hD, hS, hRH, hpre, ⟨_, lv_sub hl is rfl, gRP_pick hLP is⟩, hSt⟩
theorem gw_if_eq (C : gC X M) {x : Int32} {off : Int} {tgt : Nat} (hd : decode M.2.1 pc = .ok (.ifCond .eq off, 3)) (ht : (pc : Int) + off = (tgt : Int)) (kt : x = 0 → GW X M tgt L S h kc ks) (kf : ¬ (x = 0) → GW X M (pc + 3) L S h kc ks) : GW X M pc L (.int x :: S) h kc ks := by
  obtain ⟨⟨p, l, e, R, s, m, args, below⟩, ⟨meth, c, D, b, A, s0, Z⟩⟩ := X
  obtain ⟨hx, hb, hml, hown, hts, hN, hK, hA⟩ := C
  intro ws H locs ls S' ⟨hP, hD, hS, hRH, hpre, hL, hSt⟩
  obtain ⟨S1', rfl, hSt1⟩ := gRS_int hSt
  exact lv_if_eq hx hb hd ht (fun q => kt q ws H locs ls _ ⟨hP, hD, hS, hRH, hpre, hL, hSt1⟩) (fun q => kf q ws H locs ls _ ⟨hP, hD, hS, hRH, hpre, hL, hSt1⟩)
theorem gw_icmp_eq (C : gC X M) {x y : Int32} {off : Int} {tgt : Nat} (hd : decode M.2.1 pc = .ok (.if_icmp .eq off, 3)) (ht : (pc : Int) + off = (tgt : Int)) (kt : x = y → GW X M tgt L S h kc ks) (kf : ¬ (x = y) → GW X M (pc + 3) L S h kc ks) : GW X M pc L (.int y :: .int x :: S) h kc ks := by
  obtain ⟨⟨p, l, e, R, s, m, args, below⟩, ⟨meth, c, D, b, A, s0, Z⟩⟩ := X
  obtain ⟨hx, hb, hml, hown, hts, hN, hK, hA⟩ := C
  intro ws H locs ls S' ⟨hP, hD, hS, hRH, hpre, hL, hSt⟩
  obtain ⟨S1', rfl, hSt1⟩ := gRS_int hSt
  obtain ⟨S2', rfl, hSt2⟩ := gRS_int hSt1
  exact lv_icmp_eq hx hb hd ht (fun q => kt q ws H locs ls _ ⟨hP, hD, hS, hRH, hpre, hL, hSt2⟩) (fun q => kf q ws H locs ls _ ⟨hP, hD, hS, hRH, hpre, hL, hSt2⟩)
theorem gw_if_ne (C : gC X M) {x : Int32} {off : Int} {tgt : Nat} (hd : decode M.2.1 pc = .ok (.ifCond .ne off, 3)) (ht : (pc : Int) + off = (tgt : Int)) (kt : ¬ x = 0 → GW X M tgt L S h kc ks) (kf : x = 0 → GW X M (pc + 3) L S h kc ks) : GW X M pc L (.int x :: S) h kc ks := by
  obtain ⟨⟨p, l, e, R, s, m, args, below⟩, ⟨meth, c, D, b, A, s0, Z⟩⟩ := X
  obtain ⟨hx, hb, hml, hown, hts, hN, hK, hA⟩ := C
  intro ws H locs ls S' ⟨hP, hD, hS, hRH, hpre, hL, hSt⟩
  obtain ⟨S1', rfl, hSt1⟩ := gRS_int hSt
  exact lv_if_ne hx hb hd ht (fun q => kt q ws H locs ls _ ⟨hP, hD, hS, hRH, hpre, hL, hSt1⟩) (fun q => kf q ws H locs ls _ ⟨hP, hD, hS, hRH, hpre, hL, hSt1⟩)
theorem gw_icmp_ne (C : gC X M) {x y : Int32} {off : Int} {tgt : Nat} (hd : decode M.2.1 pc = .ok (.if_icmp .ne off, 3)) (ht : (pc : Int) + off = (tgt : Int)) (kt : ¬ x = y → GW X M tgt L S h kc ks) (kf : x = y → GW X M (pc + 3) L S h kc ks) : GW X M pc L (.int y :: .int x :: S) h kc ks := by
  obtain ⟨⟨p, l, e, R, s, m, args, below⟩, ⟨meth, c, D, b, A, s0, Z⟩⟩ := X
  obtain ⟨hx, hb, hml, hown, hts, hN, hK, hA⟩ := C
  intro ws H locs ls S' ⟨hP, hD, hS, hRH, hpre, hL, hSt⟩
  obtain ⟨S1', rfl, hSt1⟩ := gRS_int hSt
  obtain ⟨S2', rfl, hSt2⟩ := gRS_int hSt1
  exact lv_icmp_ne hx hb hd ht (fun q => kt q ws H locs ls _ ⟨hP, hD, hS, hRH, hpre, hL, hSt2⟩) (fun q => kf q ws H locs ls _ ⟨hP, hD, hS, hRH, hpre, hL, hSt2⟩)
theorem gw_if_lt (C : gC X M) {x : Int32} {off : Int} {tgt : Nat} (hd : decode M.2.1 pc = .ok (.ifCond .lt off, 3)) (ht : (pc : Int) + off = (tgt : Int)) (kt : x < 0 → GW X M tgt L S h kc ks) (kf : ¬ (x < 0) → GW X M (pc + 3) L S h kc ks) : GW X M pc L (.int x :: S) h kc ks := by
  obtain ⟨⟨p, l, e, R, s, m, args, below⟩, ⟨meth, c, D, b, A, s0, Z⟩⟩ := X
  obtain ⟨hx, hb, hml, hown, hts, hN, hK, hA⟩ := C
  intro ws H locs ls S' ⟨hP, hD, hS, hRH, hpre, hL, hSt⟩
  obtain ⟨S1', rfl, hSt1⟩ := gRS_int hSt
  exact lv_if_lt hx hb hd ht (fun q => kt q ws H locs ls _ ⟨hP, hD, hS, hRH, hpre, hL, hSt1⟩) (fun q => kf q ws H locs ls _ ⟨hP, hD, hS, hRH, hpre, hL, hSt1⟩)
theorem gw_icmp_lt (C : gC X M) {x y : Int32} {off : Int} {tgt : Nat} (hd : decode M.2.1 pc = .ok (.if_icmp .lt off, 3)) (ht : (pc : Int) + off = (tgt : Int)) (kt : x < y → GW X M tgt L S h kc ks) (kf : ¬ (x < y) → GW X M (pc + 3) L S h kc ks) : GW X M pc L (.int y :: .int x :: S) h kc ks := by
  obtain ⟨⟨p, l, e, R, s, m, args, below⟩, ⟨meth, c, D, b, A, s0, Z⟩⟩ := X
  obtain ⟨hx, hb, hml, hown, hts, hN, hK, hA⟩ := C
  intro ws H locs ls S' ⟨hP, hD, hS, hRH, hpre, hL, hSt⟩
  obtain ⟨S1', rfl, hSt1⟩ := gRS_int hSt
  obtain ⟨S2', rfl, hSt2⟩ := gRS_int hSt1
  exact lv_icmp_lt hx hb hd ht (fun q => kt q ws H locs ls _ ⟨hP, hD, hS, hRH, hpre, hL, hSt2⟩) (fun q => kf q ws H locs ls _ ⟨hP, hD, hS, hRH, hpre, hL, hSt2⟩)
theorem gw_if_ge (C : gC X M) {x : Int32} {off : Int} {tgt : Nat} (hd : decode M.2.1 pc = .ok (.ifCond .ge off, 3)) (ht : (pc : Int) + off = (tgt : Int)) (kt : 0 ≤ x → GW X M tgt L S h kc ks) (kf : ¬ (0 ≤ x) → GW X M (pc + 3) L S h kc ks) : GW X M pc L (.int x :: S) h kc ks := by
  obtain ⟨⟨p, l, e, R, s, m, args, below⟩, ⟨meth, c, D, b, A, s0, Z⟩⟩ := X
  obtain ⟨hx, hb, hml, hown, hts, hN, hK, hA⟩ := C
  intro ws H locs ls S' ⟨hP, hD, hS, hRH, hpre, hL, hSt⟩
  obtain ⟨S1', rfl, hSt1⟩ := gRS_int hSt
  exact lv_if_ge hx hb hd ht (fun q => kt q ws H locs ls _ ⟨hP, hD, hS, hRH, hpre, hL, hSt1⟩) (fun q => kf q ws H locs ls _ ⟨hP, hD, hS, hRH, hpre, hL, hSt1⟩)
theorem gw_icmp_ge (C : gC X M) {x y : Int32} {off : Int} {tgt : Nat} (hd : decode M.2.1 pc = .ok (.if_icmp .ge off, 3)) (ht : (pc : Int) + off = (tgt : Int)) (kt : y ≤ x → GW X M tgt L S h kc ks) (kf : ¬ (y ≤ x) → GW X M (pc + 3) L S h kc ks) : GW X M pc L (.int y :: .int x :: S) h kc ks := by
  obtain ⟨⟨p, l, e, R, s, m, args, below⟩, ⟨meth, c, D, b, A, s0, Z⟩⟩ := X
  obtain ⟨hx, hb, hml, hown, hts, hN, hK, hA⟩ := C
  intro ws H locs ls S' ⟨hP, hD, hS, hRH, hpre, hL, hSt⟩
  obtain ⟨S1', rfl, hSt1⟩ := gRS_int hSt
  obtain ⟨S2', rfl, hSt2⟩ := gRS_int hSt1
  exact lv_icmp_ge hx hb hd ht (fun q => kt q ws H locs ls _ ⟨hP, hD, hS, hRH, hpre, hL, hSt2⟩) (fun q => kf q ws H locs ls _ ⟨hP, hD, hS, hRH, hpre, hL, hSt2⟩)
theorem gw_if_gt (C : gC X M) {x : Int32} {off : Int} {tgt : Nat} (hd : decode M.2.1 pc = .ok (.ifCond .gt off, 3)) (ht : (pc : Int) + off = (tgt : Int)) (kt : 0 < x → GW X M tgt L S h kc ks) (kf : ¬ (0 < x) → GW X M (pc + 3) L S h kc ks) : GW X M pc L (.int x :: S) h kc ks := by
  obtain ⟨⟨p, l, e, R, s, m, args, below⟩, ⟨meth, c, D, b, A, s0, Z⟩⟩ := X
  obtain ⟨hx, hb, hml, hown, hts, hN, hK, hA⟩ := C
  intro ws H locs ls S' ⟨hP, hD, hS, hRH, hpre, hL, hSt⟩
  obtain ⟨S1', rfl, hSt1⟩ := gRS_int hSt
  exact lv_if_gt hx hb hd ht (fun q => kt q ws H locs ls _ ⟨hP, hD, hS, hRH, hpre, hL, hSt1⟩) (fun q => kf q ws H locs ls _ ⟨hP, hD, hS, hRH, hpre, hL, hSt1⟩)
theorem gw_icmp_gt (C : gC X M) {x y : Int32} {off : Int} {tgt : Nat} (hd : decode M.2.1 pc = .ok (.if_icmp .gt off, 3)) (ht : (pc : Int) + off = (tgt : Int)) (kt : y < x → GW X M tgt L S h kc ks) (kf : ¬ (y < x) → GW X M (pc + 3) L S h kc ks) : GW X M pc L (.int y :: .int x :: S) h kc ks := by
  obtain ⟨⟨p, l, e, R, s, m, args, below⟩, ⟨meth, c, D, b, A, s0, Z⟩⟩ := X
  obtain ⟨hx, hb, hml, hown, hts, hN, hK, hA⟩ := C
  intro ws H locs ls S' ⟨hP, hD, hS, hRH, hpre, hL, hSt⟩
  obtain ⟨S1', rfl, hSt1⟩ := gRS_int hSt
  obtain ⟨S2', rfl, hSt2⟩ := gRS_int hSt1
  exact lv_icmp_gt hx hb hd ht (fun q => kt q ws H locs ls _ ⟨hP, hD, hS, hRH, hpre, hL, hSt2⟩) (fun q => kf q ws H locs ls _ ⟨hP, hD, hS, hRH, hpre, hL, hSt2⟩)
theorem gw_if_le (C : gC X M) {x : Int32} {off : Int} {tgt : Nat} (hd : decode M.2.1 pc = .ok (.ifCond .le off, 3)) (ht : (pc : Int) + off = (tgt : Int)) (kt : x ≤ 0 → GW X M tgt L S h kc ks) (kf : ¬ (x ≤ 0) → GW X M (pc + 3) L S h kc ks) : GW X M pc L (.int x :: S) h kc ks := by
  obtain ⟨⟨p, l, e, R, s, m, args, below⟩, ⟨meth, c, D, b, A, s0, Z⟩⟩ := X
  obtain ⟨hx, hb, hml, hown, hts, hN, hK, hA⟩ := C
  intro ws H locs ls S' ⟨hP, hD, hS, hRH, hpre, hL, hSt⟩
  obtain ⟨S1', rfl, hSt1⟩ := gRS_int hSt
  exact lv_if_le hx hb hd ht (fun q => kt q ws H locs ls _ ⟨hP, hD, hS, hRH, hpre, hL, hSt1⟩) (fun q => kf q ws H locs ls _ ⟨hP, hD, hS, hRH, hpre, hL, hSt1⟩)
theorem gw_icmp_le (C : gC X M) {x y : Int32} {off : Int} {tgt : Nat} (hd : decode M.2.1 pc = .ok (.if_icmp .le off, 3)) (ht : (pc : Int) + off = (tgt : Int)) (kt : x ≤ y → GW X M tgt L S h kc ks) (kf : ¬ (x ≤ y) → GW X M (pc + 3) L S h kc ks) : GW X M pc L (.int y :: .int x :: S) h kc ks := by
  obtain ⟨⟨p, l, e, R, s, m, args, below⟩, ⟨meth, c, D, b, A, s0, Z⟩⟩ := X
  obtain ⟨hx, hb, hml, hown, hts, hN, hK, hA⟩ := C
  intro ws H locs ls S' ⟨hP, hD, hS, hRH, hpre, hL, hSt⟩
  obtain ⟨S1', rfl, hSt1⟩ := gRS_int hSt
  obtain ⟨S2', rfl, hSt2⟩ := gRS_int hSt1
  exact lv_icmp_le hx hb hd ht (fun q => kt q ws H locs ls _ ⟨hP, hD, hS, hRH, hpre, hL, hSt2⟩) (fun q => kf q ws H locs ls _ ⟨hP, hD, hS, hRH, hpre, hL, hSt2⟩)
theorem gw_goto (C : gC X M) {off : Int} {tgt : Nat} (hd : decode M.2.1 pc = .ok (.goto off, 3)) (ht : (pc : Int) + off = (tgt : Int)) (k : GW X M tgt L S h kc ks) : GW X M pc L S h kc ks := by
  obtain ⟨⟨p, l, e, R, s, m, args, below⟩, ⟨meth, c, D, b, A, s0, Z⟩⟩ := X
  obtain ⟨hx, hb, hml, hown, hts, hN, hK, hA⟩ := C
  intro ws H locs ls S' ⟨hP, hD, hS, hRH, hpre, hL, hSt⟩
  exact lv_goto hx hb hd ht (k ws H locs ls _ ⟨hP, hD, hS, hRH, hpre, hL, hSt⟩)
theorem gw_ifnonnull (C : gC X M) {x : Nat} {off : Int} {tgt : Nat} (hd : decode M.2.1 pc = .ok (.ifnonnull off, 3)) (ht : (pc : Int) + off = (tgt : Int)) (k : GW X M tgt L S h kc ks) : GW X M pc L (.ref x :: S) h kc ks := by
  obtain ⟨⟨p, l, e, R, s, m, args, below⟩, ⟨meth, c, D, b, A, s0, Z⟩⟩ := X
  obtain ⟨hx, hb, hml, hown, hts, hN, hK, hA⟩ := C
  intro ws H locs ls S' ⟨hP, hD, hS, hRH, hpre, hL, hSt⟩
  obtain ⟨a, S1', ha, rfl, hSt1⟩ := gRS_ref hSt
  exact lv_ifnonnull hx hb hd ht (k ws H locs ls _ ⟨hP, hD, hS, hRH, hpre, hL, hSt1⟩)
theorem gw_ifnonnullN (C : gC X M) {off : Int} (hd : decode M.2.1 pc = .ok (.ifnonnull off, 3)) (k : GW X M (pc + 3) L S h kc ks) : GW X M pc L (.null :: S) h kc ks := by
  obtain ⟨⟨p, l, e, R, s, m, args, below⟩, ⟨meth, c, D, b, A, s0, Z⟩⟩ := X
  obtain ⟨hx, hb, hml, hown, hts, hN, hK, hA⟩ := C
  intro ws H locs ls S' ⟨hP, hD, hS, hRH, hpre, hL, hSt⟩
  obtain ⟨S1', rfl, hSt1⟩ := gRS_null hSt
  exact lv_ifnonnullN hx hb hd (k ws H locs ls _ ⟨hP, hD, hS, hRH, hpre, hL, hSt1⟩)
theorem gw_ifnull (C : gC X M) {x : Nat} {off : Int} (hd : decode M.2.1 pc = .ok (.ifnull off, 3)) (k : GW X M (pc + 3) L S h kc ks) : GW X M pc L (.ref x :: S) h kc ks := by
  obtain ⟨⟨p, l, e, R, s, m, args, below⟩, ⟨meth, c, D, b, A, s0, Z⟩⟩ := X
  obtain ⟨hx, hb, hml, hown, hts, hN, hK, hA⟩ := C
  intro ws H locs ls S' ⟨hP, hD, hS, hRH, hpre, hL, hSt⟩
  obtain ⟨a, S1', ha, rfl, hSt1⟩ := gRS_ref hSt
  exact lv_ifnull hx hb hd (k ws H locs ls _ ⟨hP, hD, hS, hRH, hpre, hL, hSt1⟩)
theorem gw_ifnullN (C : gC X M) {off : Int} {tgt : Nat} (hd : decode M.2.1 pc = .ok (.ifnull off, 3)) (ht : (pc : Int) + off = (tgt : Int)) (k : GW X M tgt L S h kc ks) : GW X M pc L (.null :: S) h kc ks := by
  obtain ⟨⟨p, l, e, R, s, m, args, below⟩, ⟨meth, c, D, b, A, s0, Z⟩⟩ := X
  obtain ⟨hx, hb, hml, hown, hts, hN, hK, hA⟩ := C
  intro ws H locs ls S' ⟨hP, hD, hS, hRH, hpre, hL, hSt⟩
  obtain ⟨S1', rfl, hSt1⟩ := gRS_null hSt
  exact lv_ifnullN hx hb hd ht (k ws H locs ls _ ⟨hP, hD, hS, hRH, hpre, hL, hSt1⟩)
theorem gw_tableOut (C : gC X M) {dflt lo hi : Int} {offs : Array Int} {len : Nat} {x : Int32} {tgt : Nat} (hd : decode M.2.1 pc = .ok (.tableswitch dflt lo hi offs, len)) (hq : x.toInt < lo ∨ hi < x.toInt) (ht : (pc : Int) + dflt = (tgt : Int)) (k : GW X M tgt L S h kc ks) : GW X M pc L (.int x :: S) h kc ks := by
  obtain ⟨⟨p, l, e, R, s, m, args, below⟩, ⟨meth, c, D, b, A, s0, Z⟩⟩ := X
  obtain ⟨hx, hb, hml, hown, hts, hN, hK, hA⟩ := C
  intro ws H locs ls S' ⟨hP, hD, hS, hRH, hpre, hL, hSt⟩
  obtain ⟨S1', rfl, hSt1⟩ := gRS_int hSt
  exact lv_tableOut hx hb hd hq ht (k ws H locs ls _ ⟨hP, hD, hS, hRH, hpre, hL, hSt1⟩)
theorem gw_tableIn (C : gC X M) {dflt lo hi : Int} {offs : Array Int} {len : Nat} {x : Int32} {off : Int} {tgt : Nat} (hd : decode M.2.1 pc = .ok (.tableswitch dflt lo hi offs, len)) (h1 : ¬ x.toInt < lo) (h2 : ¬ hi < x.toInt) (ho : offs[(x.toInt - lo).toNat]? = some off) (ht : (pc : Int) + off = (tgt : Int)) (k : GW X M tgt L S h kc ks) : GW X M pc L (.int x :: S) h kc ks := by
  obtain ⟨⟨p, l, e, R, s, m, args, below⟩, ⟨meth, c, D, b, A, s0, Z⟩⟩ := X
  obtain ⟨hx, hb, hml, hown, hts, hN, hK, hA⟩ := C
  intro ws H locs ls S' ⟨hP, hD, hS, hRH, hpre, hL, hSt⟩
  obtain ⟨S1', rfl, hSt1⟩ := gRS_int hSt
  exact lv_tableIn hx hb hd h1 h2 ho ht (k ws H locs ls _ ⟨hP, hD, hS, hRH, hpre, hL, hSt1⟩)
theorem gw_dup (C : gC X M) {v : Value} (hd : decode M.2.1 pc = .ok (.dup, 1)) (hc : v.category = 1) (k : GW X M (pc + 1) L (v :: v :: S) h kc ks) : GW X M pc L (v :: S) h kc ks := by
  obtain ⟨⟨p, l, e, R, s, m, args, below⟩, ⟨meth, c, D, b, A, s0, Z⟩⟩ := X
  obtain ⟨hx, hb, hml, hown, hts, hN, hK, hA⟩ := C
  intro ws H locs ls S' ⟨hP, hD, hS, hRH, hpre, hL, hSt⟩
  obtain ⟨v', S1', rfl, hv, hSt1⟩ := gRS_cons hSt
  exact lv_dup hx hb hd (by rw [gRV_cat hv]; exact hc) (k ws H locs ls _ ⟨hP, hD, hS, hRH, hpre, hL, hv, hv, hSt1⟩)
theorem gw_dup2 (C : gC X M) {v w : Value} (hd : decode M.2.1 pc = .ok (.dup2, 1)) (hc : v.category = 1) (hc2 : w.category = 1) (k : GW X M (pc + 1) L (v :: w :: v :: w :: S) h kc ks) : GW X M pc L (v :: w :: S) h kc ks := by
  obtain ⟨⟨p, l, e, R, s, m, args, below⟩, ⟨meth, c, D, b, A, s0, Z⟩⟩ := X
  obtain ⟨hx, hb, hml, hown, hts, hN, hK, hA⟩ := C
  intro ws H locs ls S' ⟨hP, hD, hS, hRH, hpre, hL, hSt⟩
  obtain ⟨v', S1', rfl, hv, hSt1⟩ := gRS_cons hSt
  obtain ⟨w', S2', rfl, hw, hSt2⟩ := gRS_cons hSt1
  exact lv_dup2_11 hx hb hd (by rw [gRV_cat hv]; exact hc) (by rw [gRV_cat hw]; exact hc2) (k ws H locs ls _ ⟨hP, hD, hS, hRH, hpre, hL, hv, hw, hv, hw, hSt2⟩)
theorem gw_iald (C : gC X M) {q n : Nat} {i : Int32} {f : Nat → Int32} (hq : h[q]? = some (.inl (.int, n, .inl f))) (hin : vp_in i n) (hd : decode M.2.1 pc = .ok (.iaload, 1)) (k : GW X M (pc + 1) L (.int (f i.toNatClampNeg) :: S) h kc ks) : GW X M pc L (.int i :: .ref (q + 1) :: S) h kc ks := by
  obtain ⟨⟨p, l, e, R, s, m, args, below⟩, ⟨meth, c, D, b, A, s0, Z⟩⟩ := X
  obtain ⟨hx, hb, hml, hown, hts, hN, hK, hA⟩ := C
  intro ws H locs ls S' ⟨hP, hD, hS, hRH, hpre, hL, hSt⟩
  obtain ⟨S1', rfl, hSt1⟩ := gRS_int hSt
  obtain ⟨a, S2', ha, rfl, hSt2⟩ := gRS_ref hSt1
  obtain ⟨e', he, cA, a', rfl, hA1, hA2, hra⟩ := gRH_at hRH hq ha
  cases hra
  exact va_iald hx hb (tys := [(cA, .int)]) ⟨hK.1, fun k q hk => by cases k with | zero => cases hk; exact ⟨hA1, hA2⟩ | succ k => simp at hk⟩ hP q 0 he rfl hin hd (k ws H locs ls _ ⟨hP, hD, hS, hRH, hpre, hL, rfl, hSt2⟩)
theorem gw_bald (C : gC X M) {q n : Nat} {i : Int32} {f : Nat → Int32} (hq : h[q]? = some (.inl (.byte, n, .inl f))) (hin : vp_in i n) (hd : decode M.2.1 pc = .ok (.baload, 1)) (k : GW X M (pc + 1) L (.int (f i.toNatClampNeg) :: S) h kc ks) : GW X M pc L (.int i :: .ref (q + 1) :: S) h kc ks := by
  obtain ⟨⟨p, l, e, R, s, m, args, below⟩, ⟨meth, c, D, b, A, s0, Z⟩⟩ := X
  obtain ⟨hx, hb, hml, hown, hts, hN, hK, hA⟩ := C
  intro ws H locs ls S' ⟨hP, hD, hS, hRH, hpre, hL, hSt⟩
  obtain ⟨S1', rfl, hSt1⟩ := gRS_int hSt
  obtain ⟨a, S2', ha, rfl, hSt2⟩ := gRS_ref hSt1
  obtain ⟨e', he, cA, a', rfl, hA1, hA2, hra⟩ := gRH_at hRH hq ha
  cases hra
  exact va_bald hx hb (tys := [(cA, .byte)]) ⟨hK.1, fun k q hk => by cases k with | zero => cases hk; exact ⟨hA1, hA2⟩ | succ k => simp at hk⟩ hP q 0 he rfl hin hd (k ws H locs ls _ ⟨hP, hD, hS, hRH, hpre, hL, rfl, hSt2⟩)
theorem gw_lald (C : gC X M) {q n : Nat} {i : Int32} {f : Nat → Int64} (hq : h[q]? = some (.inl (.long, n, .inr (.inl f)))) (hin : vp_in i n) (hd : decode M.2.1 pc = .ok (.laload, 1)) (k : GW X M (pc + 1) L (.long (f i.toNatClampNeg) :: S) h kc ks) : GW X M pc L (.int i :: .ref (q + 1) :: S) h kc ks := by
  obtain ⟨⟨p, l, e, R, s, m, args, below⟩, ⟨meth, c, D, b, A, s0, Z⟩⟩ := X
  obtain ⟨hx, hb, hml, hown, hts, hN, hK, hA⟩ := C
  intro ws H locs ls S' ⟨hP, hD, hS, hRH, hpre, hL, hSt⟩
  obtain ⟨S1', rfl, hSt1⟩ := gRS_int hSt
  obtain ⟨a, S2', ha, rfl, hSt2⟩ := gRS_ref hSt1
  obtain ⟨e', he, cA, a', rfl, hA1, hA2, hra⟩ := gRH_at hRH hq ha
  cases hra
  exact va_lald hx hb (tys := [(cA, .long)]) ⟨hK.1, fun k q hk => by cases k with | zero => cases hk; exact ⟨hA1, hA2⟩ | succ k => simp at hk⟩ hP q 0 he rfl hin hd (k ws H locs ls _ ⟨hP, hD, hS, hRH, hpre, hL, rfl, hSt2⟩)
theorem gw_iast (C : gC X M) {q n : Nat} {i : Int32} {x : Int32} {f : Nat → Int32} (hq : h[q]? = some (.inl (.int, n, .inl f))) (hin : vp_in i n) (hd : decode M.2.1 pc = .ok (.iastore, 1)) (k : GW X M (pc + 1) L S (h.set q (.inl (.int, n, .inl (upd f i.toNatClampNeg x)))) kc ks) : GW X M pc L (.int x :: .int i :: .ref (q + 1) :: S) h kc ks := by
  obtain ⟨⟨p, l, e, R, s, m, args, below⟩, ⟨meth, c, D, b, A, s0, Z⟩⟩ := X
  obtain ⟨hx, hb, hml, hown, hts, hN, hK, hA⟩ := C
  intro ws H locs ls S' ⟨hP, hD, hS, hRH, hpre, hL, hSt⟩
  obtain ⟨S1', rfl, hSt1⟩ := gRS_int hSt
  obtain ⟨S2', rfl, hSt2⟩ := gRS_int hSt1
  obtain ⟨a, S3', ha, rfl, hSt3⟩ := gRS_ref hSt2
  obtain ⟨e', he, cA, a', rfl, hA1, hA2, hra⟩ := gRH_at hRH hq ha
  cases hra
  refine va_iast hx hb (tys := [(cA, .int)]) ⟨hK.1, fun k q hk => by cases k with | zero => cases hk; exact ⟨hA1, hA2⟩ | succ k => simp at hk⟩ hP hD hS q 0 he rfl hin hd (fun H1 locs1 hP1 hD1 hS1 => ?_)
  refine k _ H1 locs1 ls _ ⟨hP1, hD1, hS1, gRH_set hRH he ⟨cA, _, rfl, hA1, hA2, rfl⟩, ?_, ?_, ?_⟩
  · rw [gmap_set he]; exact hpre
  · rw [gmap_set he]; exact hL
  · rw [gmap_set he]; exact hSt3
theorem gw_bast (C : gC X M) {q n : Nat} {i : Int32} {x : Int32} {f : Nat → Int32} (hq : h[q]? = some (.inl (.byte, n, .inl f))) (hin : vp_in i n) (hd : decode M.2.1 pc = .ok (.bastore, 1)) (k : GW X M (pc + 1) L S (h.set q (.inl (.byte, n, .inl (upd f i.toNatClampNeg (vp_nar .byte x))))) kc ks) : GW X M pc L (.int x :: .int i :: .ref (q + 1) :: S) h kc ks := by
  obtain ⟨⟨p, l, e, R, s, m, args, below⟩, ⟨meth, c, D, b, A, s0, Z⟩⟩ := X
  obtain ⟨hx, hb, hml, hown, hts, hN, hK, hA⟩ := C
  intro ws H locs ls S' ⟨hP, hD, hS, hRH, hpre, hL, hSt⟩
  obtain ⟨S1', rfl, hSt1⟩ := gRS_int hSt
  obtain ⟨S2', rfl, hSt2⟩ := gRS_int hSt1
  obtain ⟨a, S3', ha, rfl, hSt3⟩ := gRS_ref hSt2
  obtain ⟨e', he, cA, a', rfl, hA1, hA2, hra⟩ := gRH_at hRH hq ha
  cases hra
  refine va_bast hx hb (tys := [(cA, .byte)]) ⟨hK.1, fun k q hk => by cases k with | zero => cases hk; exact ⟨hA1, hA2⟩ | succ k => simp at hk⟩ hP hD hS q 0 he rfl hin hd (fun H1 locs1 hP1 hD1 hS1 => ?_)
  refine k _ H1 locs1 ls _ ⟨hP1, hD1, hS1, gRH_set hRH he ⟨cA, _, rfl, hA1, hA2, rfl⟩, ?_, ?_, ?_⟩
  · rw [gmap_set he]; exact hpre
  · rw [gmap_set he]; exact hL
  · rw [gmap_set he]; exact hSt3
theorem gw_last (C : gC X M) {q n : Nat} {i : Int32} {x : Int64} {f : Nat → Int64} (hq : h[q]? = some (.inl (.long, n, .inr (.inl f)))) (hin : vp_in i n) (hd : decode M.2.1 pc = .ok (.lastore, 1)) (k : GW X M (pc + 1) L S (h.set q (.inl (.long, n, .inr (.inl (vp_updL f i.toNatClampNeg x))))) kc ks) : GW X M pc L (.long x :: .int i :: .ref (q + 1) :: S) h kc ks := by
  obtain ⟨⟨p, l, e, R, s, m, args, below⟩, ⟨meth, c, D, b, A, s0, Z⟩⟩ := X
  obtain ⟨hx, hb, hml, hown, hts, hN, hK, hA⟩ := C
  intro ws H locs ls S' ⟨hP, hD, hS, hRH, hpre, hL, hSt⟩
  obtain ⟨S1', rfl, hSt1⟩ := gRS_long hSt
  obtain ⟨S2', rfl, hSt2⟩ := gRS_int hSt1
  obtain ⟨a, S3', ha, rfl, hSt3⟩ := gRS_ref hSt2
  obtain ⟨e', he, cA, a', rfl, hA1, hA2, hra⟩ := gRH_at hRH hq ha
  cases hra
  refine va_last hx hb (tys := [(cA, .long)]) ⟨hK.1, fun k q hk => by cases k with | zero => cases hk; exact ⟨hA1, hA2⟩ | succ k => simp at hk⟩ hP hD hS q 0 he rfl hin hd (fun H1 locs1 hP1 hD1 hS1 => ?_)
  refine k _ H1 locs1 ls _ ⟨hP1, hD1, hS1, gRH_set hRH he ⟨cA, _, rfl, hA1, hA2, rfl⟩, ?_, ?_, ?_⟩
  · rw [gmap_set he]; exact hpre
  · rw [gmap_set he]; exact hL
  · rw [gmap_set he]; exact hSt3
theorem gw_aald (C : gC X M) {q n r : Nat} {Cn : String} {i : Int32} {f : Nat → Option Nat} (hq : h[q]? = some (.inl (.object Cn, n, .inr (.inr (.inr (.inr f)))))) (hin : vp_in i n) (hr : f i.toNatClampNeg = some r) (hd : decode M.2.1 pc = .ok (.aaload, 1)) (k : GW X M (pc + 1) L (.ref r :: S) h kc ks) : GW X M pc L (.int i :: .ref (q + 1) :: S) h kc ks := by
  obtain ⟨⟨p, l, e, R, s, m, args, below⟩, ⟨meth, c, D, b, A, s0, Z⟩⟩ := X
  obtain ⟨hx, hb, hml, hown, hts, hN, hK, hA⟩ := C
  intro ws H locs ls S' ⟨hP, hD, hS, hRH, hpre, hL, hSt⟩
  obtain ⟨S1', rfl, hSt1⟩ := gRS_int hSt
  obtain ⟨a, S2', ha, rfl, hSt2⟩ := gRS_ref hSt1
  obtain ⟨e', he, cA, a', rfl, hA1, hA2, f', rfl, hff⟩ := gRH_at hRH hq ha
  have h1 := hff i.toNatClampNeg
  rw [hr] at h1
  obtain ⟨a1, h2, h3⟩ := h1
  refine va_aldq hx hb (tys := [(cA, .object Cn)]) ⟨hK.1, fun k q hk => by cases k with | zero => cases hk; exact ⟨hA1, hA2⟩ | succ k => simp at hk⟩ hP q 0 he rfl hin hd ?_
  rw [h3]
  exact k ws H locs ls _ ⟨hP, hD, hS, hRH, hpre, hL, ⟨a1, h2, rfl⟩, hSt2⟩
theorem gw_aast (C : gC X M) {q n r ci : Nat} {w : vw_C} {vs : List Value} {i : Int32} {f : Nat → Option Nat} (hq : h[q]? = some (.inl (.object w.1, n, .inr (.inr (.inr (.inr f)))))) (hr : h[r]? = some (.inr (ci, vs))) (hc : gcl[ci]? = some w) (hin : vp_in i n) (hd : decode M.2.1 pc = .ok (.aastore, 1)) (k : GW X M (pc + 1) L S (h.set q (.inl (.object w.1, n, .inr (.inr (.inr (.inr (va_up f i.toNatClampNeg (some (r + 1))))))))) kc ks) : GW X M pc L (.ref (r + 1) :: .int i :: .ref (q + 1) :: S) h kc ks := by
  obtain ⟨⟨p, l, e, R, s, m, args, below⟩, ⟨meth, c, D, b, A, s0, Z⟩⟩ := X
  obtain ⟨hx, hb, hml, hown, hts, hN, hK, hA⟩ := C
  intro ws H locs ls S' ⟨hP, hD, hS, hRH, hpre, hL, hSt⟩
  obtain ⟨av, S1', hav, rfl, hSt1⟩ := gRS_ref hSt
  obtain ⟨S2', rfl, hSt2⟩ := gRS_int hSt1
  obtain ⟨a, S3', ha, rfl, hSt3⟩ := gRS_ref hSt2
  obtain ⟨e', he, cA, a', rfl, hA1, hA2, f', rfl, hff⟩ := gRH_at hRH hq ha
  obtain ⟨e2, he2, fs', rfl, hfs⟩ := gRH_at hRH hr hav
  refine va_astq hx hb (tys := [(cA, .object w.1)]) ⟨hK.1, fun k q hk => by cases k with | zero => cases hk; exact ⟨hA1, hA2⟩ | succ k => simp at hk⟩ hP hD hS q 0 r ci he rfl he2 hc hin hd (fun H1 locs1 hP1 hD1 hS1 => ?_)
  refine k _ H1 locs1 ls _ ⟨hP1, hD1, hS1, gRH_set hRH he ⟨cA, _, rfl, hA1, hA2, _, rfl, fun j => ?_⟩, ?_, ?_, ?_⟩
  · unfold va_up
    split
    · exact ⟨av, hav, rfl⟩
    · exact hff j
  · rw [gmap_set he]; exact hpre
  · rw [gmap_set he]; exact hL
  · rw [gmap_set he]; exact hSt3
theorem gw_alen (C : gC X M) {q : Nat} {ty : FieldType} {x : vp_A} {v : Int32} (hq : h[q]? = some (.inl (ty, x))) (hv : Int32.ofNat x.1 = v) (hd : decode M.2.1 pc = .ok (.arraylength, 1)) (k : GW X M (pc + 1) L (.int v :: S) h kc ks) : GW X M pc L (.ref (q + 1) :: S) h kc ks := by
  obtain ⟨⟨p, l, e, R, s, m, args, below⟩, ⟨meth, c, D, b, A, s0, Z⟩⟩ := X
  obtain ⟨hx, hb, hml, hown, hts, hN, hK, hA⟩ := C
  intro ws H locs ls S' ⟨hP, hD, hS, hRH, hpre, hL, hSt⟩
  obtain ⟨a, S1', ha, rfl, hSt1⟩ := gRS_ref hSt
  obtain ⟨e', he, cA, a', rfl, hA1, hA2, hra⟩ := gRH_at hRH hq ha
  exact va_alen hx hb (tys := [(cA, ty)]) ⟨hK.1, fun k q hk => by cases k with | zero => cases hk; exact ⟨hA1, hA2⟩ | succ k => simp at hk⟩ hP q 0 he rfl hv hd (k ws H locs ls _ ⟨hP, hD, hS, hRH, hpre, hL, rfl, hSt1⟩)
theorem gw_get (C : gC X M) {q ci index N : Nat} {Cn : String} {T : u_T} {fs : List Value} {v : Value} (hq : h[q]? = some (.inr (ci, fs))) (hc : gcl[ci]? = some (Cn, T, N)) (hin : ∀ w ∈ u_ws Cn T N, w ∈ gT) (j : Nat) (hj : j < N) (hl : Cond.fieldLink M.1.cls index (T j).1 (T j).2.1 (T j).2.2.1 ∈ gT) (hv : fs[j]? = some v) (hd : decode M.2.1 pc = .ok (.getfield index, 3)) (k : GW X M (pc + 3) L (v :: S) h kc ks) : GW X M pc L (.ref (q + 1) :: S) h kc ks := by
  obtain ⟨⟨p, l, e, R, s, m, args, below⟩, ⟨meth, c, D, b, A, s0, Z⟩⟩ := X
  obtain ⟨hx, hb, hml, hown, hts, hN, hK, hA⟩ := C
  intro ws H locs ls S' ⟨hP, hD, hS, hRH, hpre, hL, hSt⟩
  obtain ⟨a, S1', ha, rfl, hSt1⟩ := gRS_ref hSt
  obtain ⟨e', he, fs', rfl, hfs⟩ := gRH_at hRH hq ha
  obtain ⟨v', hv1, hv2⟩ := gRS_get hfs hv
  exact va_get hx hb hts hin hown hK hP q he hc j hj (hts _ hl) (fun _ h9 => h9) hv1 hd (k ws H locs ls _ ⟨hP, hD, hS, hRH, hpre, hL, hv2, hSt1⟩)
theorem gw_put (C : gC X M) {q ci index N : Nat} {Cn : String} {T : u_T} {fs : List Value} {v : Value} (hq : h[q]? = some (.inr (ci, fs))) (hc : gcl[ci]? = some (Cn, T, N)) (hin : ∀ w ∈ u_ws Cn T N, w ∈ gT) (ty0 : Nat → FieldType) (hty : ∀ k, k < N → parseFieldDescriptor (T k).2.2.1 = some (ty0 k)) (hne : ∀ a, a < N → ∀ b, b < N → a ≠ b → (T a).2.1 ≠ (T b).2.1) (j : Nat) (hj : j < N) (hl : Cond.fieldLink M.1.cls index (T j).1 (T j).2.1 (T j).2.2.1 ∈ gT) (hfin : (T j).2.2.2 = false) (hn : ∀ sg v', gRV sg v v' → narrow (ty0 j) v' = v') (hfit : ∀ sg v', gRV sg v v' → fits (ty0 j) v' = true) (hlen : j < fs.length) (hd : decode M.2.1 pc = .ok (.putfield index, 3)) (k : GW X M (pc + 3) L S (h.set q (.inr (ci, fs.set j v))) kc ks) : GW X M pc L (v :: .ref (q + 1) :: S) h kc ks := by
  obtain ⟨⟨p, l, e, R, s, m, args, below⟩, ⟨meth, c, D, b, A, s0, Z⟩⟩ := X
  obtain ⟨hx, hb, hml, hown, hts, hN, hK, hA⟩ := C
  intro ws H locs ls S' ⟨hP, hD, hS, hRH, hpre, hL, hSt⟩
  obtain ⟨v', S1', rfl, hv, hSt1⟩ := gRS_cons hSt
  obtain ⟨a, S2', ha, rfl, hSt2⟩ := gRS_ref hSt1
  obtain ⟨e', he, fs', rfl, hfs⟩ := gRH_at hRH hq ha
  refine va_put hx hb hts hin ty0 hty hne hown hK hP hD hS q he hc j hj (hts _ hl) (fun _ h9 => h9) hfin (hty j hj) (hn _ _ hv) (hfit _ _ hv) (by rw [gRS_len hfs]; exact hlen) hd (fun H1 locs1 hP1 hD1 hS1 => ?_)
  refine k _ H1 locs1 ls _ ⟨hP1, hD1, hS1, gRH_set hRH he ⟨_, rfl, gRS_set hv hfs j⟩, ?_, ?_, ?_⟩
  · rw [gmap_set he]; exact hpre
  · rw [gmap_set he]; exact hL
  · rw [gmap_set he]; exact hSt2
theorem gw_putF (C : gC X M) {q ci index N : Nat} {Cn : String} {T : u_T} {fs : List Value} {v : Value} (hq : h[q]? = some (.inr (ci, fs))) (hc : gcl[ci]? = some (Cn, T, N)) (hin : ∀ w ∈ u_ws Cn T N, w ∈ gT) (ty0 : Nat → FieldType) (hty : ∀ k, k < N → parseFieldDescriptor (T k).2.2.1 = some (ty0 k)) (hne : ∀ a, a < N → ∀ b, b < N → a ≠ b → (T a).2.1 ≠ (T b).2.1) (j : Nat) (hj : j < N) (hl : Cond.fieldLink M.1.cls index (T j).1 (T j).2.1 (T j).2.2.1 ∈ gT) (hfin : (T j).2.2.2 = true) (hnm : match X with | ((_, _, _, _, _, _, _, _), (meth, _)) => meth.name = "<init>") (hdecl : (T j).1 = M.1.cls) (hn : ∀ sg v', gRV sg v v' → narrow (ty0 j) v' = v') (hfit : ∀ sg v', gRV sg v v' → fits (ty0 j) v' = true) (hlen : j < fs.length) (hd : decode M.2.1 pc = .ok (.putfield index, 3)) (k : GW X M (pc + 3) L S (h.set q (.inr (ci, fs.set j v))) kc ks) : GW X M pc L (v :: .ref (q + 1) :: S) h kc ks := by
  obtain ⟨⟨p, l, e, R, s, m, args, below⟩, ⟨meth, c, D, b, A, s0, Z⟩⟩ := X
  obtain ⟨hx, hb, hml, hown, hts, hN, hK, hA⟩ := C
  intro ws H locs ls S' ⟨hP, hD, hS, hRH, hpre, hL, hSt⟩
  obtain ⟨v', S1', rfl, hv, hSt1⟩ := gRS_cons hSt
  obtain ⟨a, S2', ha, rfl, hSt2⟩ := gRS_ref hSt1
  obtain ⟨e', he, fs', rfl, hfs⟩ := gRH_at hRH hq ha
  refine va_putF hx hb hts hin ty0 hty hne hown hK hP hD hS q he hc j hj (hts _ hl) (fun _ h9 => h9) hfin hnm hdecl (hty j hj) (hn _ _ hv) (hfit _ _ hv) (by rw [gRS_len hfs]; exact hlen) hd (fun H1 locs1 hP1 hD1 hS1 => ?_)
  refine k _ H1 locs1 ls _ ⟨hP1, hD1, hS1, gRH_set hRH he ⟨_, rfl, gRS_set hv hfs j⟩, ?_, ?_, ?_⟩
  · rw [gmap_set he]; exact hpre
  · rw [gmap_set he]; exact hL
  · rw [gmap_set he]; exact hSt2
end GRULES
end
section
section GCALLS
variable {X : gCx} {M : gMd} {pc : Nat} {L : List (Nat × Value)} {S : List Value} {h : gAH} {kc ks : Nat}
theorem gpre {b : Nat} {s0 s1 : List Nat} (hp : s0 <+: s1) : ∃ t, b :: s1 = (b :: s0) ++ t := by
  obtain ⟨t, rfl⟩ := hp
  exact ⟨t, rfl⟩
/-- a new array -/
theorem gw_newarr (C : gC X M) {atype : ArrayType} {ty : FieldType} {n : Int32} {N : Nat} {a0 : (Nat → Int32) ⊕ (Nat → Int64) ⊕ (Nat → UInt32) ⊕ (Nat → UInt64) ⊕ (Nat → Option Nat)} (hc : Cond.arrayClass (newarray.typeOf atype) ∈ gT) (hty : newarray.typeOf atype = ty) (ha : ∀ cA : ClassId, vp_cell cA (N, a0) = arrV cA N (fun _ => defaultValue ty)) (hra : ∀ sg : List Nat, gRA sg a0 a0) (hn : ¬ n < 0) (hN : n.toNatClampNeg = N) (hby : N * componentBytes ty ≤ 536870912) (hR : match X with | ((_, _, _, R, _, _, _, _), _) => kc + 1 ≤ R.cells ∧ ks + N ≤ R.slots) (hd : decode M.2.1 pc = .ok (.newarray atype, 2)) (k : GW X M (pc + 2) L (.ref (h.length + 1) :: S) (h ++ [.inl (ty, N, a0)]) (kc + 1) (ks + N)) : GW X M pc L (.int n :: S) h kc ks := by
  obtain ⟨⟨p, l, e, R, s, m, args, below⟩, ⟨meth, c, D, b, A, s0, Z⟩⟩ := X
  obtain ⟨hx, hb, hml, hown, hts, hN0, hK, hA⟩ := C
  intro ws H locs ls S' ⟨hP, hD, hS, hRH, hpre, hL, hSt⟩
  obtain ⟨S1, rfl, hSt1⟩ := gRS_int hSt
  refine va_newa hx hb (hts _ hc) hty hK hP hD hS hA (a0 := (N, a0)) ha hn hN hby hR.1 hR.2 hd (fun q cA H1 hK1 hP1 hD1 hS1 => ?_)
  obtain ⟨L', hl, hLP⟩ := hL
  have hq := hK1.2 0 (cA, ty) rfl
  have es : b :: (ws ++ [(q, (Sum.inl (cA, N, a0) : va_E))]).map Prod.fst = (b :: ws.map Prod.fst) ++ [q] := by simp
  refine k _ H1 locs ls _ ⟨hP1, hD1, hS1, gRH_push hRH ⟨cA, a0, rfl, hq.1, hq.2, hra _⟩, ?_, ⟨L', hl, ?_⟩, ⟨q, ?_, rfl⟩, ?_⟩
  · rw [List.map_append]; exact hpre.trans (List.prefix_append _ _)
  · rw [es]; exact gRP_mono hLP
  · rw [es, List.getElem?_append_right (by simp [hRH.1])]; simp [hRH.1]
  · rw [es]; exact gRS_mono hSt1
theorem gw_newref (C : gC X M) {Cn : String} {index : Nat} {n : Int32} {N : Nat} (hc : Cond.classLink M.1.cls index Cn ∈ gT) (hCn : Cn = "SwingDesk$Sheet") (hn : ¬ n < 0) (hN : n.toNatClampNeg = N) (hby : N * 4 ≤ 536870912) (hR : match X with | ((_, _, _, R, _, _, _, _), _) => kc + 1 ≤ R.cells ∧ ks + N ≤ R.slots) (hd : decode M.2.1 pc = .ok (.anewarray index, 3)) (k : GW X M (pc + 3) L (.ref (h.length + 1) :: S) (h ++ [.inl (.object Cn, N, .inr (.inr (.inr (.inr (fun _ => none)))))]) (kc + 1) (ks + N)) : GW X M pc L (.int n :: S) h kc ks := by
  obtain ⟨⟨p, l, e, R, s, m, args, below⟩, ⟨meth, c, D, b, A, s0, Z⟩⟩ := X
  obtain ⟨hx, hb, hml, hown, hts, hN0, hK, hA⟩ := C
  intro ws H locs ls S' ⟨hP, hD, hS, hRH, hpre, hL, hSt⟩
  obtain ⟨S1, rfl, hSt1⟩ := gRS_int hSt
  refine va_newq hx hb hown (hts _ hc) (by rw [hCn]; exact hN0.2) hK hP hD hS hA hn hN hby hR.1 hR.2 hd (fun q cA H1 hK1 hP1 hD1 hS1 => ?_)
  obtain ⟨L', hl, hLP⟩ := hL
  have hq := hK1.2 0 (cA, .object Cn) rfl
  have es : b :: (ws ++ [(q, (Sum.inl (cA, N, .inr (.inr (.inr (.inr (fun _ => none))))) : va_E))]).map Prod.fst = (b :: ws.map Prod.fst) ++ [q] := by simp
  refine k _ H1 locs ls _ ⟨hP1, hD1, hS1, gRH_push hRH ⟨cA, _, rfl, hq.1, hq.2, _, rfl, fun i => rfl⟩, ?_, ⟨L', hl, ?_⟩, ⟨q, ?_, rfl⟩, ?_⟩
  · rw [List.map_append]; exact hpre.trans (List.prefix_append _ _)
  · rw [es]; exact gRP_mono hLP
  · rw [es, List.getElem?_append_right (by simp [hRH.1])]; simp [hRH.1]
  · rw [es]; exact gRS_mono hSt1
theorem gw_new (C : gC X M) {index ci N : Nat} {Cn : String} {T : u_T} {fs : List Value} (hc : gcl[ci]? = some (Cn, T, N)) (hin : ∀ w ∈ u_ws Cn T N, w ∈ gT) (ty : Nat → FieldType) (hty : ∀ k, k < N → parseFieldDescriptor (T k).2.2.1 = some (ty k)) (hcl : Cond.classLink M.1.cls index Cn ∈ gT) (hins : Cond.instantiable Cn N ∈ gT) (hini : Cond.initialized Cn ∈ gT) (hfs : ∀ j, j < N → defaultValue (ty j) = vp_V fs j) (hrs : ∀ sg : List Nat, gRS sg fs fs) (hR : match X with | ((_, _, _, R, _, _, _, _), _) => kc + 1 ≤ R.cells ∧ ks + N ≤ R.slots) (hd : decode M.2.1 pc = .ok (.new index, 3)) (k : GW X M (pc + 3) L (.ref (h.length + 1) :: S) (h ++ [.inr (ci, fs)]) (kc + 1) (ks + N)) : GW X M pc L S h kc ks := by
  obtain ⟨⟨p, l, e, R, s, m, args, below⟩, ⟨meth, c, D, b, A, s0, Z⟩⟩ := X
  obtain ⟨hx, hb, hml, hown, hts, hN0, hK, hA⟩ := C
  intro ws H locs ls S' ⟨hP, hD, hS, hRH, hpre, hL, hSt⟩
  refine va_new hx hb hts hin ty hty hown (hts _ hcl) (hts _ hins) (hts _ hini) hK hP hD hS hA hc hfs hR.1 hR.2 hd (fun q H1 hP1 hD1 hS1 => ?_)
  obtain ⟨L', hl, hLP⟩ := hL
  have es : b :: (ws ++ [(q, (Sum.inr (ci, fs) : va_E))]).map Prod.fst = (b :: ws.map Prod.fst) ++ [q] := by simp
  refine k _ H1 locs ls _ ⟨hP1, hD1, hS1, gRH_push hRH ⟨_, rfl, hrs _⟩, ?_, ⟨L', hl, ?_⟩, ⟨q, ?_, rfl⟩, ?_⟩
  · rw [List.map_append]; exact hpre.trans (List.prefix_append _ _)
  · rw [es]; exact gRP_mono hLP
  · rw [es, List.getElem?_append_right (by simp [hRH.1])]; simp [hRH.1]
  · rw [es]; exact gRS_mono hSt
/-- Object's constructor -/
theorem gw_objInit (C : gC X M) {q index : Nat} (hl : Cond.methodLink M.1.cls index Lib.objectInit ∈ gT) (hi : Cond.instanceMethod Lib.objectInit ∈ gT) (hcd : Cond.code Lib.objectInit ⟨#[0xb1]⟩ 1 none ∈ gT) (hsum : (S.map fun v => v.category).sum ≤ 8) (hR : match X with | ((_, _, _, R, _, _, _, _), _) => 1 ≤ R.frames ∧ 20 ≤ R.locals) (hd : decode M.2.1 pc = .ok (.invokespecial index, 3)) (k : GW X M (pc + 3) L S h kc ks) : GW X M pc L (.ref q :: S) h kc ks := by
  obtain ⟨⟨p, l, e, R, s, m, args, below⟩, ⟨meth, c, D, b, A, s0, Z⟩⟩ := X
  obtain ⟨hx, hb, hml, hown, hts, hN0, hK, hA⟩ := C
  intro ws H locs ls S' ⟨hP, hD, hS, hRH, hpre, hL, hSt⟩
  obtain ⟨a, S1, ha, rfl, hSt1⟩ := gRS_ref hSt
  obtain ⟨L', hl1, hLP⟩ := hL
  have hcat := gRS_cat hSt1
  refine W.objInit hx hb hown (hts _ hl) (hts _ hi) (hts _ hcd) rfl (by rw [hml]; exact hl1.1) rfl hd hR.1 ?_ ?_
  · have hr := hR.2
    have := lv_room (m := m) (pc := pc) (ls := ls) (rest := S1) (st := S1) (by rw [hcat]; exact hsum)
    show 2 * (F0 m pc ls (Value.ref a :: S1)).monitorRoom + _ + 12 ≤ R.locals
    have e1 : (F0 m pc ls (Value.ref a :: S1)).monitorRoom = (F0 m pc ls S1).monitorRoom := rfl
    rw [e1]
    omega
  · exact k ws H locs ls _ ⟨hP, hD, hS, hRH, hpre, ⟨L', hl1, hLP⟩, hSt1⟩
/-- behind a call -/
theorem gcall_on {p : Program} {l : Launch} {e : Env} {R : Room} {s : State} {m : MethodId} {args : Array Value} {below : List Frame} {meth : Method} {c : Code} {D : va_G} {b : Nat} {A : Nat → Prop} {s0 : List Nat} {Z : State → Prop} {ws : va_W} {H : Heap} {locs : List Loc} {ls : Array Slot} {mc ms : Nat} {st0 rest : List Value} {a : Array Value} {Q : Option Value → gAH → Prop} {L' : List (Nat × Value)}
    (hr : va_Run p l e R s m args below meth c H locs kc ks mc ms (F0 m pc ls st0) rest (gQC D b (ws.map Prod.fst) (va_A ws H.size) Q a) (va_A ws H.size)) (hD : va_D A ws) (hS : va_S A s.heap H locs) (hA : ∀ q : Nat, s.heap.size ≤ q → A q) (hpre : s0 <+: ws.map Prod.fst) (hl : lv_has ls M.2.2.1 L') (hLP : gRP (b :: ws.map Prod.fst) L L') (hSt : gRS (b :: ws.map Prod.fst) S rest)
    (k : ∀ r h', Q r h' → GW ((p, l, e, R, s, m, args, below), (meth, c, D, b, A, s0, Z)) M (pc + 3) L (r.toList ++ S) h' (kc + mc) (ks + ms)) : W p l e R s m args below meth c H locs kc ks Z (F0 m pc ls st0) := by
  have hf : ∀ q, va_A ws H.size q → A q := by
    intro q hq
    rcases hq with ⟨j, e1, hj⟩ | hq
    · exact hD.2 j _ hj
    · exact hA q (Nat.le_trans hS.1 hq)
  intro T hT X
  obtain ⟨v, st₀, t, T', L1, h0, X', hL1, e1, e2, ⟨⟨v0, v', h', ws', hv, hq, hrov, hP', hK', hD', hRH', hpre'⟩, hz, hk⟩, st⟩ := hr T hT X
  cases hv
  rw [h0] at hz hk
  have hal : s.vm.Alike t.vm := by rw [← e2]; exact X'.warmed.alike
  obtain ⟨tt, htt⟩ := gpre (b := b) hpre'
  have hG := k v0 h' hq
  have hw := hG ws' T'.heap (locs ++ L1) ls (v.toList ++ rest) ⟨by rw [e1]; exact hP', hD'.weaken (fun _ q _ z => hf q.1 z), ⟨Nat.le_trans hS.1 (by rw [e1]; exact hz), fun q h1 h2 => by rw [e1, hk q (Nat.lt_of_lt_of_le h1 hS.1) (fun z => h2 (hf q z))]; exact hS.2.1 q h1 h2, fun q hq => by
      rcases List.mem_append.mp hq with h | h
      · exact hS.2.2 q h
      · exact hf _ (hL1 q h)⟩, gRH_moved hal.symm hRH', hpre.trans hpre', ⟨L', hl, by rw [htt]; exact gRP_mono hLP⟩, gRS_app (by
        cases v0 with
        | none => cases hrov; exact trivial
        | some w => obtain ⟨w', rfl, hw⟩ := hrov; exact ⟨hw, trivial⟩) (by rw [htt]; exact gRS_mono hSt)⟩
  obtain ⟨t2, a1, b1⟩ := hw T' rfl X'
  exact ⟨t2, st t2 a1, b1⟩
theorem gblind {D : va_G} {b : Nat} {h : gAH} {ws : va_W} {sz : Nat} {av : List Value} : FrameBlind (va_Pc av (gB D b h ws sz)) := by
  intro a U g mk q
  obtain ⟨q0, q1, qP, qK, qD, qH, qN⟩ := q
  exact ⟨q0, q1, qP, va_K.moved (u := U) (U := U.calling g mk a) (Vm.Alike.refl U.vm) qK, qD, gRH_moved (u := U) (U := U.calling g mk a) (Vm.Alike.refl U.vm) qH, gN_same (s := U) (U := U.calling g mk a) rfl qN⟩
theorem gpreS {s : State} {H : Heap} {D : va_G} {b : Nat} {h : gAH} {ws : va_W} {av : List Value} {A : Nat → Prop} (hP : va_P D gcl ws H) (hD : va_D A ws) (hK : va_K D gcl [] s) (hRH : gRH s (b :: ws.map Prod.fst) h ws) (hN : gN s) : ∀ U : State, U.heap = H → s.WarmedH U.vm → va_Pc av (gB D b h ws H.size) av.toArray U :=
  fun U hU hW => ⟨rfl, by rw [hU], by rw [hU]; exact hP, va_K.moved hW.alike hK, hD.weaken (fun _ _ _ _ => trivial), gRH_moved hW.alike hRH, gN_warm hW hN⟩
/-- the words of a method's calls: its code among the tables, and plain -/
def gOk (N : gMd) (n : Nat) : Prop := Cond.code N.1 N.2.1 N.2.2.1 N.2.2.2.1 ∈ gT ∧ (N.1.cls ≠ "java/lang/invoke/MethodHandle" ∧ N.1.cls ≠ "java/lang/invoke/VarHandle" ∧ (parseMethodDescriptor N.1.desc).map (fun d => d.parameters.length) = some n) ∧ N.2.2.1 ≤ 21
theorem gT_good : ∀ w ∈ gT, w ∈ gT ∧ ((w.onTables && w.keeps) = true ∨ ∃ ty, w = .arrayClass ty) := fun w hw => ⟨hw, good_of_word (List.mem_filter.mp hw).2⟩
theorem gWs_good {N : gMd} {n : Nat} (hN : gOk N n) : GoodIn gT (gWs N) := by
  intro w hw
  rcases List.mem_cons.mp hw with rfl | hw
  · exact gT_good _ hN.1
  · exact gT_good w hw
/-- a room that holds the callee's -/
def gFit (R : Room) (d : Nat) (kc ks : Nat) (N : gMd) : Prop := d + 1 ≤ R.frames ∧ 40 * d + 40 ≤ R.locals ∧ kc + N.2.2.2.2.1 ≤ R.cells ∧ ks + N.2.2.2.2.2 ≤ R.slots
theorem gFitD {d kc ks : Nat} {M N : gMd} (h1 : kc + N.2.2.2.2.1 ≤ M.2.2.2.2.1) (h2 : ks + N.2.2.2.2.2 ≤ M.2.2.2.2.2) : gFit (gRm (d + 1) M) d kc ks N := ⟨Nat.le_refl _, by show 40 * d + 40 ≤ 40 * (d + 1); omega, h1, h2⟩
theorem gw_callV (C : gC X M) {d n index q ci Nf : Nat} {Cn : String} {T : u_T} {fs av : List Value} (N : gMd) {Q : Option Value → gAH → Prop} (hN : gOk N n) (hav : av.length = n) (hq : h[q]? = some (.inr (ci, fs))) (hc : gcl[ci]? = some (Cn, T, Nf)) (hy : N.1.cls = Cn) (hl : Cond.methodLink M.1.cls index N.1 ∈ gT) (hi : Cond.instanceMethod N.1 ∈ gT) (hse : Cond.selects Cn N.1 N.1 ∈ gT) (hini : Cond.initialized Cn ∈ gT) (hsum : (S.map fun v => v.category).sum ≤ 8) (hF : match X with | ((_, _, _, R, _, _, _, _), _) => gFit R d kc ks N) (hd : decode M.2.1 pc = .ok (.invokevirtual index, 3)) (hM : match X with | (_, (_, _, D, _)) => AM D d N (.ref (q + 1) :: av) h Q) (k : ∀ r h', Q r h' → GW X M (pc + 3) L (r.toList ++ S) h' (kc + N.2.2.2.2.1) (ks + N.2.2.2.2.2)) : GW X M pc L (av.reverse ++ .ref (q + 1) :: S) h kc ks := by
  obtain ⟨⟨p, l, e, R, s, m, args, below⟩, ⟨meth, c, D, b, A, s0, Z⟩⟩ := X
  obtain ⟨hx, hb, hml, hown, hts, hN0, hK, hA⟩ := C
  intro ws H locs ls S' ⟨hP, hD, hS, hRH, hpre, ⟨L', hl1, hLP⟩, hSt⟩
  obtain ⟨Sa, Sb, rfl, hSa, hSb⟩ := gRS_split hSt
  obtain ⟨a, S1, ha, rfl, hSt1⟩ := gRS_ref hSb
  obtain ⟨e', he, fs', rfl, hfs⟩ := gRH_at hRH hq ha
  have hra := gRS_rev hSa
  rw [List.reverse_reverse] at hra
  have hcat := gRS_cat hSt1
  refine gcall_on (M := M) (L := L) (S := S) (va_runV (n := n) (As := Sa.reverse) (rest := S1) (b := a) ⟨hx, hb, hml, hown, hts⟩ (hM l b ws H.size (.ref a :: Sa.reverse) ⟨⟨a, ha, rfl⟩, hra⟩) ⟨⟨rfl, rfl, hF.1, ?_, pay_in hts (gWs_good hN), List.mem_cons_self, hts _ hN.1, by rw [hy]; exact hts _ hini, ⟨hN.2.1.1, hN.2.1.2.1⟩, ?_, hts _ hl⟩, hts _ hi, hts _ hse⟩ ⟨gblind, va_recv hK hP hc he, gpreS hP hD hK hRH hN0⟩ rfl (by rw [List.length_reverse, gRS_len hSa, List.length_reverse]; exact hav) hl1.1 (by rw [List.reverse_reverse]) (lv_room (by rw [hcat]; exact hsum)) hd hF.2.2) hD hS hA hpre hl1 hLP hSt1 k
  · have h1 := hF.2.1
    have h2 := hN.2.2
    show 8 + (N.2.2.1 + 11) + 40 * d ≤ R.locals
    omega
  · intro sig hsig
    have h2 := hN.2.1.2.2
    rw [hsig] at h2
    exact (Option.some.inj h2).symm
theorem gw_callS (C : gC X M) {d n index : Nat} {av : List Value} (N : gMd) {Q : Option Value → gAH → Prop} (hN : gOk N n) (hav : av.length = n) (hl : Cond.methodLink M.1.cls index N.1 ∈ gT) (hst : Cond.static N.1 ∈ gT) (hini : Cond.initialized N.1.cls ∈ gT) (hsum : (S.map fun v => v.category).sum ≤ 8) (hF : match X with | ((_, _, _, R, _, _, _, _), _) => gFit R d kc ks N) (hd : decode M.2.1 pc = .ok (.invokestatic index, 3)) (hM : match X with | (_, (_, _, D, _)) => AM D d N av h Q) (k : ∀ r h', Q r h' → GW X M (pc + 3) L (r.toList ++ S) h' (kc + N.2.2.2.2.1) (ks + N.2.2.2.2.2)) : GW X M pc L (av.reverse ++ S) h kc ks := by
  obtain ⟨⟨p, l, e, R, s, m, args, below⟩, ⟨meth, c, D, b, A, s0, Z⟩⟩ := X
  obtain ⟨hx, hb, hml, hown, hts, hN0, hK, hA⟩ := C
  intro ws H locs ls S' ⟨hP, hD, hS, hRH, hpre, ⟨L', hl1, hLP⟩, hSt⟩
  obtain ⟨Sa, S1, rfl, hSa, hSt1⟩ := gRS_split hSt
  have hra := gRS_rev hSa
  rw [List.reverse_reverse] at hra
  have hcat := gRS_cat hSt1
  refine gcall_on (M := M) (L := L) (S := S) (va_runS (n := n) (As := Sa.reverse) (rest := S1) ⟨hx, hb, hml, hown, hts⟩ (hM l b ws H.size Sa.reverse hra) ⟨⟨rfl, rfl, hF.1, ?_, pay_in hts (gWs_good hN), List.mem_cons_self, hts _ hN.1, hts _ hini, ⟨hN.2.1.1, hN.2.1.2.1⟩, ?_, hts _ hl⟩, hts _ hst⟩ ⟨gblind, gpreS hP hD hK hRH hN0⟩ rfl (by rw [List.length_reverse, gRS_len hSa, List.length_reverse]; exact hav) hl1.1 (by rw [List.reverse_reverse]) (lv_room (by rw [hcat]; exact hsum)) hd hF.2.2) hD hS hA hpre hl1 hLP hSt1 k
  · have h1 := hF.2.1
    have h2 := hN.2.2
    show 8 + (N.2.2.1 + 11) + 40 * d ≤ R.locals
    omega
  · intro sig hsig
    have h2 := hN.2.1.2.2
    rw [hsig] at h2
    exact (Option.some.inj h2).symm
theorem gw_callN (C : gC X M) {d n index : Nat} {host : String} {av : List Value} (N : gMd) {Q : Option Value → gAH → Prop} (hN : gOk N n) (hav : av.length = n) (hl : Cond.methodLinkNest M.1.cls index N.1 host ∈ gNest) (hst : Cond.static N.1 ∈ gT) (hini : Cond.initialized N.1.cls ∈ gT) (hsum : (S.map fun v => v.category).sum ≤ 8) (hF : match X with | ((_, _, _, R, _, _, _, _), _) => gFit R d kc ks N) (hd : decode M.2.1 pc = .ok (.invokestatic index, 3)) (hM : match X with | (_, (_, _, D, _)) => AM D d N av h Q) (k : ∀ r h', Q r h' → GW X M (pc + 3) L (r.toList ++ S) h' (kc + N.2.2.2.2.1) (ks + N.2.2.2.2.2)) : GW X M pc L (av.reverse ++ S) h kc ks := by
  obtain ⟨⟨p, l, e, R, s, m, args, below⟩, ⟨meth, c, D, b, A, s0, Z⟩⟩ := X
  obtain ⟨hx, hb, hml, hown, hts, hN0, hK, hA⟩ := C
  intro ws H locs ls S' ⟨hP, hD, hS, hRH, hpre, ⟨L', hl1, hLP⟩, hSt⟩
  obtain ⟨Sa, S1, rfl, hSa, hSt1⟩ := gRS_split hSt
  have hra := gRS_rev hSa
  rw [List.reverse_reverse] at hra
  have hcat := gRS_cat hSt1
  refine gcall_on (M := M) (L := L) (S := S) (va_runSN (n := n) (As := Sa.reverse) (rest := S1) (host := host) ⟨hx, hb, hml, hown, hts⟩ (hM l b ws H.size Sa.reverse hra) ⟨⟨⟨rfl, rfl, hF.1, ?_, pay_in hts (gWs_good hN), List.mem_cons_self⟩, hts _ hN.1, hts _ hini, ⟨hN.2.1.1, hN.2.1.2.1⟩, ?_, va_Nw.use rfl (hN0.1 _ hl)⟩, hts _ hst, trivial⟩ ⟨gblind, gpreS hP hD hK hRH hN0⟩ rfl (by rw [List.length_reverse, gRS_len hSa, List.length_reverse]; exact hav) hl1.1 (by rw [List.reverse_reverse]) (lv_room (by rw [hcat]; exact hsum)) hd hF.2.2) hD hS hA hpre hl1 hLP hSt1 k
  · have h1 := hF.2.1
    have h2 := hN.2.2
    show 8 + (N.2.2.1 + 11) + 40 * d ≤ R.locals
    omega
  · intro sig hsig
    have h2 := hN.2.1.2.2
    rw [hsig] at h2
    exact (Option.some.inj h2).symm
theorem gw_callI (C : gC X M) {d n index q : Nat} {av : List Value} (N : gMd) {Q : Option Value → gAH → Prop} (hN : gOk N n) (hrt : N.2.2.2.1 = none) (hav : av.length = n) (hl : Cond.methodLink M.1.cls index N.1 ∈ gT) (hi : Cond.instanceMethod N.1 ∈ gT) (hnm : N.1.name = "<init>") (hini : Cond.initialized N.1.cls ∈ gT) (hsum : (S.map fun v => v.category).sum ≤ 8) (hF : match X with | ((_, _, _, R, _, _, _, _), _) => gFit R d kc ks N) (hd : decode M.2.1 pc = .ok (.invokespecial index, 3)) (hM : match X with | (_, (_, _, D, _)) => AM D d N (.ref q :: av) h Q) (k : ∀ r h', Q r h' → GW X M (pc + 3) L (r.toList ++ S) h' (kc + N.2.2.2.2.1) (ks + N.2.2.2.2.2)) : GW X M pc L (av.reverse ++ .ref q :: S) h kc ks := by
  obtain ⟨⟨p, l, e, R, s, m, args, below⟩, ⟨meth, c, D, b, A, s0, Z⟩⟩ := X
  obtain ⟨hx, hb, hml, hown, hts, hN0, hK, hA⟩ := C
  intro ws H locs ls S' ⟨hP, hD, hS, hRH, hpre, ⟨L', hl1, hLP⟩, hSt⟩
  obtain ⟨Sa, Sb, rfl, hSa, hSb⟩ := gRS_split hSt
  obtain ⟨a, S1, ha, rfl, hSt1⟩ := gRS_ref hSb
  have hra := gRS_rev hSa
  rw [List.reverse_reverse] at hra
  have hcat := gRS_cat hSt1
  have hcd := hN.1
  have hgw := gWs_good hN
  obtain ⟨ny, nb, nl, nr, nc, ns⟩ := N
  dsimp only at hrt
  subst hrt
  refine gcall_on (M := M) (L := L) (S := S) (va_runI (n := n) (As := Sa.reverse) (rest := S1) (b := a) ⟨hx, hb, hml, hown, hts⟩ (hM l b ws H.size (.ref a :: Sa.reverse) ⟨⟨a, ha, rfl⟩, hra⟩) ⟨⟨rfl, rfl, hF.1, ?_, pay_in hts hgw, List.mem_cons_self, hts _ hcd, hts _ hini, ⟨hN.2.1.1, hN.2.1.2.1⟩, ?_, hts _ hl⟩, hnm, hts _ hi⟩ ⟨gblind, gpreS hP hD hK hRH hN0⟩ rfl (by rw [List.length_reverse, gRS_len hSa, List.length_reverse]; exact hav) hl1.1 (by rw [List.reverse_reverse]) (lv_room (by rw [hcat]; exact hsum)) hd hF.2.2) hD hS hA hpre hl1 hLP hSt1 k
  · have h1 := hF.2.1
    have h2 := hN.2.2
    show 8 + (nl + 11) + 40 * d ≤ R.locals
    dsimp only at h2
    omega
  · intro sig hsig
    have h2 := hN.2.1.2.2
    dsimp only at h2
    rw [hsig] at h2
    exact (Option.some.inj h2).symm
end GCALLS
end
section
section GENDS
variable {X : gCx} {M : gMd} {pc : Nat} {L : List (Nat × Value)} {S : List Value} {h : gAH} {kc ks : Nat} {D : va_G} {d : Nat} {Q : Option Value → gAH → Prop}
theorem gq_end {s t : State} {b : Nat} {A : Nat → Prop} {s0 : List Nat} {H : Heap} {ws : va_W} {locs : List Loc} {args : Array Value} {v v' : Option Value} (hq : Q v h) (hv : gROV (b :: ws.map Prod.fst) v v') (hP : va_P D gcl ws H) (hD : va_D A ws) (hS : va_S A s.heap H locs) (hRH : gRH s (b :: ws.map Prod.fst) h ws) (hK : va_K D gcl [] s) (hpre : s0 <+: ws.map Prod.fst) (ht : t.heap = H) (hW : s.WarmedH t.vm) : gQC D b s0 A Q args s (.returned v') t :=
  ⟨⟨v, v', h, ws, rfl, hq, hv, by rw [ht]; exact hP, va_K.moved hW.alike hK, hD, gRH_moved hW.alike hRH, hpre⟩, hS.F ht⟩
theorem gw_iret (CX : gCX D d M Q X) {ty : FieldType} {x : Int32} (hr : M.2.2.2.1 = some ty) (hn : narrow ty (.int x) = .int x) (hq : Q (some (.int x)) h) (hkc : kc ≤ M.2.2.2.2.1) (hks : ks ≤ M.2.2.2.2.2) (hd : decode M.2.1 pc = .ok (.ireturn, 1)) : GW X M pc L [.int x] h kc ks := by
  obtain ⟨⟨p, l, e, R, s, m, args, below⟩, ⟨meth, c, D', b, A, s0, Z⟩⟩ := X
  obtain ⟨⟨hx, hb, hml, hown, hts, hN, hK, hA⟩, hD0, hR, hret, hlocks, hnm, hZ⟩ := CX
  subst hD0
  subst hZ
  intro ws H locs ls S' ⟨hP, hD, hS, hRH, hpre, hL, hSt⟩
  obtain ⟨S1, rfl, hSt1⟩ := gRS_int hSt
  cases gRS_nil hSt1
  refine W.widen hkc hks ?_
  exact W.zret hx hb (hret.trans hr) hn (fun t ht hW => gq_end hq ⟨_, rfl, rfl⟩ hP hD hS hRH hK hpre ht hW) hS.2.2 hd hlocks
theorem gw_lret (CX : gCX D d M Q X) {x : Int64} (hr : M.2.2.2.1 = some .long) (hq : Q (some (.long x)) h) (hkc : kc ≤ M.2.2.2.2.1) (hks : ks ≤ M.2.2.2.2.2) (hd : decode M.2.1 pc = .ok (.lreturn, 1)) : GW X M pc L [.long x] h kc ks := by
  obtain ⟨⟨p, l, e, R, s, m, args, below⟩, ⟨meth, c, D', b, A, s0, Z⟩⟩ := X
  obtain ⟨⟨hx, hb, hml, hown, hts, hN, hK, hA⟩, hD0, hR, hret, hlocks, hnm, hZ⟩ := CX
  subst hD0
  subst hZ
  intro ws H locs ls S' ⟨hP, hD, hS, hRH, hpre, hL, hSt⟩
  obtain ⟨S1, rfl, hSt1⟩ := gRS_long hSt
  cases gRS_nil hSt1
  refine W.widen hkc hks ?_
  exact W.lret hx hb (hret.trans hr) (fun t ht hW => gq_end hq ⟨_, rfl, rfl⟩ hP hD hS hRH hK hpre ht hW) hS.2.2 hd hlocks
theorem gw_vret (CX : gCX D d M Q X) (hr : M.2.2.2.1 = none) (hq : Q none h) (hkc : kc ≤ M.2.2.2.2.1) (hks : ks ≤ M.2.2.2.2.2) (hd : decode M.2.1 pc = .ok (.return_, 1)) : GW X M pc L [] h kc ks := by
  obtain ⟨⟨p, l, e, R, s, m, args, below⟩, ⟨meth, c, D', b, A, s0, Z⟩⟩ := X
  obtain ⟨⟨hx, hb, hml, hown, hts, hN, hK, hA⟩, hD0, hR, hret, hlocks, hnm, hZ⟩ := CX
  subst hD0
  subst hZ
  intro ws H locs ls S' ⟨hP, hD, hS, hRH, hpre, hL, hSt⟩
  cases gRS_nil hSt
  refine W.widen hkc hks ?_
  exact W.vret hx hb (hret.trans hr) (fun t ht hW => gq_end hq rfl hP hD hS hRH hK hpre ht hW) hS.2.2 hd hlocks
theorem gw_aret (CX : gCX D d M Q X) {Cn : String} {q : Nat} (hr : M.2.2.2.1 = some (.object Cn)) (hq : Q (some (.ref q)) h) (hkc : kc ≤ M.2.2.2.2.1) (hks : ks ≤ M.2.2.2.2.2) (hd : decode M.2.1 pc = .ok (.areturn, 1)) : GW X M pc L [.ref q] h kc ks := by
  obtain ⟨⟨p, l, e, R, s, m, args, below⟩, ⟨meth, c, D', b, A, s0, Z⟩⟩ := X
  obtain ⟨⟨hx, hb, hml, hown, hts, hN, hK, hA⟩, hD0, hR, hret, hlocks, hnm, hZ⟩ := CX
  subst hD0
  subst hZ
  intro ws H locs ls S' ⟨hP, hD, hS, hRH, hpre, hL, hSt⟩
  obtain ⟨a, S1, ha, rfl, hSt1⟩ := gRS_ref hSt
  cases gRS_nil hSt1
  refine W.widen hkc hks ?_
  exact W.aret hx hb (hret.trans hr) (Or.inl ⟨_, rfl⟩) (Or.inr ⟨_, rfl⟩) (fun t ht hW => gq_end hq ⟨_, rfl, a, ha, rfl⟩ hP hD hS hRH hK hpre ht hW) hS.2.2 hd hlocks
theorem gw_aretN (CX : gCX D d M Q X) {Cn : String} (hr : M.2.2.2.1 = some (.object Cn)) (hq : Q (some .null) h) (hkc : kc ≤ M.2.2.2.2.1) (hks : ks ≤ M.2.2.2.2.2) (hd : decode M.2.1 pc = .ok (.areturn, 1)) : GW X M pc L [.null] h kc ks := by
  obtain ⟨⟨p, l, e, R, s, m, args, below⟩, ⟨meth, c, D', b, A, s0, Z⟩⟩ := X
  obtain ⟨⟨hx, hb, hml, hown, hts, hN, hK, hA⟩, hD0, hR, hret, hlocks, hnm, hZ⟩ := CX
  subst hD0
  subst hZ
  intro ws H locs ls S' ⟨hP, hD, hS, hRH, hpre, hL, hSt⟩
  obtain ⟨S1, rfl, hSt1⟩ := gRS_null hSt
  cases gRS_nil hSt1
  refine W.widen hkc hks ?_
  exact W.aret hx hb (hret.trans hr) (Or.inl ⟨_, rfl⟩) (Or.inl rfl) (fun t ht hW => gq_end hq ⟨_, rfl, rfl⟩ hP hD hS hRH hK hpre ht hW) hS.2.2 hd hlocks
/-- a copy of places from one array to another, or within one -/
theorem gw_copy (C : gC X M) {index q0 q1 n0 n1 : Nat} {f g : Nat → Int32} {ty : FieldType} (h0 : h[q0]? = some (.inl (ty, n0, .inl f))) (h1 : h[q1]? = some (.inl (ty, n1, .inl g))) (hprim : refKind ty = false) {sp dp n : Int32} (g1 : ¬ sp < 0) (g2 : ¬ dp < 0) (g3 : ¬ n < 0) (g4 : sp.toNatClampNeg + n.toNatClampNeg ≤ n0) (g5 : dp.toNatClampNeg + n.toNatClampNeg ≤ n1) (hfit : ∀ i, i < n.toNatClampNeg → fits ty (.int (f (sp.toNatClampNeg + i))) = true) (hl : Cond.methodLink M.1.cls index arraycopyName ∈ gT) (hnat : Cond.native arraycopyName ∈ gT) (hst : Cond.static arraycopyName ∈ gT) (hini : Cond.initialized "java/lang/System" ∈ gT) (hsum : (S.map fun v => v.category).sum ≤ 8) (hR : match X with | ((_, _, _, R, _, _, _, _), _) => 1 ≤ R.frames ∧ nativeFrameWords "java/lang/System" "arraycopy" 5 + 19 ≤ R.locals) (hd : decode M.2.1 pc = .ok (.invokestatic index, 3)) (k : GW X M (pc + 3) L S (h.set q1 (.inl (ty, n1, .inl (va_cpy f g sp.toNatClampNeg dp.toNatClampNeg n.toNatClampNeg)))) kc ks) : GW X M pc L (.int n :: .int dp :: .ref (q1 + 1) :: .int sp :: .ref (q0 + 1) :: S) h kc ks := by
  obtain ⟨⟨p, l, e, R, s, m, args, below⟩, ⟨meth, c, D, b, A, s0, Z⟩⟩ := X
  obtain ⟨hx, hb, hml, hown, hts, hN, hK, hA⟩ := C
  intro ws H locs ls S' ⟨hP, hD, hS, hRH, hpre, hL, hSt⟩
  obtain ⟨S1, rfl, hSt1⟩ := gRS_int hSt
  obtain ⟨S2, rfl, hSt2⟩ := gRS_int hSt1
  obtain ⟨a1, S3, ha1, rfl, hSt3⟩ := gRS_ref hSt2
  obtain ⟨S4, rfl, hSt4⟩ := gRS_int hSt3
  obtain ⟨a0, S5, ha0, rfl, hSt5⟩ := gRS_ref hSt4
  obtain ⟨e0, he0, c0, x0, rfl, hA1, hA2, hra⟩ := gRH_at hRH h0 ha0
  cases hra
  obtain ⟨e1, he1, c1, x1, rfl, hB1, hB2, hrb⟩ := gRH_at hRH h1 ha1
  cases hrb
  obtain ⟨L', hl1, hLP⟩ := hL
  have hcat := gRS_cat hSt5
  refine va_copyi hx hb (by rw [hml]; exact hl1.1.symm) hown (hts _ hl) (hts _ hnat) (hts _ hst) (hts _ hini) (tys := [(c0, ty), (c1, ty)]) ⟨hK.1, fun k q hk => by cases k with | zero => cases hk; exact ⟨hA1, hA2⟩ | succ k => cases k with | zero => cases hk; exact ⟨hB1, hB2⟩ | succ k => simp at hk⟩ hP hD hS q0 q1 0 1 he0 he1 rfl rfl hprim g1 g2 g3 g4 g5 hfit hR.1 ?_ hd (fun H1 locs1 hP1 hD1 hS1 => ?_)
  · have hr := hR.2
    rw [hcat]
    omega
  · refine k _ H1 locs1 ls _ ⟨hP1, hD1, hS1, gRH_set hRH he1 ⟨c1, _, rfl, hB1, hB2, rfl⟩, ?_, ?_, ?_⟩
    · rw [gmap_set he1]; exact hpre
    · rw [gmap_set he1]; exact ⟨L', hl1, hLP⟩
    · rw [gmap_set he1]; exact hSt5
/-- a contract out of the walk from the method's entry -/
theorem AM_intro {av : List Value} (hpl : plainName M.1.cls = true) (hsl : (lg_sl av).length ≤ M.2.2.1) (k : AW D d M 0 (lv_args 0 av) [] h 0 0 Q) : AM D d M av h Q := by
  intro l b ws sz av' hav
  refine Met.ofW (cc := M.2.1) (maxL := M.2.2.1) (ret := M.2.2.2.1) hpl rfl ?_
  intro p e s m args below meth c s₁ B hml hv
  obtain ⟨rfl, hsz, hP, hK, hD0, hRH, hN⟩ := hv
  have hts := atoms_spec (ws := gWs M) B.pre
  have hown : s.vm.findClass M.1.cls = some m.cls := findClass_of_methodNamed B.named
  subst hsz
  have hl := lv_entry av' (n := M.2.2.1) (by rw [gRS_sl hav]; exact hsl)
  rw [lg_entry_eq]
  have hD := hD0.self (sz := s.heap.size)
  have hk := k ((p, l, e, gRm d M, s, m, av'.toArray, below), (meth, c, D, b, va_A ws s.heap.size, ws.map Prod.fst, MQ below (gQC D b (ws.map Prod.fst) (va_A ws s.heap.size) Q) av'.toArray s M.2.2.2.2.1 M.2.2.2.2.2 (va_A ws s.heap.size))) ⟨⟨B.exec, B.bytes, hml, hown, fun w hw => hts w (List.mem_cons_of_mem _ hw), hN, hK, fun q hq => Or.inr hq⟩, rfl, rfl, B.returns, B.notSynchronized, (name_of_methodNamed B.named B.method).1, rfl⟩
  exact hk ws s.heap [] _ [] ⟨hP, hD, va_S.rf, hRH, List.prefix_rfl, ⟨_, hl, gRP_args hav 0⟩, trivial⟩
theorem AM_weaken {av : List Value} {Q' : Option Value → gAH → Prop} (hq : ∀ r h', Q r h' → Q' r h') (k : AM D d M av h Q) : AM D d M av h Q' := by
  intro l b ws sz av' hav p e ha hc hk s m args below hf hh hP hT
  obtain ⟨k1, o, h1, h2, h3, ⟨⟨⟨v, v', h', ws', q1, q2, q3⟩, q4⟩, q5⟩⟩ := k l b ws sz av' hav p e ha hc hk s m args below hf hh hP hT
  exact ⟨k1, o, h1, h2, h3, ⟨⟨v, v', h', ws', q1, hq _ _ q2, q3⟩, q4⟩, q5⟩
end GENDS
end
section
/-! the methods, and the words that their calls and fields stand on -/
def nDesk_init : gMd := (⟨"SwingDesk", "<init>", "()V"⟩, prog_1_method_1_code, 2, none, 37, 1935)
def nShow_init : gMd := (⟨"SwingDesk$Show", "<init>", "()V"⟩, prog_7_method_1_code, 1, none, 5, 548)
def nArrays_fillI : gMd := (⟨"java/util/Arrays", "fill", "([II)V"⟩, prog_13_method_103_code, 4, none, 0, 0)
def nCompany_init : gMd := (⟨"SwingDesk$Company", "<init>", "()V"⟩, prog_3_method_1_code, 1, none, 7, 230)
def nNight_init : gMd := (⟨"SwingDesk$Night", "<init>", "(LSwingDesk$Show;LSwingDesk$Company;)V"⟩, prog_4_method_1_code, 3, none, 2, 248)
def nCastSearch_init : gMd := (⟨"SwingDesk$CastSearch", "<init>", "(LSwingDesk$Show;LSwingDesk$Company;)V"⟩, prog_2_method_1_code, 3, none, 9, 202)
def nPutIns_init : gMd := (⟨"SwingDesk$PutIns", "<init>", "(LSwingDesk$Show;LSwingDesk$Company;)V"⟩, prog_5_method_1_code, 3, none, 4, 600)
def nSheet_init : gMd := (⟨"SwingDesk$Sheet", "<init>", "()V"⟩, prog_6_method_1_code, 1, none, 1, 30)
def nDesk_track : gMd := (⟨"SwingDesk", "track", "(I)I"⟩, prog_1_method_2_code, 2, some .int, 0, 0)
def nDesk_isWithin : gMd := (⟨"SwingDesk", "isWithin", "(III)Z"⟩, prog_1_method_29_code, 3, some .boolean, 0, 0)
def nShow_addTrack : gMd := (⟨"SwingDesk$Show", "addTrack", "(I)I"⟩, prog_7_method_2_code, 2, some .int, 0, 0)
def nDesk_in : gMd := (⟨"SwingDesk", "in", "(IIII)I"⟩, prog_1_method_3_code, 7, some .int, 0, 0)
def nShow_isTrack : gMd := (⟨"SwingDesk$Show", "isTrack", "(I)Z"⟩, prog_7_method_4_code, 2, some .boolean, 0, 0)
def nDesk_isCue : gMd := (⟨"SwingDesk", "isCue", "(I)Z"⟩, prog_1_method_30_code, 1, some .boolean, 0, 0)
def nDesk_isFlag : gMd := (⟨"SwingDesk", "isFlag", "(I)Z"⟩, prog_1_method_31_code, 1, some .boolean, 0, 0)
def nShow_placeAt : gMd := (⟨"SwingDesk$Show", "placeAt", "(II)I"⟩, prog_7_method_6_code, 3, some .int, 0, 0)
def nShow_put : gMd := (⟨"SwingDesk$Show", "put", "(IIII)V"⟩, prog_7_method_9_code, 5, none, 0, 0)
def nShow_setLift : gMd := (⟨"SwingDesk$Show", "setLift", "(III)V"⟩, prog_7_method_10_code, 4, none, 0, 0)
def nDesk_lift : gMd := (⟨"SwingDesk", "lift", "(III)I"⟩, prog_1_method_4_code, 5, some .int, 0, 0)
def nShow_hasLift : gMd := (⟨"SwingDesk$Show", "hasLift", "(I)Z"⟩, prog_7_method_13_code, 2, some .boolean, 0, 0)
def nShow_lifterIn : gMd := (⟨"SwingDesk$Show", "lifterIn", "(I)I"⟩, prog_7_method_11_code, 2, some .int, 0, 0)
def nShow_isIn : gMd := (⟨"SwingDesk$Show", "isIn", "(II)Z"⟩, prog_7_method_7_code, 3, some .boolean, 0, 0)
def nDesk_lay : gMd := (⟨"SwingDesk", "lay", "(III)I"⟩, prog_1_method_5_code, 7, some .int, 0, 0)
def nDesk_sheetOf : gMd := (⟨"SwingDesk", "sheetOf", "(I)LSwingDesk$Sheet;"⟩, prog_1_method_28_code, 2, some (.object "SwingDesk$Sheet"), 0, 0)
def nSheet_isMissing : gMd := (⟨"SwingDesk$Sheet", "isMissing", "()Z"⟩, prog_6_method_2_code, 1, some .boolean, 0, 0)
def nSheet_length : gMd := (⟨"SwingDesk$Sheet", "length", "()I"⟩, prog_6_method_3_code, 1, some .int, 0, 0)
def nSheet_valueAt : gMd := (⟨"SwingDesk$Sheet", "valueAt", "(I)I"⟩, prog_6_method_6_code, 2, some .int, 0, 0)
def nSheet_hasRun : gMd := (⟨"SwingDesk$Sheet", "hasRun", "(II)Z"⟩, prog_6_method_5_code, 3, some .boolean, 0, 0)
def nDesk_told : gMd := (⟨"SwingDesk", "told", "(III)I"⟩, prog_1_method_6_code, 4, some .int, 0, 0)
def nShow_mustAt : gMd := (⟨"SwingDesk$Show", "mustAt", "(II)I"⟩, prog_7_method_8_code, 3, some .int, 0, 0)
def nShow_liftPartner : gMd := (⟨"SwingDesk$Show", "liftPartner", "(II)I"⟩, prog_7_method_14_code, 3, some .int, 0, 0)
def nShow_liftedIn : gMd := (⟨"SwingDesk$Show", "liftedIn", "(I)I"⟩, prog_7_method_12_code, 2, some .int, 0, 0)
def nDesk_person : gMd := (⟨"SwingDesk", "person", "(II)I"⟩, prog_1_method_7_code, 3, some .int, 0, 0)
def nDesk_isKind : gMd := (⟨"SwingDesk", "isKind", "(I)Z"⟩, prog_1_method_32_code, 1, some .boolean, 0, 0)
def nCompany_addPerson : gMd := (⟨"SwingDesk$Company", "addPerson", "(II)I"⟩, prog_3_method_2_code, 3, some .int, 0, 0)
def nDesk_isOf : gMd := (⟨"SwingDesk", "isOf", "(II)I"⟩, prog_1_method_8_code, 3, some .int, 0, 0)
def nCompany_isPerson : gMd := (⟨"SwingDesk$Company", "isPerson", "(I)Z"⟩, prog_3_method_4_code, 2, some .boolean, 0, 0)
def nCompany_isOfKind : gMd := (⟨"SwingDesk$Company", "isOfKind", "(II)Z"⟩, prog_3_method_6_code, 3, some .boolean, 0, 0)
def nDesk_own : gMd := (⟨"SwingDesk", "own", "(II)I"⟩, prog_1_method_9_code, 5, some .int, 0, 0)
def nCompany_ownerOf : gMd := (⟨"SwingDesk$Company", "ownerOf", "(I)I"⟩, prog_3_method_10_code, 3, some .int, 0, 0)
def nCompany_owns : gMd := (⟨"SwingDesk$Company", "owns", "(II)Z"⟩, prog_3_method_9_code, 3, some .boolean, 0, 0)
def nCompany_ownedBy : gMd := (⟨"SwingDesk$Company", "ownedBy", "(I)I"⟩, prog_3_method_8_code, 2, some .int, 0, 0)
def nCompany_setOwned : gMd := (⟨"SwingDesk$Company", "setOwned", "(II)V"⟩, prog_3_method_11_code, 3, none, 0, 0)
def nDesk_did : gMd := (⟨"SwingDesk", "did", "(II)I"⟩, prog_1_method_10_code, 4, some .int, 0, 0)
def nCompany_daysSinceDid : gMd := (⟨"SwingDesk$Company", "daysSinceDid", "(II)I"⟩, prog_3_method_15_code, 4, some .int, 0, 0)
def nCompany_sinceDay : gMd := (⟨"SwingDesk$Company", "sinceDay", "(I)I"⟩, prog_3_method_14_code, 2, some .int, 0, 0)
def nCompany_setDidToday : gMd := (⟨"SwingDesk$Company", "setDidToday", "(II)V"⟩, prog_3_method_16_code, 3, none, 0, 0)
def nDesk_fresh : gMd := (⟨"SwingDesk", "fresh", "(II)I"⟩, prog_1_method_11_code, 3, some .int, 0, 0)
def nCompany_knows : gMd := (⟨"SwingDesk$Company", "knows", "(II)Z"⟩, prog_3_method_17_code, 3, some .boolean, 0, 0)
def nCompany_isFresh : gMd := (⟨"SwingDesk$Company", "isFresh", "(II)Z"⟩, prog_3_method_18_code, 4, some .boolean, 0, 0)
def nDesk_rehearse : gMd := (⟨"SwingDesk", "rehearse", "(II)I"⟩, prog_1_method_12_code, 4, some .int, 0, 0)
def nCompany_areTwo : gMd := (⟨"SwingDesk$Company", "areTwo", "(II)Z"⟩, prog_3_method_5_code, 3, some .boolean, 0, 0)
def nCompany_daysSinceRehearsed : gMd := (⟨"SwingDesk$Company", "daysSinceRehearsed", "(II)I"⟩, prog_3_method_20_code, 4, some .int, 0, 0)
def nCompany_setRehearsedToday : gMd := (⟨"SwingDesk$Company", "setRehearsedToday", "(II)V"⟩, prog_3_method_21_code, 3, none, 0, 0)
def nDesk_feud : gMd := (⟨"SwingDesk", "feud", "(III)I"⟩, prog_1_method_13_code, 5, some .int, 0, 0)
def nCompany_areFoes : gMd := (⟨"SwingDesk$Company", "areFoes", "(II)Z"⟩, prog_3_method_25_code, 3, some .boolean, 0, 0)
def nCompany_foesOf : gMd := (⟨"SwingDesk$Company", "foesOf", "(I)I"⟩, prog_3_method_24_code, 2, some .int, 0, 0)
def nCompany_setFoes : gMd := (⟨"SwingDesk$Company", "setFoes", "(IIZ)V"⟩, prog_3_method_26_code, 4, none, 0, 0)
def nDesk_days : gMd := (⟨"SwingDesk", "days", "(I)I"⟩, prog_1_method_14_code, 2, some .int, 0, 0)
def nCompany_today : gMd := (⟨"SwingDesk$Company", "today", "()I"⟩, prog_3_method_12_code, 1, some .int, 0, 0)
def nCompany_passDays : gMd := (⟨"SwingDesk$Company", "passDays", "(I)V"⟩, prog_3_method_13_code, 2, none, 0, 0)
def nNight_clear : gMd := (⟨"SwingDesk$Night", "clear", "()V"⟩, prog_4_method_2_code, 1, none, 0, 0)
def nDesk_out : gMd := (⟨"SwingDesk", "out", "(II)I"⟩, prog_1_method_15_code, 4, some .int, 0, 0)
def nCompany_outFrom : gMd := (⟨"SwingDesk$Company", "outFrom", "(I)I"⟩, prog_3_method_27_code, 2, some .int, 0, 0)
def nCompany_setOutFrom : gMd := (⟨"SwingDesk$Company", "setOutFrom", "(II)V"⟩, prog_3_method_28_code, 3, none, 0, 0)
def nDesk_cast : gMd := (⟨"SwingDesk", "cast", "(I)I"⟩, prog_1_method_16_code, 3, some .int, 0, 0)
def nCastSearch_leastLoss : gMd := (⟨"SwingDesk$CastSearch", "leastLoss", "(I)I"⟩, prog_2_method_2_code, 3, some .int, 0, 0)
def nShow_tracks : gMd := (⟨"SwingDesk$Show", "tracks", "()I"⟩, prog_7_method_3_code, 1, some .int, 0, 0)
def nCastSearch_readPeople : gMd := (⟨"SwingDesk$CastSearch", "readPeople", "(I)V"⟩, prog_2_method_4_code, 7, none, 0, 0)
def nShow_lastCue : gMd := (⟨"SwingDesk$Show", "lastCue", "(I)I"⟩, prog_7_method_18_code, 4, some .int, 0, 0)
def nCompany_people : gMd := (⟨"SwingDesk$Company", "people", "()I"⟩, prog_3_method_3_code, 1, some .int, 0, 0)
def nShow_dressOf : gMd := (⟨"SwingDesk$Show", "dressOf", "(I)I"⟩, prog_7_method_5_code, 2, some .int, 0, 0)
def nCompany_canPlay : gMd := (⟨"SwingDesk$Company", "canPlay", "(III)Z"⟩, prog_3_method_19_code, 4, some .boolean, 0, 0)
def nCompany_fitsDress : gMd := (⟨"SwingDesk$Company", "fitsDress", "(II)Z"⟩, prog_3_method_7_code, 3, some .boolean, 0, 0)
def nMath_abs : gMd := (⟨"java/lang/Math", "abs", "(I)I"⟩, prog_11_method_59_code, 1, some .int, 0, 0)
def nCastSearch_coverLoss : gMd := (⟨"SwingDesk$CastSearch", "coverLoss", "(III)I"⟩, prog_2_method_5_code, 5, some .int, 0, 0)
def nCastSearch_readEarlierTracks : gMd := (⟨"SwingDesk$CastSearch", "readEarlierTracks", "(I)V"⟩, prog_2_method_6_code, 5, none, 0, 0)
def nShow_canBeOnePersons : gMd := (⟨"SwingDesk$Show", "canBeOnePersons", "(II)Z"⟩, prog_7_method_19_code, 4, some .boolean, 0, 0)
def nShow_isFarStep : gMd := (⟨"SwingDesk$Show", "isFarStep", "(III)Z"⟩, prog_7_method_20_code, 4, some .boolean, 0, 0)
def nShow_canBeFoes : gMd := (⟨"SwingDesk$Show", "canBeFoes", "(II)Z"⟩, prog_7_method_21_code, 4, some .boolean, 0, 0)
def nShow_countMusts : gMd := (⟨"SwingDesk$Show", "countMusts", "(I)I"⟩, prog_7_method_17_code, 4, some .int, 0, 0)
def nCastSearch_readLifts : gMd := (⟨"SwingDesk$CastSearch", "readLifts", "()V"⟩, prog_2_method_7_code, 4, none, 0, 0)
def nCastSearch_seek : gMd := (⟨"SwingDesk$CastSearch", "seek", "(II)V"⟩, prog_2_method_8_code, 5, none, 0, 0)
def nCastSearch_keepIfLess : gMd := (⟨"SwingDesk$CastSearch", "keepIfLess", "(I)V"⟩, prog_2_method_10_code, 2, none, 0, 0)
def nCastSearch_barred : gMd := (⟨"SwingDesk$CastSearch", "barred", "(I)I"⟩, prog_2_method_11_code, 5, some .int, 0, 0)
def nCastSearch_tryPerson : gMd := (⟨"SwingDesk$CastSearch", "tryPerson", "(III)V"⟩, prog_2_method_9_code, 5, none, 0, 0)
def nCastSearch_liftLoss : gMd := (⟨"SwingDesk$CastSearch", "liftLoss", "(I)I"⟩, prog_2_method_12_code, 6, some .int, 0, 0)
def nCompany_doLift : gMd := (⟨"SwingDesk$Company", "doLift", "(IIII)Z"⟩, prog_3_method_23_code, 5, some .boolean, 0, 0)
def nCompany_isFreshPair : gMd := (⟨"SwingDesk$Company", "isFreshPair", "(II)Z"⟩, prog_3_method_22_code, 4, some .boolean, 0, 0)
def nNight_begin : gMd := (⟨"SwingDesk$Night", "begin", "(LSwingDesk$CastSearch;)V"⟩, prog_4_method_3_code, 4, none, 0, 0)
def nCastSearch_bestAt : gMd := (⟨"SwingDesk$CastSearch", "bestAt", "(I)I"⟩, prog_2_method_3_code, 2, some .int, 0, 0)
def nNight_holdFrom : gMd := (⟨"SwingDesk$Night", "holdFrom", "(III)V"⟩, prog_4_method_7_code, 5, none, 0, 0)
def nDesk_has : gMd := (⟨"SwingDesk", "has", "(I)I"⟩, prog_1_method_17_code, 2, some .int, 0, 0)
def nNight_castAt : gMd := (⟨"SwingDesk$Night", "castAt", "(I)I"⟩, prog_4_method_5_code, 2, some .int, 0, 0)
def nDesk_who : gMd := (⟨"SwingDesk", "who", "(I)I"⟩, prog_1_method_18_code, 2, some .int, 0, 0)
def nNight_hasCast : gMd := (⟨"SwingDesk$Night", "hasCast", "()Z"⟩, prog_4_method_4_code, 1, some .boolean, 0, 0)
def nNight_holdersIn : gMd := (⟨"SwingDesk$Night", "holdersIn", "(I)I"⟩, prog_4_method_8_code, 5, some .int, 0, 0)
def nNight_holderAt : gMd := (⟨"SwingDesk$Night", "holderAt", "(II)I"⟩, prog_4_method_6_code, 3, some .int, 0, 0)
def nDesk_done : gMd := (⟨"SwingDesk", "done", "(I)I"⟩, prog_1_method_19_code, 2, some .int, 0, 0)
def nNight_isLiftDone : gMd := (⟨"SwingDesk$Night", "isLiftDone", "(I)Z"⟩, prog_4_method_9_code, 4, some .boolean, 0, 0)
def nDesk_hurt : gMd := (⟨"SwingDesk", "hurt", "(II)I"⟩, prog_1_method_20_code, 3, some .int, 0, 0)
def nNight_replace : gMd := (⟨"SwingDesk$Night", "replace", "(II)I"⟩, prog_4_method_10_code, 6, some .int, 0, 0)
def nNight_firstHeld : gMd := (⟨"SwingDesk$Night", "firstHeld", "(III)I"⟩, prog_4_method_11_code, 5, some .int, 0, 0)
def nNight_handOn : gMd := (⟨"SwingDesk$Night", "handOn", "(II)Z"⟩, prog_4_method_12_code, 6, some .boolean, 0, 0)
def nNight_busyFrom : gMd := (⟨"SwingDesk$Night", "busyFrom", "(II)I"⟩, prog_4_method_13_code, 5, some .int, 0, 0)
def nCompany_isOut : gMd := (⟨"SwingDesk$Company", "isOut", "(I)Z"⟩, prog_3_method_29_code, 2, some .boolean, 0, 0)
def nDesk_at : gMd := (⟨"SwingDesk", "at", "(II)I"⟩, prog_1_method_21_code, 3, some .int, 0, 0)
def nDesk_plan : gMd := (⟨"SwingDesk", "plan", "()I"⟩, prog_1_method_22_code, 1, some .int, 0, 0)
def nPutIns_find : gMd := (⟨"SwingDesk$PutIns", "find", "()Z"⟩, prog_5_method_2_code, 4, some .boolean, 0, 0)
def nPutIns_readNeeds : gMd := (⟨"SwingDesk$PutIns", "readNeeds", "()Z"⟩, prog_5_method_6_code, 3, some .boolean, 0, 0)
def nPutIns_countFresh : gMd := (⟨"SwingDesk$PutIns", "countFresh", "(I)I"⟩, prog_5_method_7_code, 4, some .int, 0, 0)
def nMath_max : gMd := (⟨"java/lang/Math", "max", "(II)I"⟩, prog_11_method_65_code, 2, some .int, 0, 0)
def nShow_countCues : gMd := (⟨"SwingDesk$Show", "countCues", "(I)I"⟩, prog_7_method_16_code, 4, some .int, 0, 0)
def nArrays_fillJ : gMd := (⟨"java/util/Arrays", "fill", "([JJ)V"⟩, prog_13_method_101_code, 5, none, 0, 0)
def nPutIns_addPerson : gMd := (⟨"SwingDesk$PutIns", "addPerson", "(IJ)V"⟩, prog_5_method_8_code, 6, none, 0, 0)
def nPutIns_staleTracks : gMd := (⟨"SwingDesk$PutIns", "staleTracks", "(I)I"⟩, prog_5_method_9_code, 5, some .int, 0, 0)
def nPutIns_leastWith : gMd := (⟨"SwingDesk$PutIns", "leastWith", "(IJI)J"⟩, prog_5_method_10_code, 10, some .long, 0, 0)
def nPutIns_plus : gMd := (⟨"SwingDesk$PutIns", "plus", "(JJ)J"⟩, prog_5_method_11_code, 4, some .long, 0, 0)
def nPutIns_hasPutIn : gMd := (⟨"SwingDesk$PutIns", "hasPutIn", "(II)Z"⟩, prog_5_method_12_code, 5, some .boolean, 0, 0)
def nMath_min : gMd := (⟨"java/lang/Math", "min", "(JJ)J"⟩, prog_11_method_70_code, 4, some .long, 0, 0)
def nPutIns_leastWorth : gMd := (⟨"SwingDesk$PutIns", "leastWorth", "()J"⟩, prog_5_method_5_code, 1, some .long, 0, 0)
def nPutIns_hours : gMd := (⟨"SwingDesk$PutIns", "hours", "()I"⟩, prog_5_method_3_code, 1, some .int, 0, 0)
def nDesk_putIn : gMd := (⟨"SwingDesk", "putIn", "(I)I"⟩, prog_1_method_23_code, 2, some .int, 0, 0)
def nPutIns_trackOf : gMd := (⟨"SwingDesk$PutIns", "trackOf", "(I)I"⟩, prog_5_method_4_code, 5, some .int, 0, 0)
def nDesk_sheet : gMd := (⟨"SwingDesk", "sheet", "(II)I"⟩, prog_1_method_24_code, 4, some .int, 0, 0)
def nSheet_begin : gMd := (⟨"SwingDesk$Sheet", "begin", "(I)V"⟩, prog_6_method_4_code, 2, none, 0, 0)
def nArrays_fillB : gMd := (⟨"java/util/Arrays", "fill", "([BB)V"⟩, prog_13_method_109_code, 4, none, 0, 0)
def nDesk_mark : gMd := (⟨"SwingDesk", "mark", "(III)I"⟩, prog_1_method_25_code, 6, some .int, 0, 0)
def nSheet_setValue : gMd := (⟨"SwingDesk$Sheet", "setValue", "(IB)V"⟩, prog_6_method_7_code, 3, none, 0, 0)
def nDesk_copy : gMd := (⟨"SwingDesk", "copy", "(IIIII)I"⟩, prog_1_method_26_code, 8, some .int, 0, 0)
def nSheet_take : gMd := (⟨"SwingDesk$Sheet", "take", "(LSwingDesk$Sheet;III)V"⟩, prog_6_method_8_code, 5, none, 0, 0)
def nDesk_count : gMd := (⟨"SwingDesk", "count", "(I)I"⟩, prog_1_method_27_code, 2, some .int, 0, 0)
def nShow_countLifts : gMd := (⟨"SwingDesk$Show", "countLifts", "()I"⟩, prog_7_method_15_code, 3, some .int, 0, 0)
def nCompany_countOut : gMd := (⟨"SwingDesk$Company", "countOut", "()I"⟩, prog_3_method_30_code, 3, some .int, 0, 0)
def nCompany_countOwned : gMd := (⟨"SwingDesk$Company", "countOwned", "()I"⟩, prog_3_method_31_code, 3, some .int, 0, 0)
def nCompany_countFeuds : gMd := (⟨"SwingDesk$Company", "countFeuds", "()I"⟩, prog_3_method_32_code, 3, some .int, 0, 0)
def nInteger_bitCount : gMd := (⟨"java/lang/Integer", "bitCount", "(I)I"⟩, prog_10_method_49_code, 1, some .int, 0, 0)
def nCompany_countFreshPairs : gMd := (⟨"SwingDesk$Company", "countFreshPairs", "()I"⟩, prog_3_method_33_code, 4, some .int, 0, 0)
def nModel_init : gMd := (⟨"SwingDeskModel", "<init>", "()V"⟩, prog_9_method_1_code, 2, none, 21, 73314)
def nModel_track : gMd := (⟨"SwingDeskModel", "track", "(I)I"⟩, prog_9_method_7_code, 2, some .int, 0, 0)
def nModel_isIn : gMd := (⟨"SwingDeskModel", "isIn", "(III)Z"⟩, prog_9_method_2_code, 3, some .boolean, 0, 0)
def nModel_in : gMd := (⟨"SwingDeskModel", "in", "(IIII)I"⟩, prog_9_method_10_code, 6, some .int, 0, 0)
def nModel_isTrack : gMd := (⟨"SwingDeskModel", "isTrack", "(I)Z"⟩, prog_9_method_3_code, 2, some .boolean, 0, 0)
def nModel_isCue : gMd := (⟨"SwingDeskModel", "isCue", "(I)Z"⟩, prog_9_method_5_code, 1, some .boolean, 0, 0)
def nModel_put : gMd := (⟨"SwingDeskModel", "put", "(IIII)V"⟩, prog_9_method_9_code, 5, none, 0, 0)
def nModel_lift : gMd := (⟨"SwingDeskModel", "lift", "(III)I"⟩, prog_9_method_11_code, 5, some .int, 0, 0)
def nModel_is : gMd := (⟨"SwingDeskModel", "is", "(II)Z"⟩, prog_9_method_8_code, 3, some .boolean, 0, 0)
def nModel_lay : gMd := (⟨"SwingDeskModel", "lay", "(III)I"⟩, prog_9_method_13_code, 6, some .int, 0, 0)
def nModel_isSheet : gMd := (⟨"SwingDeskModel", "isSheet", "(I)Z"⟩, prog_9_method_12_code, 1, some .boolean, 0, 0)
def nModel_told : gMd := (⟨"SwingDeskModel", "told", "(III)I"⟩, prog_9_method_14_code, 4, some .int, 0, 0)
def nModel_person : gMd := (⟨"SwingDeskModel", "person", "(II)I"⟩, prog_9_method_15_code, 3, some .int, 0, 0)
def nModel_isOf : gMd := (⟨"SwingDeskModel", "isOf", "(II)I"⟩, prog_9_method_17_code, 3, some .int, 0, 0)
def nModel_isPerson : gMd := (⟨"SwingDeskModel", "isPerson", "(I)Z"⟩, prog_9_method_4_code, 2, some .boolean, 0, 0)
def nModel_isSwing : gMd := (⟨"SwingDeskModel", "isSwing", "(I)Z"⟩, prog_9_method_16_code, 2, some .boolean, 0, 0)
def nModel_own : gMd := (⟨"SwingDeskModel", "own", "(II)I"⟩, prog_9_method_19_code, 4, some .int, 0, 0)
def nModel_owner : gMd := (⟨"SwingDeskModel", "owner", "(I)I"⟩, prog_9_method_18_code, 4, some .int, 0, 0)
def nModel_did : gMd := (⟨"SwingDeskModel", "did", "(II)I"⟩, prog_9_method_20_code, 4, some .int, 0, 0)
def nModel_fresh : gMd := (⟨"SwingDeskModel", "fresh", "(II)I"⟩, prog_9_method_23_code, 3, some .int, 0, 0)
def nModel_knows : gMd := (⟨"SwingDeskModel", "knows", "(II)Z"⟩, prog_9_method_21_code, 3, some .boolean, 0, 0)
def nModel_isFresh : gMd := (⟨"SwingDeskModel", "isFresh", "(II)Z"⟩, prog_9_method_22_code, 3, some .boolean, 0, 0)
def nModel_rehearse : gMd := (⟨"SwingDeskModel", "rehearse", "(II)I"⟩, prog_9_method_24_code, 4, some .int, 0, 0)
def nModel_feud : gMd := (⟨"SwingDeskModel", "feud", "(III)I"⟩, prog_9_method_26_code, 5, some .int, 0, 0)
def nModel_days : gMd := (⟨"SwingDeskModel", "days", "(I)I"⟩, prog_9_method_27_code, 3, some .int, 0, 0)
def nModel_out : gMd := (⟨"SwingDeskModel", "out", "(II)I"⟩, prog_9_method_28_code, 4, some .int, 0, 0)
def nModel_cast : gMd := (⟨"SwingDeskModel", "cast", "(I)I"⟩, prog_9_method_39_code, 4, some .int, 0, 0)
def nModel_tryFrom : gMd := (⟨"SwingDeskModel", "tryFrom", "(I)V"⟩, prog_9_method_38_code, 4, none, 0, 0)
def nModel_loss : gMd := (⟨"SwingDeskModel", "loss", "()I"⟩, prog_9_method_37_code, 3, some .int, 0, 0)
def nModel_lossOf : gMd := (⟨"SwingDeskModel", "lossOf", "(I)I"⟩, prog_9_method_36_code, 5, some .int, 0, 0)
def nModel_isDone : gMd := (⟨"SwingDeskModel", "isDone", "(I[I)Z"⟩, prog_9_method_35_code, 5, some .boolean, 0, 0)
def nModel_isRehearsed : gMd := (⟨"SwingDeskModel", "isRehearsed", "(II)Z"⟩, prog_9_method_25_code, 4, some .boolean, 0, 0)
def nModel_fits : gMd := (⟨"SwingDeskModel", "fits", "(II)Z"⟩, prog_9_method_34_code, 5, some .boolean, 0, 0)
def nModel_canHave : gMd := (⟨"SwingDeskModel", "canHave", "(II)Z"⟩, prog_9_method_29_code, 3, some .boolean, 0, 0)
def nModel_far : gMd := (⟨"SwingDeskModel", "far", "(II)I"⟩, prog_9_method_6_code, 2, some .int, 0, 0)
def nModel_isInFrom : gMd := (⟨"SwingDeskModel", "isInFrom", "(II)Z"⟩, prog_9_method_30_code, 5, some .boolean, 0, 0)
def nModel_meet : gMd := (⟨"SwingDeskModel", "meet", "(II)Z"⟩, prog_9_method_31_code, 4, some .boolean, 0, 0)
def nModel_isFar : gMd := (⟨"SwingDeskModel", "isFar", "(III)Z"⟩, prog_9_method_32_code, 4, some .boolean, 0, 0)
def nModel_areBeside : gMd := (⟨"SwingDeskModel", "areBeside", "(II)Z"⟩, prog_9_method_33_code, 4, some .boolean, 0, 0)
def nModel_has : gMd := (⟨"SwingDeskModel", "has", "(I)I"⟩, prog_9_method_40_code, 2, some .int, 0, 0)
def nModel_who : gMd := (⟨"SwingDeskModel", "who", "(I)I"⟩, prog_9_method_41_code, 5, some .int, 0, 0)
def nModel_done : gMd := (⟨"SwingDeskModel", "done", "(I)I"⟩, prog_9_method_42_code, 2, some .int, 0, 0)
def nModel_hurt : gMd := (⟨"SwingDeskModel", "hurt", "(II)I"⟩, prog_9_method_45_code, 6, some .int, 0, 0)
def nModel_takesOver : gMd := (⟨"SwingDeskModel", "takesOver", "(II)Z"⟩, prog_9_method_44_code, 5, some .boolean, 0, 0)
def nModel_canTake : gMd := (⟨"SwingDeskModel", "canTake", "(III)Z"⟩, prog_9_method_43_code, 6, some .boolean, 0, 0)
def nModel_at : gMd := (⟨"SwingDeskModel", "at", "(II)I"⟩, prog_9_method_46_code, 4, some .int, 0, 0)
def nModel_plan : gMd := (⟨"SwingDeskModel", "plan", "()I"⟩, prog_9_method_51_code, 2, some .int, 0, 0)
def nModel_findPlan : gMd := (⟨"SwingDeskModel", "findPlan", "()I"⟩, prog_9_method_50_code, 8, some .int, 0, 0)
def nModel_mayPut : gMd := (⟨"SwingDeskModel", "mayPut", "(II)Z"⟩, prog_9_method_49_code, 3, some .boolean, 0, 0)
def nModel_behind : gMd := (⟨"SwingDeskModel", "behind", "(II)I"⟩, prog_9_method_48_code, 3, some .int, 0, 0)
def nModel_hours : gMd := (⟨"SwingDeskModel", "hours", "(I)I"⟩, prog_9_method_47_code, 4, some .int, 0, 0)
def nModel_putIn : gMd := (⟨"SwingDeskModel", "putIn", "(I)I"⟩, prog_9_method_52_code, 7, some .int, 0, 0)
def nModel_sheet : gMd := (⟨"SwingDeskModel", "sheet", "(II)I"⟩, prog_9_method_53_code, 4, some .int, 0, 0)
def nModel_mark : gMd := (⟨"SwingDeskModel", "mark", "(III)I"⟩, prog_9_method_54_code, 5, some .int, 0, 0)
def nModel_copy : gMd := (⟨"SwingDeskModel", "copy", "(IIIII)I"⟩, prog_9_method_55_code, 7, some .int, 0, 0)
def nModel_count : gMd := (⟨"SwingDeskModel", "count", "(I)I"⟩, prog_9_method_56_code, 5, some .int, 0, 0)
def nLaw_law : gMd := (⟨"SwingDeskLaw", "law", "([I)Z"⟩, code, 4, some .boolean, 0, 0)
theorem wini_CastSearch : Cond.initialized "SwingDesk$CastSearch" ∈ gT := gT_of (i := 54) (by decide +kernel) (by decide +kernel)
theorem wini_Company : Cond.initialized "SwingDesk$Company" ∈ gT := gT_of (i := 52) (by decide +kernel) (by decide +kernel)
theorem wini_Night : Cond.initialized "SwingDesk$Night" ∈ gT := gT_of (i := 53) (by decide +kernel) (by decide +kernel)
theorem wini_PutIns : Cond.initialized "SwingDesk$PutIns" ∈ gT := gT_of (i := 55) (by decide +kernel) (by decide +kernel)
theorem wini_Sheet : Cond.initialized "SwingDesk$Sheet" ∈ gT := gT_of (i := 56) (by decide +kernel) (by decide +kernel)
theorem wini_Show : Cond.initialized "SwingDesk$Show" ∈ gT := gT_of (i := 50) (by decide +kernel) (by decide +kernel)
theorem wini_Desk : Cond.initialized "SwingDesk" ∈ gT := gT_of (i := 49) (by decide +kernel) (by decide +kernel)
theorem wini_Model : Cond.initialized "SwingDeskModel" ∈ gT := gT_of (i := 57) (by decide +kernel) (by decide +kernel)
theorem wini_Arrays : Cond.initialized "java/util/Arrays" ∈ gT := gT_of (i := 51) (by decide +kernel) (by decide +kernel)
theorem wini_Math : Cond.initialized "java/lang/Math" ∈ gT := gT_of (i := 58) (by decide +kernel) (by decide +kernel)
theorem wini_Integer : Cond.initialized "java/lang/Integer" ∈ gT := gT_of (i := 60) (by decide +kernel) (by decide +kernel)
theorem wini_Law : Cond.initialized "SwingDeskLaw" ∈ gT := gT_of (i := 48) (by decide +kernel) (by decide +kernel)
theorem wini_System : Cond.initialized "java/lang/System" ∈ gT := gT_of (i := 59) (by decide +kernel) (by decide +kernel)
theorem ok_Desk_init : gOk nDesk_init 0 := ⟨gT_of (i := 65) (by decide +kernel) (by decide +kernel), by decide +kernel, by decide⟩
theorem wi_Desk_init : Cond.instanceMethod nDesk_init.1 ∈ gT := gT_of (i := 64) (by decide +kernel) (by decide +kernel)
theorem ok_Show_init : gOk nShow_init 0 := ⟨gT_of (i := 73) (by decide +kernel) (by decide +kernel), by decide +kernel, by decide⟩
theorem wi_Show_init : Cond.instanceMethod nShow_init.1 ∈ gT := gT_of (i := 72) (by decide +kernel) (by decide +kernel)
theorem ok_Arrays_fillI : gOk nArrays_fillI 2 := ⟨gT_of (i := 78) (by decide +kernel) (by decide +kernel), by decide +kernel, by decide⟩
theorem wst_Arrays_fillI : Cond.static nArrays_fillI.1 ∈ gT := gT_of (i := 77) (by decide +kernel) (by decide +kernel)
theorem ok_Company_init : gOk nCompany_init 0 := ⟨gT_of (i := 103) (by decide +kernel) (by decide +kernel), by decide +kernel, by decide⟩
theorem wi_Company_init : Cond.instanceMethod nCompany_init.1 ∈ gT := gT_of (i := 102) (by decide +kernel) (by decide +kernel)
theorem ok_Night_init : gOk nNight_init 2 := ⟨gT_of (i := 139) (by decide +kernel) (by decide +kernel), by decide +kernel, by decide⟩
theorem wi_Night_init : Cond.instanceMethod nNight_init.1 ∈ gT := gT_of (i := 138) (by decide +kernel) (by decide +kernel)
theorem ok_CastSearch_init : gOk nCastSearch_init 2 := ⟨gT_of (i := 163) (by decide +kernel) (by decide +kernel), by decide +kernel, by decide⟩
theorem wi_CastSearch_init : Cond.instanceMethod nCastSearch_init.1 ∈ gT := gT_of (i := 162) (by decide +kernel) (by decide +kernel)
theorem ok_PutIns_init : gOk nPutIns_init 2 := ⟨gT_of (i := 212) (by decide +kernel) (by decide +kernel), by decide +kernel, by decide⟩
theorem wi_PutIns_init : Cond.instanceMethod nPutIns_init.1 ∈ gT := gT_of (i := 211) (by decide +kernel) (by decide +kernel)
theorem ok_Sheet_init : gOk nSheet_init 0 := ⟨gT_of (i := 242) (by decide +kernel) (by decide +kernel), by decide +kernel, by decide⟩
theorem wi_Sheet_init : Cond.instanceMethod nSheet_init.1 ∈ gT := gT_of (i := 241) (by decide +kernel) (by decide +kernel)
theorem ok_Desk_track : gOk nDesk_track 1 := ⟨gT_of (i := 274) (by decide +kernel) (by decide +kernel), by decide +kernel, by decide⟩
theorem wi_Desk_track : Cond.instanceMethod nDesk_track.1 ∈ gT := gT_of (i := 272) (by decide +kernel) (by decide +kernel)
theorem wse_Desk_track : Cond.selects "SwingDesk" nDesk_track.1 nDesk_track.1 ∈ gT := gT_of (i := 273) (by decide +kernel) (by decide +kernel)
theorem ok_Desk_isWithin : gOk nDesk_isWithin 3 := ⟨gT_of (i := 277) (by decide +kernel) (by decide +kernel), by decide +kernel, by decide⟩
theorem wst_Desk_isWithin : Cond.static nDesk_isWithin.1 ∈ gT := gT_of (i := 276) (by decide +kernel) (by decide +kernel)
theorem ok_Show_addTrack : gOk nShow_addTrack 1 := ⟨gT_of (i := 281) (by decide +kernel) (by decide +kernel), by decide +kernel, by decide⟩
theorem wi_Show_addTrack : Cond.instanceMethod nShow_addTrack.1 ∈ gT := gT_of (i := 279) (by decide +kernel) (by decide +kernel)
theorem wse_Show_addTrack : Cond.selects "SwingDesk$Show" nShow_addTrack.1 nShow_addTrack.1 ∈ gT := gT_of (i := 280) (by decide +kernel) (by decide +kernel)
theorem ok_Desk_in : gOk nDesk_in 4 := ⟨gT_of (i := 287) (by decide +kernel) (by decide +kernel), by decide +kernel, by decide⟩
theorem wi_Desk_in : Cond.instanceMethod nDesk_in.1 ∈ gT := gT_of (i := 285) (by decide +kernel) (by decide +kernel)
theorem wse_Desk_in : Cond.selects "SwingDesk" nDesk_in.1 nDesk_in.1 ∈ gT := gT_of (i := 286) (by decide +kernel) (by decide +kernel)
theorem ok_Show_isTrack : gOk nShow_isTrack 1 := ⟨gT_of (i := 292) (by decide +kernel) (by decide +kernel), by decide +kernel, by decide⟩
theorem wi_Show_isTrack : Cond.instanceMethod nShow_isTrack.1 ∈ gT := gT_of (i := 290) (by decide +kernel) (by decide +kernel)
theorem wse_Show_isTrack : Cond.selects "SwingDesk$Show" nShow_isTrack.1 nShow_isTrack.1 ∈ gT := gT_of (i := 291) (by decide +kernel) (by decide +kernel)
theorem ok_Desk_isCue : gOk nDesk_isCue 1 := ⟨gT_of (i := 295) (by decide +kernel) (by decide +kernel), by decide +kernel, by decide⟩
theorem wst_Desk_isCue : Cond.static nDesk_isCue.1 ∈ gT := gT_of (i := 294) (by decide +kernel) (by decide +kernel)
theorem ok_Desk_isFlag : gOk nDesk_isFlag 1 := ⟨gT_of (i := 298) (by decide +kernel) (by decide +kernel), by decide +kernel, by decide⟩
theorem wst_Desk_isFlag : Cond.static nDesk_isFlag.1 ∈ gT := gT_of (i := 297) (by decide +kernel) (by decide +kernel)
theorem ok_Show_placeAt : gOk nShow_placeAt 2 := ⟨gT_of (i := 302) (by decide +kernel) (by decide +kernel), by decide +kernel, by decide⟩
theorem wi_Show_placeAt : Cond.instanceMethod nShow_placeAt.1 ∈ gT := gT_of (i := 300) (by decide +kernel) (by decide +kernel)
theorem wse_Show_placeAt : Cond.selects "SwingDesk$Show" nShow_placeAt.1 nShow_placeAt.1 ∈ gT := gT_of (i := 301) (by decide +kernel) (by decide +kernel)
theorem ok_Show_put : gOk nShow_put 4 := ⟨gT_of (i := 308) (by decide +kernel) (by decide +kernel), by decide +kernel, by decide⟩
theorem wi_Show_put : Cond.instanceMethod nShow_put.1 ∈ gT := gT_of (i := 306) (by decide +kernel) (by decide +kernel)
theorem wse_Show_put : Cond.selects "SwingDesk$Show" nShow_put.1 nShow_put.1 ∈ gT := gT_of (i := 307) (by decide +kernel) (by decide +kernel)
theorem ok_Show_setLift : gOk nShow_setLift 3 := ⟨gT_of (i := 312) (by decide +kernel) (by decide +kernel), by decide +kernel, by decide⟩
theorem wi_Show_setLift : Cond.instanceMethod nShow_setLift.1 ∈ gT := gT_of (i := 310) (by decide +kernel) (by decide +kernel)
theorem wse_Show_setLift : Cond.selects "SwingDesk$Show" nShow_setLift.1 nShow_setLift.1 ∈ gT := gT_of (i := 311) (by decide +kernel) (by decide +kernel)
theorem ok_Desk_lift : gOk nDesk_lift 3 := ⟨gT_of (i := 316) (by decide +kernel) (by decide +kernel), by decide +kernel, by decide⟩
theorem wi_Desk_lift : Cond.instanceMethod nDesk_lift.1 ∈ gT := gT_of (i := 314) (by decide +kernel) (by decide +kernel)
theorem wse_Desk_lift : Cond.selects "SwingDesk" nDesk_lift.1 nDesk_lift.1 ∈ gT := gT_of (i := 315) (by decide +kernel) (by decide +kernel)
theorem ok_Show_hasLift : gOk nShow_hasLift 1 := ⟨gT_of (i := 320) (by decide +kernel) (by decide +kernel), by decide +kernel, by decide⟩
theorem wi_Show_hasLift : Cond.instanceMethod nShow_hasLift.1 ∈ gT := gT_of (i := 318) (by decide +kernel) (by decide +kernel)
theorem wse_Show_hasLift : Cond.selects "SwingDesk$Show" nShow_hasLift.1 nShow_hasLift.1 ∈ gT := gT_of (i := 319) (by decide +kernel) (by decide +kernel)
theorem ok_Show_lifterIn : gOk nShow_lifterIn 1 := ⟨gT_of (i := 324) (by decide +kernel) (by decide +kernel), by decide +kernel, by decide⟩
theorem wi_Show_lifterIn : Cond.instanceMethod nShow_lifterIn.1 ∈ gT := gT_of (i := 322) (by decide +kernel) (by decide +kernel)
theorem wse_Show_lifterIn : Cond.selects "SwingDesk$Show" nShow_lifterIn.1 nShow_lifterIn.1 ∈ gT := gT_of (i := 323) (by decide +kernel) (by decide +kernel)
theorem ok_Show_isIn : gOk nShow_isIn 2 := ⟨gT_of (i := 329) (by decide +kernel) (by decide +kernel), by decide +kernel, by decide⟩
theorem wi_Show_isIn : Cond.instanceMethod nShow_isIn.1 ∈ gT := gT_of (i := 327) (by decide +kernel) (by decide +kernel)
theorem wse_Show_isIn : Cond.selects "SwingDesk$Show" nShow_isIn.1 nShow_isIn.1 ∈ gT := gT_of (i := 328) (by decide +kernel) (by decide +kernel)
theorem ok_Desk_lay : gOk nDesk_lay 3 := ⟨gT_of (i := 334) (by decide +kernel) (by decide +kernel), by decide +kernel, by decide⟩
theorem wi_Desk_lay : Cond.instanceMethod nDesk_lay.1 ∈ gT := gT_of (i := 332) (by decide +kernel) (by decide +kernel)
theorem wse_Desk_lay : Cond.selects "SwingDesk" nDesk_lay.1 nDesk_lay.1 ∈ gT := gT_of (i := 333) (by decide +kernel) (by decide +kernel)
theorem ok_Desk_sheetOf : gOk nDesk_sheetOf 1 := ⟨gT_of (i := 338) (by decide +kernel) (by decide +kernel), by decide +kernel, by decide⟩
theorem wi_Desk_sheetOf : Cond.instanceMethod nDesk_sheetOf.1 ∈ gT := gT_of (i := 337) (by decide +kernel) (by decide +kernel)
theorem wse_Desk_sheetOf : Cond.selects "SwingDesk" nDesk_sheetOf.1 nDesk_sheetOf.1 ∈ gT := gT_of (i := 0) (by decide +kernel) (by decide +kernel)
theorem ok_Sheet_isMissing : gOk nSheet_isMissing 0 := ⟨gT_of (i := 342) (by decide +kernel) (by decide +kernel), by decide +kernel, by decide⟩
theorem wi_Sheet_isMissing : Cond.instanceMethod nSheet_isMissing.1 ∈ gT := gT_of (i := 340) (by decide +kernel) (by decide +kernel)
theorem wse_Sheet_isMissing : Cond.selects "SwingDesk$Sheet" nSheet_isMissing.1 nSheet_isMissing.1 ∈ gT := gT_of (i := 341) (by decide +kernel) (by decide +kernel)
theorem ok_Sheet_length : gOk nSheet_length 0 := ⟨gT_of (i := 347) (by decide +kernel) (by decide +kernel), by decide +kernel, by decide⟩
theorem wi_Sheet_length : Cond.instanceMethod nSheet_length.1 ∈ gT := gT_of (i := 345) (by decide +kernel) (by decide +kernel)
theorem wse_Sheet_length : Cond.selects "SwingDesk$Sheet" nSheet_length.1 nSheet_length.1 ∈ gT := gT_of (i := 346) (by decide +kernel) (by decide +kernel)
theorem ok_Sheet_valueAt : gOk nSheet_valueAt 1 := ⟨gT_of (i := 352) (by decide +kernel) (by decide +kernel), by decide +kernel, by decide⟩
theorem wi_Sheet_valueAt : Cond.instanceMethod nSheet_valueAt.1 ∈ gT := gT_of (i := 350) (by decide +kernel) (by decide +kernel)
theorem wse_Sheet_valueAt : Cond.selects "SwingDesk$Sheet" nSheet_valueAt.1 nSheet_valueAt.1 ∈ gT := gT_of (i := 351) (by decide +kernel) (by decide +kernel)
theorem ok_Sheet_hasRun : gOk nSheet_hasRun 2 := ⟨gT_of (i := 356) (by decide +kernel) (by decide +kernel), by decide +kernel, by decide⟩
theorem wi_Sheet_hasRun : Cond.instanceMethod nSheet_hasRun.1 ∈ gT := gT_of (i := 354) (by decide +kernel) (by decide +kernel)
theorem wse_Sheet_hasRun : Cond.selects "SwingDesk$Sheet" nSheet_hasRun.1 nSheet_hasRun.1 ∈ gT := gT_of (i := 355) (by decide +kernel) (by decide +kernel)
theorem ok_Desk_told : gOk nDesk_told 3 := ⟨gT_of (i := 361) (by decide +kernel) (by decide +kernel), by decide +kernel, by decide⟩
theorem wi_Desk_told : Cond.instanceMethod nDesk_told.1 ∈ gT := gT_of (i := 359) (by decide +kernel) (by decide +kernel)
theorem wse_Desk_told : Cond.selects "SwingDesk" nDesk_told.1 nDesk_told.1 ∈ gT := gT_of (i := 360) (by decide +kernel) (by decide +kernel)
theorem ok_Show_mustAt : gOk nShow_mustAt 2 := ⟨gT_of (i := 365) (by decide +kernel) (by decide +kernel), by decide +kernel, by decide⟩
theorem wi_Show_mustAt : Cond.instanceMethod nShow_mustAt.1 ∈ gT := gT_of (i := 363) (by decide +kernel) (by decide +kernel)
theorem wse_Show_mustAt : Cond.selects "SwingDesk$Show" nShow_mustAt.1 nShow_mustAt.1 ∈ gT := gT_of (i := 364) (by decide +kernel) (by decide +kernel)
theorem ok_Show_liftPartner : gOk nShow_liftPartner 2 := ⟨gT_of (i := 369) (by decide +kernel) (by decide +kernel), by decide +kernel, by decide⟩
theorem wi_Show_liftPartner : Cond.instanceMethod nShow_liftPartner.1 ∈ gT := gT_of (i := 367) (by decide +kernel) (by decide +kernel)
theorem wse_Show_liftPartner : Cond.selects "SwingDesk$Show" nShow_liftPartner.1 nShow_liftPartner.1 ∈ gT := gT_of (i := 368) (by decide +kernel) (by decide +kernel)
theorem ok_Show_liftedIn : gOk nShow_liftedIn 1 := ⟨gT_of (i := 373) (by decide +kernel) (by decide +kernel), by decide +kernel, by decide⟩
theorem wi_Show_liftedIn : Cond.instanceMethod nShow_liftedIn.1 ∈ gT := gT_of (i := 371) (by decide +kernel) (by decide +kernel)
theorem wse_Show_liftedIn : Cond.selects "SwingDesk$Show" nShow_liftedIn.1 nShow_liftedIn.1 ∈ gT := gT_of (i := 372) (by decide +kernel) (by decide +kernel)
theorem ok_Desk_person : gOk nDesk_person 2 := ⟨gT_of (i := 377) (by decide +kernel) (by decide +kernel), by decide +kernel, by decide⟩
theorem wi_Desk_person : Cond.instanceMethod nDesk_person.1 ∈ gT := gT_of (i := 375) (by decide +kernel) (by decide +kernel)
theorem wse_Desk_person : Cond.selects "SwingDesk" nDesk_person.1 nDesk_person.1 ∈ gT := gT_of (i := 376) (by decide +kernel) (by decide +kernel)
theorem ok_Desk_isKind : gOk nDesk_isKind 1 := ⟨gT_of (i := 380) (by decide +kernel) (by decide +kernel), by decide +kernel, by decide⟩
theorem wst_Desk_isKind : Cond.static nDesk_isKind.1 ∈ gT := gT_of (i := 379) (by decide +kernel) (by decide +kernel)
theorem ok_Company_addPerson : gOk nCompany_addPerson 2 := ⟨gT_of (i := 384) (by decide +kernel) (by decide +kernel), by decide +kernel, by decide⟩
theorem wi_Company_addPerson : Cond.instanceMethod nCompany_addPerson.1 ∈ gT := gT_of (i := 382) (by decide +kernel) (by decide +kernel)
theorem wse_Company_addPerson : Cond.selects "SwingDesk$Company" nCompany_addPerson.1 nCompany_addPerson.1 ∈ gT := gT_of (i := 383) (by decide +kernel) (by decide +kernel)
theorem ok_Desk_isOf : gOk nDesk_isOf 2 := ⟨gT_of (i := 389) (by decide +kernel) (by decide +kernel), by decide +kernel, by decide⟩
theorem wi_Desk_isOf : Cond.instanceMethod nDesk_isOf.1 ∈ gT := gT_of (i := 387) (by decide +kernel) (by decide +kernel)
theorem wse_Desk_isOf : Cond.selects "SwingDesk" nDesk_isOf.1 nDesk_isOf.1 ∈ gT := gT_of (i := 388) (by decide +kernel) (by decide +kernel)
theorem ok_Company_isPerson : gOk nCompany_isPerson 1 := ⟨gT_of (i := 393) (by decide +kernel) (by decide +kernel), by decide +kernel, by decide⟩
theorem wi_Company_isPerson : Cond.instanceMethod nCompany_isPerson.1 ∈ gT := gT_of (i := 391) (by decide +kernel) (by decide +kernel)
theorem wse_Company_isPerson : Cond.selects "SwingDesk$Company" nCompany_isPerson.1 nCompany_isPerson.1 ∈ gT := gT_of (i := 392) (by decide +kernel) (by decide +kernel)
theorem ok_Company_isOfKind : gOk nCompany_isOfKind 2 := ⟨gT_of (i := 397) (by decide +kernel) (by decide +kernel), by decide +kernel, by decide⟩
theorem wi_Company_isOfKind : Cond.instanceMethod nCompany_isOfKind.1 ∈ gT := gT_of (i := 395) (by decide +kernel) (by decide +kernel)
theorem wse_Company_isOfKind : Cond.selects "SwingDesk$Company" nCompany_isOfKind.1 nCompany_isOfKind.1 ∈ gT := gT_of (i := 396) (by decide +kernel) (by decide +kernel)
theorem ok_Desk_own : gOk nDesk_own 2 := ⟨gT_of (i := 402) (by decide +kernel) (by decide +kernel), by decide +kernel, by decide⟩
theorem wi_Desk_own : Cond.instanceMethod nDesk_own.1 ∈ gT := gT_of (i := 400) (by decide +kernel) (by decide +kernel)
theorem wse_Desk_own : Cond.selects "SwingDesk" nDesk_own.1 nDesk_own.1 ∈ gT := gT_of (i := 401) (by decide +kernel) (by decide +kernel)
theorem ok_Company_ownerOf : gOk nCompany_ownerOf 1 := ⟨gT_of (i := 406) (by decide +kernel) (by decide +kernel), by decide +kernel, by decide⟩
theorem wi_Company_ownerOf : Cond.instanceMethod nCompany_ownerOf.1 ∈ gT := gT_of (i := 404) (by decide +kernel) (by decide +kernel)
theorem wse_Company_ownerOf : Cond.selects "SwingDesk$Company" nCompany_ownerOf.1 nCompany_ownerOf.1 ∈ gT := gT_of (i := 405) (by decide +kernel) (by decide +kernel)
theorem ok_Company_owns : gOk nCompany_owns 2 := ⟨gT_of (i := 410) (by decide +kernel) (by decide +kernel), by decide +kernel, by decide⟩
theorem wi_Company_owns : Cond.instanceMethod nCompany_owns.1 ∈ gT := gT_of (i := 408) (by decide +kernel) (by decide +kernel)
theorem wse_Company_owns : Cond.selects "SwingDesk$Company" nCompany_owns.1 nCompany_owns.1 ∈ gT := gT_of (i := 409) (by decide +kernel) (by decide +kernel)
theorem ok_Company_ownedBy : gOk nCompany_ownedBy 1 := ⟨gT_of (i := 414) (by decide +kernel) (by decide +kernel), by decide +kernel, by decide⟩
theorem wi_Company_ownedBy : Cond.instanceMethod nCompany_ownedBy.1 ∈ gT := gT_of (i := 412) (by decide +kernel) (by decide +kernel)
theorem wse_Company_ownedBy : Cond.selects "SwingDesk$Company" nCompany_ownedBy.1 nCompany_ownedBy.1 ∈ gT := gT_of (i := 413) (by decide +kernel) (by decide +kernel)
theorem ok_Company_setOwned : gOk nCompany_setOwned 2 := ⟨gT_of (i := 418) (by decide +kernel) (by decide +kernel), by decide +kernel, by decide⟩
theorem wi_Company_setOwned : Cond.instanceMethod nCompany_setOwned.1 ∈ gT := gT_of (i := 416) (by decide +kernel) (by decide +kernel)
theorem wse_Company_setOwned : Cond.selects "SwingDesk$Company" nCompany_setOwned.1 nCompany_setOwned.1 ∈ gT := gT_of (i := 417) (by decide +kernel) (by decide +kernel)
theorem ok_Desk_did : gOk nDesk_did 2 := ⟨gT_of (i := 422) (by decide +kernel) (by decide +kernel), by decide +kernel, by decide⟩
theorem wi_Desk_did : Cond.instanceMethod nDesk_did.1 ∈ gT := gT_of (i := 420) (by decide +kernel) (by decide +kernel)
theorem wse_Desk_did : Cond.selects "SwingDesk" nDesk_did.1 nDesk_did.1 ∈ gT := gT_of (i := 421) (by decide +kernel) (by decide +kernel)
theorem ok_Company_daysSinceDid : gOk nCompany_daysSinceDid 2 := ⟨gT_of (i := 426) (by decide +kernel) (by decide +kernel), by decide +kernel, by decide⟩
theorem wi_Company_daysSinceDid : Cond.instanceMethod nCompany_daysSinceDid.1 ∈ gT := gT_of (i := 424) (by decide +kernel) (by decide +kernel)
theorem wse_Company_daysSinceDid : Cond.selects "SwingDesk$Company" nCompany_daysSinceDid.1 nCompany_daysSinceDid.1 ∈ gT := gT_of (i := 425) (by decide +kernel) (by decide +kernel)
theorem ok_Company_sinceDay : gOk nCompany_sinceDay 1 := ⟨gT_of (i := 431) (by decide +kernel) (by decide +kernel), by decide +kernel, by decide⟩
theorem wi_Company_sinceDay : Cond.instanceMethod nCompany_sinceDay.1 ∈ gT := gT_of (i := 430) (by decide +kernel) (by decide +kernel)
theorem wse_Company_sinceDay : Cond.selects "SwingDesk$Company" nCompany_sinceDay.1 nCompany_sinceDay.1 ∈ gT := gT_of (i := 1) (by decide +kernel) (by decide +kernel)
theorem ok_Company_setDidToday : gOk nCompany_setDidToday 2 := ⟨gT_of (i := 435) (by decide +kernel) (by decide +kernel), by decide +kernel, by decide⟩
theorem wi_Company_setDidToday : Cond.instanceMethod nCompany_setDidToday.1 ∈ gT := gT_of (i := 433) (by decide +kernel) (by decide +kernel)
theorem wse_Company_setDidToday : Cond.selects "SwingDesk$Company" nCompany_setDidToday.1 nCompany_setDidToday.1 ∈ gT := gT_of (i := 434) (by decide +kernel) (by decide +kernel)
theorem ok_Desk_fresh : gOk nDesk_fresh 2 := ⟨gT_of (i := 439) (by decide +kernel) (by decide +kernel), by decide +kernel, by decide⟩
theorem wi_Desk_fresh : Cond.instanceMethod nDesk_fresh.1 ∈ gT := gT_of (i := 437) (by decide +kernel) (by decide +kernel)
theorem wse_Desk_fresh : Cond.selects "SwingDesk" nDesk_fresh.1 nDesk_fresh.1 ∈ gT := gT_of (i := 438) (by decide +kernel) (by decide +kernel)
theorem ok_Company_knows : gOk nCompany_knows 2 := ⟨gT_of (i := 443) (by decide +kernel) (by decide +kernel), by decide +kernel, by decide⟩
theorem wi_Company_knows : Cond.instanceMethod nCompany_knows.1 ∈ gT := gT_of (i := 441) (by decide +kernel) (by decide +kernel)
theorem wse_Company_knows : Cond.selects "SwingDesk$Company" nCompany_knows.1 nCompany_knows.1 ∈ gT := gT_of (i := 442) (by decide +kernel) (by decide +kernel)
theorem ok_Company_isFresh : gOk nCompany_isFresh 2 := ⟨gT_of (i := 448) (by decide +kernel) (by decide +kernel), by decide +kernel, by decide⟩
theorem wi_Company_isFresh : Cond.instanceMethod nCompany_isFresh.1 ∈ gT := gT_of (i := 446) (by decide +kernel) (by decide +kernel)
theorem wse_Company_isFresh : Cond.selects "SwingDesk$Company" nCompany_isFresh.1 nCompany_isFresh.1 ∈ gT := gT_of (i := 447) (by decide +kernel) (by decide +kernel)
theorem ok_Desk_rehearse : gOk nDesk_rehearse 2 := ⟨gT_of (i := 453) (by decide +kernel) (by decide +kernel), by decide +kernel, by decide⟩
theorem wi_Desk_rehearse : Cond.instanceMethod nDesk_rehearse.1 ∈ gT := gT_of (i := 451) (by decide +kernel) (by decide +kernel)
theorem wse_Desk_rehearse : Cond.selects "SwingDesk" nDesk_rehearse.1 nDesk_rehearse.1 ∈ gT := gT_of (i := 452) (by decide +kernel) (by decide +kernel)
theorem ok_Company_areTwo : gOk nCompany_areTwo 2 := ⟨gT_of (i := 457) (by decide +kernel) (by decide +kernel), by decide +kernel, by decide⟩
theorem wi_Company_areTwo : Cond.instanceMethod nCompany_areTwo.1 ∈ gT := gT_of (i := 455) (by decide +kernel) (by decide +kernel)
theorem wse_Company_areTwo : Cond.selects "SwingDesk$Company" nCompany_areTwo.1 nCompany_areTwo.1 ∈ gT := gT_of (i := 456) (by decide +kernel) (by decide +kernel)
theorem ok_Company_daysSinceRehearsed : gOk nCompany_daysSinceRehearsed 2 := ⟨gT_of (i := 461) (by decide +kernel) (by decide +kernel), by decide +kernel, by decide⟩
theorem wi_Company_daysSinceRehearsed : Cond.instanceMethod nCompany_daysSinceRehearsed.1 ∈ gT := gT_of (i := 459) (by decide +kernel) (by decide +kernel)
theorem wse_Company_daysSinceRehearsed : Cond.selects "SwingDesk$Company" nCompany_daysSinceRehearsed.1 nCompany_daysSinceRehearsed.1 ∈ gT := gT_of (i := 460) (by decide +kernel) (by decide +kernel)
theorem ok_Company_setRehearsedToday : gOk nCompany_setRehearsedToday 2 := ⟨gT_of (i := 465) (by decide +kernel) (by decide +kernel), by decide +kernel, by decide⟩
theorem wi_Company_setRehearsedToday : Cond.instanceMethod nCompany_setRehearsedToday.1 ∈ gT := gT_of (i := 463) (by decide +kernel) (by decide +kernel)
theorem wse_Company_setRehearsedToday : Cond.selects "SwingDesk$Company" nCompany_setRehearsedToday.1 nCompany_setRehearsedToday.1 ∈ gT := gT_of (i := 464) (by decide +kernel) (by decide +kernel)
theorem ok_Desk_feud : gOk nDesk_feud 3 := ⟨gT_of (i := 470) (by decide +kernel) (by decide +kernel), by decide +kernel, by decide⟩
theorem wi_Desk_feud : Cond.instanceMethod nDesk_feud.1 ∈ gT := gT_of (i := 468) (by decide +kernel) (by decide +kernel)
theorem wse_Desk_feud : Cond.selects "SwingDesk" nDesk_feud.1 nDesk_feud.1 ∈ gT := gT_of (i := 469) (by decide +kernel) (by decide +kernel)
theorem ok_Company_areFoes : gOk nCompany_areFoes 2 := ⟨gT_of (i := 474) (by decide +kernel) (by decide +kernel), by decide +kernel, by decide⟩
theorem wi_Company_areFoes : Cond.instanceMethod nCompany_areFoes.1 ∈ gT := gT_of (i := 472) (by decide +kernel) (by decide +kernel)
theorem wse_Company_areFoes : Cond.selects "SwingDesk$Company" nCompany_areFoes.1 nCompany_areFoes.1 ∈ gT := gT_of (i := 473) (by decide +kernel) (by decide +kernel)
theorem ok_Company_foesOf : gOk nCompany_foesOf 1 := ⟨gT_of (i := 478) (by decide +kernel) (by decide +kernel), by decide +kernel, by decide⟩
theorem wi_Company_foesOf : Cond.instanceMethod nCompany_foesOf.1 ∈ gT := gT_of (i := 476) (by decide +kernel) (by decide +kernel)
theorem wse_Company_foesOf : Cond.selects "SwingDesk$Company" nCompany_foesOf.1 nCompany_foesOf.1 ∈ gT := gT_of (i := 477) (by decide +kernel) (by decide +kernel)
theorem ok_Company_setFoes : gOk nCompany_setFoes 3 := ⟨gT_of (i := 482) (by decide +kernel) (by decide +kernel), by decide +kernel, by decide⟩
theorem wi_Company_setFoes : Cond.instanceMethod nCompany_setFoes.1 ∈ gT := gT_of (i := 480) (by decide +kernel) (by decide +kernel)
theorem wse_Company_setFoes : Cond.selects "SwingDesk$Company" nCompany_setFoes.1 nCompany_setFoes.1 ∈ gT := gT_of (i := 481) (by decide +kernel) (by decide +kernel)
theorem ok_Desk_days : gOk nDesk_days 1 := ⟨gT_of (i := 486) (by decide +kernel) (by decide +kernel), by decide +kernel, by decide⟩
theorem wi_Desk_days : Cond.instanceMethod nDesk_days.1 ∈ gT := gT_of (i := 484) (by decide +kernel) (by decide +kernel)
theorem wse_Desk_days : Cond.selects "SwingDesk" nDesk_days.1 nDesk_days.1 ∈ gT := gT_of (i := 485) (by decide +kernel) (by decide +kernel)
theorem ok_Company_today : gOk nCompany_today 0 := ⟨gT_of (i := 490) (by decide +kernel) (by decide +kernel), by decide +kernel, by decide⟩
theorem wi_Company_today : Cond.instanceMethod nCompany_today.1 ∈ gT := gT_of (i := 488) (by decide +kernel) (by decide +kernel)
theorem wse_Company_today : Cond.selects "SwingDesk$Company" nCompany_today.1 nCompany_today.1 ∈ gT := gT_of (i := 489) (by decide +kernel) (by decide +kernel)
theorem ok_Company_passDays : gOk nCompany_passDays 1 := ⟨gT_of (i := 494) (by decide +kernel) (by decide +kernel), by decide +kernel, by decide⟩
theorem wi_Company_passDays : Cond.instanceMethod nCompany_passDays.1 ∈ gT := gT_of (i := 492) (by decide +kernel) (by decide +kernel)
theorem wse_Company_passDays : Cond.selects "SwingDesk$Company" nCompany_passDays.1 nCompany_passDays.1 ∈ gT := gT_of (i := 493) (by decide +kernel) (by decide +kernel)
theorem ok_Night_clear : gOk nNight_clear 0 := ⟨gT_of (i := 498) (by decide +kernel) (by decide +kernel), by decide +kernel, by decide⟩
theorem wi_Night_clear : Cond.instanceMethod nNight_clear.1 ∈ gT := gT_of (i := 496) (by decide +kernel) (by decide +kernel)
theorem wse_Night_clear : Cond.selects "SwingDesk$Night" nNight_clear.1 nNight_clear.1 ∈ gT := gT_of (i := 497) (by decide +kernel) (by decide +kernel)
theorem ok_Desk_out : gOk nDesk_out 2 := ⟨gT_of (i := 502) (by decide +kernel) (by decide +kernel), by decide +kernel, by decide⟩
theorem wi_Desk_out : Cond.instanceMethod nDesk_out.1 ∈ gT := gT_of (i := 500) (by decide +kernel) (by decide +kernel)
theorem wse_Desk_out : Cond.selects "SwingDesk" nDesk_out.1 nDesk_out.1 ∈ gT := gT_of (i := 501) (by decide +kernel) (by decide +kernel)
theorem ok_Company_outFrom : gOk nCompany_outFrom 1 := ⟨gT_of (i := 506) (by decide +kernel) (by decide +kernel), by decide +kernel, by decide⟩
theorem wi_Company_outFrom : Cond.instanceMethod nCompany_outFrom.1 ∈ gT := gT_of (i := 504) (by decide +kernel) (by decide +kernel)
theorem wse_Company_outFrom : Cond.selects "SwingDesk$Company" nCompany_outFrom.1 nCompany_outFrom.1 ∈ gT := gT_of (i := 505) (by decide +kernel) (by decide +kernel)
theorem ok_Company_setOutFrom : gOk nCompany_setOutFrom 2 := ⟨gT_of (i := 510) (by decide +kernel) (by decide +kernel), by decide +kernel, by decide⟩
theorem wi_Company_setOutFrom : Cond.instanceMethod nCompany_setOutFrom.1 ∈ gT := gT_of (i := 508) (by decide +kernel) (by decide +kernel)
theorem wse_Company_setOutFrom : Cond.selects "SwingDesk$Company" nCompany_setOutFrom.1 nCompany_setOutFrom.1 ∈ gT := gT_of (i := 509) (by decide +kernel) (by decide +kernel)
theorem ok_Desk_cast : gOk nDesk_cast 1 := ⟨gT_of (i := 514) (by decide +kernel) (by decide +kernel), by decide +kernel, by decide⟩
theorem wi_Desk_cast : Cond.instanceMethod nDesk_cast.1 ∈ gT := gT_of (i := 512) (by decide +kernel) (by decide +kernel)
theorem wse_Desk_cast : Cond.selects "SwingDesk" nDesk_cast.1 nDesk_cast.1 ∈ gT := gT_of (i := 513) (by decide +kernel) (by decide +kernel)
theorem ok_CastSearch_leastLoss : gOk nCastSearch_leastLoss 1 := ⟨gT_of (i := 518) (by decide +kernel) (by decide +kernel), by decide +kernel, by decide⟩
theorem wi_CastSearch_leastLoss : Cond.instanceMethod nCastSearch_leastLoss.1 ∈ gT := gT_of (i := 516) (by decide +kernel) (by decide +kernel)
theorem wse_CastSearch_leastLoss : Cond.selects "SwingDesk$CastSearch" nCastSearch_leastLoss.1 nCastSearch_leastLoss.1 ∈ gT := gT_of (i := 517) (by decide +kernel) (by decide +kernel)
theorem ok_Show_tracks : gOk nShow_tracks 0 := ⟨gT_of (i := 522) (by decide +kernel) (by decide +kernel), by decide +kernel, by decide⟩
theorem wi_Show_tracks : Cond.instanceMethod nShow_tracks.1 ∈ gT := gT_of (i := 520) (by decide +kernel) (by decide +kernel)
theorem wse_Show_tracks : Cond.selects "SwingDesk$Show" nShow_tracks.1 nShow_tracks.1 ∈ gT := gT_of (i := 521) (by decide +kernel) (by decide +kernel)
theorem ok_CastSearch_readPeople : gOk nCastSearch_readPeople 1 := ⟨gT_of (i := 526) (by decide +kernel) (by decide +kernel), by decide +kernel, by decide⟩
theorem wi_CastSearch_readPeople : Cond.instanceMethod nCastSearch_readPeople.1 ∈ gT := gT_of (i := 525) (by decide +kernel) (by decide +kernel)
theorem wse_CastSearch_readPeople : Cond.selects "SwingDesk$CastSearch" nCastSearch_readPeople.1 nCastSearch_readPeople.1 ∈ gT := gT_of (i := 2) (by decide +kernel) (by decide +kernel)
theorem ok_Show_lastCue : gOk nShow_lastCue 1 := ⟨gT_of (i := 530) (by decide +kernel) (by decide +kernel), by decide +kernel, by decide⟩
theorem wi_Show_lastCue : Cond.instanceMethod nShow_lastCue.1 ∈ gT := gT_of (i := 528) (by decide +kernel) (by decide +kernel)
theorem wse_Show_lastCue : Cond.selects "SwingDesk$Show" nShow_lastCue.1 nShow_lastCue.1 ∈ gT := gT_of (i := 529) (by decide +kernel) (by decide +kernel)
theorem ok_Company_people : gOk nCompany_people 0 := ⟨gT_of (i := 536) (by decide +kernel) (by decide +kernel), by decide +kernel, by decide⟩
theorem wi_Company_people : Cond.instanceMethod nCompany_people.1 ∈ gT := gT_of (i := 534) (by decide +kernel) (by decide +kernel)
theorem wse_Company_people : Cond.selects "SwingDesk$Company" nCompany_people.1 nCompany_people.1 ∈ gT := gT_of (i := 535) (by decide +kernel) (by decide +kernel)
theorem ok_Show_dressOf : gOk nShow_dressOf 1 := ⟨gT_of (i := 541) (by decide +kernel) (by decide +kernel), by decide +kernel, by decide⟩
theorem wi_Show_dressOf : Cond.instanceMethod nShow_dressOf.1 ∈ gT := gT_of (i := 539) (by decide +kernel) (by decide +kernel)
theorem wse_Show_dressOf : Cond.selects "SwingDesk$Show" nShow_dressOf.1 nShow_dressOf.1 ∈ gT := gT_of (i := 540) (by decide +kernel) (by decide +kernel)
theorem ok_Company_canPlay : gOk nCompany_canPlay 3 := ⟨gT_of (i := 545) (by decide +kernel) (by decide +kernel), by decide +kernel, by decide⟩
theorem wi_Company_canPlay : Cond.instanceMethod nCompany_canPlay.1 ∈ gT := gT_of (i := 543) (by decide +kernel) (by decide +kernel)
theorem wse_Company_canPlay : Cond.selects "SwingDesk$Company" nCompany_canPlay.1 nCompany_canPlay.1 ∈ gT := gT_of (i := 544) (by decide +kernel) (by decide +kernel)
theorem ok_Company_fitsDress : gOk nCompany_fitsDress 2 := ⟨gT_of (i := 550) (by decide +kernel) (by decide +kernel), by decide +kernel, by decide⟩
theorem wi_Company_fitsDress : Cond.instanceMethod nCompany_fitsDress.1 ∈ gT := gT_of (i := 548) (by decide +kernel) (by decide +kernel)
theorem wse_Company_fitsDress : Cond.selects "SwingDesk$Company" nCompany_fitsDress.1 nCompany_fitsDress.1 ∈ gT := gT_of (i := 549) (by decide +kernel) (by decide +kernel)
theorem ok_Math_abs : gOk nMath_abs 1 := ⟨gT_of (i := 553) (by decide +kernel) (by decide +kernel), by decide +kernel, by decide⟩
theorem wst_Math_abs : Cond.static nMath_abs.1 ∈ gT := gT_of (i := 552) (by decide +kernel) (by decide +kernel)
theorem ok_CastSearch_coverLoss : gOk nCastSearch_coverLoss 3 := ⟨gT_of (i := 557) (by decide +kernel) (by decide +kernel), by decide +kernel, by decide⟩
theorem wi_CastSearch_coverLoss : Cond.instanceMethod nCastSearch_coverLoss.1 ∈ gT := gT_of (i := 556) (by decide +kernel) (by decide +kernel)
theorem wse_CastSearch_coverLoss : Cond.selects "SwingDesk$CastSearch" nCastSearch_coverLoss.1 nCastSearch_coverLoss.1 ∈ gT := gT_of (i := 3) (by decide +kernel) (by decide +kernel)
theorem ok_CastSearch_readEarlierTracks : gOk nCastSearch_readEarlierTracks 1 := ⟨gT_of (i := 564) (by decide +kernel) (by decide +kernel), by decide +kernel, by decide⟩
theorem wi_CastSearch_readEarlierTracks : Cond.instanceMethod nCastSearch_readEarlierTracks.1 ∈ gT := gT_of (i := 563) (by decide +kernel) (by decide +kernel)
theorem wse_CastSearch_readEarlierTracks : Cond.selects "SwingDesk$CastSearch" nCastSearch_readEarlierTracks.1 nCastSearch_readEarlierTracks.1 ∈ gT := gT_of (i := 4) (by decide +kernel) (by decide +kernel)
theorem ok_Show_canBeOnePersons : gOk nShow_canBeOnePersons 2 := ⟨gT_of (i := 568) (by decide +kernel) (by decide +kernel), by decide +kernel, by decide⟩
theorem wi_Show_canBeOnePersons : Cond.instanceMethod nShow_canBeOnePersons.1 ∈ gT := gT_of (i := 566) (by decide +kernel) (by decide +kernel)
theorem wse_Show_canBeOnePersons : Cond.selects "SwingDesk$Show" nShow_canBeOnePersons.1 nShow_canBeOnePersons.1 ∈ gT := gT_of (i := 567) (by decide +kernel) (by decide +kernel)
theorem ok_Show_isFarStep : gOk nShow_isFarStep 3 := ⟨gT_of (i := 572) (by decide +kernel) (by decide +kernel), by decide +kernel, by decide⟩
theorem wi_Show_isFarStep : Cond.instanceMethod nShow_isFarStep.1 ∈ gT := gT_of (i := 571) (by decide +kernel) (by decide +kernel)
theorem wse_Show_isFarStep : Cond.selects "SwingDesk$Show" nShow_isFarStep.1 nShow_isFarStep.1 ∈ gT := gT_of (i := 5) (by decide +kernel) (by decide +kernel)
theorem ok_Show_canBeFoes : gOk nShow_canBeFoes 2 := ⟨gT_of (i := 578) (by decide +kernel) (by decide +kernel), by decide +kernel, by decide⟩
theorem wi_Show_canBeFoes : Cond.instanceMethod nShow_canBeFoes.1 ∈ gT := gT_of (i := 576) (by decide +kernel) (by decide +kernel)
theorem wse_Show_canBeFoes : Cond.selects "SwingDesk$Show" nShow_canBeFoes.1 nShow_canBeFoes.1 ∈ gT := gT_of (i := 577) (by decide +kernel) (by decide +kernel)
theorem ok_Show_countMusts : gOk nShow_countMusts 1 := ⟨gT_of (i := 582) (by decide +kernel) (by decide +kernel), by decide +kernel, by decide⟩
theorem wi_Show_countMusts : Cond.instanceMethod nShow_countMusts.1 ∈ gT := gT_of (i := 580) (by decide +kernel) (by decide +kernel)
theorem wse_Show_countMusts : Cond.selects "SwingDesk$Show" nShow_countMusts.1 nShow_countMusts.1 ∈ gT := gT_of (i := 581) (by decide +kernel) (by decide +kernel)
theorem ok_CastSearch_readLifts : gOk nCastSearch_readLifts 0 := ⟨gT_of (i := 587) (by decide +kernel) (by decide +kernel), by decide +kernel, by decide⟩
theorem wi_CastSearch_readLifts : Cond.instanceMethod nCastSearch_readLifts.1 ∈ gT := gT_of (i := 586) (by decide +kernel) (by decide +kernel)
theorem wse_CastSearch_readLifts : Cond.selects "SwingDesk$CastSearch" nCastSearch_readLifts.1 nCastSearch_readLifts.1 ∈ gT := gT_of (i := 6) (by decide +kernel) (by decide +kernel)
theorem ok_CastSearch_seek : gOk nCastSearch_seek 2 := ⟨gT_of (i := 596) (by decide +kernel) (by decide +kernel), by decide +kernel, by decide⟩
theorem wi_CastSearch_seek : Cond.instanceMethod nCastSearch_seek.1 ∈ gT := gT_of (i := 595) (by decide +kernel) (by decide +kernel)
theorem wse_CastSearch_seek : Cond.selects "SwingDesk$CastSearch" nCastSearch_seek.1 nCastSearch_seek.1 ∈ gT := gT_of (i := 7) (by decide +kernel) (by decide +kernel)
theorem ok_CastSearch_keepIfLess : gOk nCastSearch_keepIfLess 1 := ⟨gT_of (i := 600) (by decide +kernel) (by decide +kernel), by decide +kernel, by decide⟩
theorem wi_CastSearch_keepIfLess : Cond.instanceMethod nCastSearch_keepIfLess.1 ∈ gT := gT_of (i := 599) (by decide +kernel) (by decide +kernel)
theorem wse_CastSearch_keepIfLess : Cond.selects "SwingDesk$CastSearch" nCastSearch_keepIfLess.1 nCastSearch_keepIfLess.1 ∈ gT := gT_of (i := 8) (by decide +kernel) (by decide +kernel)
theorem ok_CastSearch_barred : gOk nCastSearch_barred 1 := ⟨gT_of (i := 607) (by decide +kernel) (by decide +kernel), by decide +kernel, by decide⟩
theorem wi_CastSearch_barred : Cond.instanceMethod nCastSearch_barred.1 ∈ gT := gT_of (i := 606) (by decide +kernel) (by decide +kernel)
theorem wse_CastSearch_barred : Cond.selects "SwingDesk$CastSearch" nCastSearch_barred.1 nCastSearch_barred.1 ∈ gT := gT_of (i := 9) (by decide +kernel) (by decide +kernel)
theorem ok_CastSearch_tryPerson : gOk nCastSearch_tryPerson 3 := ⟨gT_of (i := 612) (by decide +kernel) (by decide +kernel), by decide +kernel, by decide⟩
theorem wi_CastSearch_tryPerson : Cond.instanceMethod nCastSearch_tryPerson.1 ∈ gT := gT_of (i := 611) (by decide +kernel) (by decide +kernel)
theorem wse_CastSearch_tryPerson : Cond.selects "SwingDesk$CastSearch" nCastSearch_tryPerson.1 nCastSearch_tryPerson.1 ∈ gT := gT_of (i := 10) (by decide +kernel) (by decide +kernel)
theorem ok_CastSearch_liftLoss : gOk nCastSearch_liftLoss 1 := ⟨gT_of (i := 616) (by decide +kernel) (by decide +kernel), by decide +kernel, by decide⟩
theorem wi_CastSearch_liftLoss : Cond.instanceMethod nCastSearch_liftLoss.1 ∈ gT := gT_of (i := 615) (by decide +kernel) (by decide +kernel)
theorem wse_CastSearch_liftLoss : Cond.selects "SwingDesk$CastSearch" nCastSearch_liftLoss.1 nCastSearch_liftLoss.1 ∈ gT := gT_of (i := 11) (by decide +kernel) (by decide +kernel)
theorem ok_Company_doLift : gOk nCompany_doLift 4 := ⟨gT_of (i := 620) (by decide +kernel) (by decide +kernel), by decide +kernel, by decide⟩
theorem wi_Company_doLift : Cond.instanceMethod nCompany_doLift.1 ∈ gT := gT_of (i := 618) (by decide +kernel) (by decide +kernel)
theorem wse_Company_doLift : Cond.selects "SwingDesk$Company" nCompany_doLift.1 nCompany_doLift.1 ∈ gT := gT_of (i := 619) (by decide +kernel) (by decide +kernel)
theorem ok_Company_isFreshPair : gOk nCompany_isFreshPair 2 := ⟨gT_of (i := 624) (by decide +kernel) (by decide +kernel), by decide +kernel, by decide⟩
theorem wi_Company_isFreshPair : Cond.instanceMethod nCompany_isFreshPair.1 ∈ gT := gT_of (i := 622) (by decide +kernel) (by decide +kernel)
theorem wse_Company_isFreshPair : Cond.selects "SwingDesk$Company" nCompany_isFreshPair.1 nCompany_isFreshPair.1 ∈ gT := gT_of (i := 623) (by decide +kernel) (by decide +kernel)
theorem ok_Night_begin : gOk nNight_begin 1 := ⟨gT_of (i := 630) (by decide +kernel) (by decide +kernel), by decide +kernel, by decide⟩
theorem wi_Night_begin : Cond.instanceMethod nNight_begin.1 ∈ gT := gT_of (i := 628) (by decide +kernel) (by decide +kernel)
theorem wse_Night_begin : Cond.selects "SwingDesk$Night" nNight_begin.1 nNight_begin.1 ∈ gT := gT_of (i := 629) (by decide +kernel) (by decide +kernel)
theorem ok_CastSearch_bestAt : gOk nCastSearch_bestAt 1 := ⟨gT_of (i := 636) (by decide +kernel) (by decide +kernel), by decide +kernel, by decide⟩
theorem wi_CastSearch_bestAt : Cond.instanceMethod nCastSearch_bestAt.1 ∈ gT := gT_of (i := 634) (by decide +kernel) (by decide +kernel)
theorem wse_CastSearch_bestAt : Cond.selects "SwingDesk$CastSearch" nCastSearch_bestAt.1 nCastSearch_bestAt.1 ∈ gT := gT_of (i := 635) (by decide +kernel) (by decide +kernel)
theorem ok_Night_holdFrom : gOk nNight_holdFrom 3 := ⟨gT_of (i := 640) (by decide +kernel) (by decide +kernel), by decide +kernel, by decide⟩
theorem wi_Night_holdFrom : Cond.instanceMethod nNight_holdFrom.1 ∈ gT := gT_of (i := 639) (by decide +kernel) (by decide +kernel)
theorem wse_Night_holdFrom : Cond.selects "SwingDesk$Night" nNight_holdFrom.1 nNight_holdFrom.1 ∈ gT := gT_of (i := 12) (by decide +kernel) (by decide +kernel)
theorem ok_Desk_has : gOk nDesk_has 1 := ⟨gT_of (i := 646) (by decide +kernel) (by decide +kernel), by decide +kernel, by decide⟩
theorem wi_Desk_has : Cond.instanceMethod nDesk_has.1 ∈ gT := gT_of (i := 644) (by decide +kernel) (by decide +kernel)
theorem wse_Desk_has : Cond.selects "SwingDesk" nDesk_has.1 nDesk_has.1 ∈ gT := gT_of (i := 645) (by decide +kernel) (by decide +kernel)
theorem ok_Night_castAt : gOk nNight_castAt 1 := ⟨gT_of (i := 650) (by decide +kernel) (by decide +kernel), by decide +kernel, by decide⟩
theorem wi_Night_castAt : Cond.instanceMethod nNight_castAt.1 ∈ gT := gT_of (i := 648) (by decide +kernel) (by decide +kernel)
theorem wse_Night_castAt : Cond.selects "SwingDesk$Night" nNight_castAt.1 nNight_castAt.1 ∈ gT := gT_of (i := 649) (by decide +kernel) (by decide +kernel)
theorem ok_Desk_who : gOk nDesk_who 1 := ⟨gT_of (i := 654) (by decide +kernel) (by decide +kernel), by decide +kernel, by decide⟩
theorem wi_Desk_who : Cond.instanceMethod nDesk_who.1 ∈ gT := gT_of (i := 652) (by decide +kernel) (by decide +kernel)
theorem wse_Desk_who : Cond.selects "SwingDesk" nDesk_who.1 nDesk_who.1 ∈ gT := gT_of (i := 653) (by decide +kernel) (by decide +kernel)
theorem ok_Night_hasCast : gOk nNight_hasCast 0 := ⟨gT_of (i := 658) (by decide +kernel) (by decide +kernel), by decide +kernel, by decide⟩
theorem wi_Night_hasCast : Cond.instanceMethod nNight_hasCast.1 ∈ gT := gT_of (i := 656) (by decide +kernel) (by decide +kernel)
theorem wse_Night_hasCast : Cond.selects "SwingDesk$Night" nNight_hasCast.1 nNight_hasCast.1 ∈ gT := gT_of (i := 657) (by decide +kernel) (by decide +kernel)
theorem ok_Night_holdersIn : gOk nNight_holdersIn 1 := ⟨gT_of (i := 662) (by decide +kernel) (by decide +kernel), by decide +kernel, by decide⟩
theorem wi_Night_holdersIn : Cond.instanceMethod nNight_holdersIn.1 ∈ gT := gT_of (i := 660) (by decide +kernel) (by decide +kernel)
theorem wse_Night_holdersIn : Cond.selects "SwingDesk$Night" nNight_holdersIn.1 nNight_holdersIn.1 ∈ gT := gT_of (i := 661) (by decide +kernel) (by decide +kernel)
theorem ok_Night_holderAt : gOk nNight_holderAt 2 := ⟨gT_of (i := 666) (by decide +kernel) (by decide +kernel), by decide +kernel, by decide⟩
theorem wi_Night_holderAt : Cond.instanceMethod nNight_holderAt.1 ∈ gT := gT_of (i := 664) (by decide +kernel) (by decide +kernel)
theorem wse_Night_holderAt : Cond.selects "SwingDesk$Night" nNight_holderAt.1 nNight_holderAt.1 ∈ gT := gT_of (i := 665) (by decide +kernel) (by decide +kernel)
theorem ok_Desk_done : gOk nDesk_done 1 := ⟨gT_of (i := 671) (by decide +kernel) (by decide +kernel), by decide +kernel, by decide⟩
theorem wi_Desk_done : Cond.instanceMethod nDesk_done.1 ∈ gT := gT_of (i := 669) (by decide +kernel) (by decide +kernel)
theorem wse_Desk_done : Cond.selects "SwingDesk" nDesk_done.1 nDesk_done.1 ∈ gT := gT_of (i := 670) (by decide +kernel) (by decide +kernel)
theorem ok_Night_isLiftDone : gOk nNight_isLiftDone 1 := ⟨gT_of (i := 675) (by decide +kernel) (by decide +kernel), by decide +kernel, by decide⟩
theorem wi_Night_isLiftDone : Cond.instanceMethod nNight_isLiftDone.1 ∈ gT := gT_of (i := 673) (by decide +kernel) (by decide +kernel)
theorem wse_Night_isLiftDone : Cond.selects "SwingDesk$Night" nNight_isLiftDone.1 nNight_isLiftDone.1 ∈ gT := gT_of (i := 674) (by decide +kernel) (by decide +kernel)
theorem ok_Desk_hurt : gOk nDesk_hurt 2 := ⟨gT_of (i := 683) (by decide +kernel) (by decide +kernel), by decide +kernel, by decide⟩
theorem wi_Desk_hurt : Cond.instanceMethod nDesk_hurt.1 ∈ gT := gT_of (i := 681) (by decide +kernel) (by decide +kernel)
theorem wse_Desk_hurt : Cond.selects "SwingDesk" nDesk_hurt.1 nDesk_hurt.1 ∈ gT := gT_of (i := 682) (by decide +kernel) (by decide +kernel)
theorem ok_Night_replace : gOk nNight_replace 2 := ⟨gT_of (i := 687) (by decide +kernel) (by decide +kernel), by decide +kernel, by decide⟩
theorem wi_Night_replace : Cond.instanceMethod nNight_replace.1 ∈ gT := gT_of (i := 685) (by decide +kernel) (by decide +kernel)
theorem wse_Night_replace : Cond.selects "SwingDesk$Night" nNight_replace.1 nNight_replace.1 ∈ gT := gT_of (i := 686) (by decide +kernel) (by decide +kernel)
theorem ok_Night_firstHeld : gOk nNight_firstHeld 3 := ⟨gT_of (i := 691) (by decide +kernel) (by decide +kernel), by decide +kernel, by decide⟩
theorem wi_Night_firstHeld : Cond.instanceMethod nNight_firstHeld.1 ∈ gT := gT_of (i := 690) (by decide +kernel) (by decide +kernel)
theorem wse_Night_firstHeld : Cond.selects "SwingDesk$Night" nNight_firstHeld.1 nNight_firstHeld.1 ∈ gT := gT_of (i := 13) (by decide +kernel) (by decide +kernel)
theorem ok_Night_handOn : gOk nNight_handOn 2 := ⟨gT_of (i := 695) (by decide +kernel) (by decide +kernel), by decide +kernel, by decide⟩
theorem wi_Night_handOn : Cond.instanceMethod nNight_handOn.1 ∈ gT := gT_of (i := 694) (by decide +kernel) (by decide +kernel)
theorem wse_Night_handOn : Cond.selects "SwingDesk$Night" nNight_handOn.1 nNight_handOn.1 ∈ gT := gT_of (i := 14) (by decide +kernel) (by decide +kernel)
theorem ok_Night_busyFrom : gOk nNight_busyFrom 2 := ⟨gT_of (i := 700) (by decide +kernel) (by decide +kernel), by decide +kernel, by decide⟩
theorem wi_Night_busyFrom : Cond.instanceMethod nNight_busyFrom.1 ∈ gT := gT_of (i := 699) (by decide +kernel) (by decide +kernel)
theorem wse_Night_busyFrom : Cond.selects "SwingDesk$Night" nNight_busyFrom.1 nNight_busyFrom.1 ∈ gT := gT_of (i := 15) (by decide +kernel) (by decide +kernel)
theorem ok_Company_isOut : gOk nCompany_isOut 1 := ⟨gT_of (i := 706) (by decide +kernel) (by decide +kernel), by decide +kernel, by decide⟩
theorem wi_Company_isOut : Cond.instanceMethod nCompany_isOut.1 ∈ gT := gT_of (i := 704) (by decide +kernel) (by decide +kernel)
theorem wse_Company_isOut : Cond.selects "SwingDesk$Company" nCompany_isOut.1 nCompany_isOut.1 ∈ gT := gT_of (i := 705) (by decide +kernel) (by decide +kernel)
theorem ok_Desk_at : gOk nDesk_at 2 := ⟨gT_of (i := 713) (by decide +kernel) (by decide +kernel), by decide +kernel, by decide⟩
theorem wi_Desk_at : Cond.instanceMethod nDesk_at.1 ∈ gT := gT_of (i := 711) (by decide +kernel) (by decide +kernel)
theorem wse_Desk_at : Cond.selects "SwingDesk" nDesk_at.1 nDesk_at.1 ∈ gT := gT_of (i := 712) (by decide +kernel) (by decide +kernel)
theorem ok_Desk_plan : gOk nDesk_plan 0 := ⟨gT_of (i := 718) (by decide +kernel) (by decide +kernel), by decide +kernel, by decide⟩
theorem wi_Desk_plan : Cond.instanceMethod nDesk_plan.1 ∈ gT := gT_of (i := 716) (by decide +kernel) (by decide +kernel)
theorem wse_Desk_plan : Cond.selects "SwingDesk" nDesk_plan.1 nDesk_plan.1 ∈ gT := gT_of (i := 717) (by decide +kernel) (by decide +kernel)
theorem ok_PutIns_find : gOk nPutIns_find 0 := ⟨gT_of (i := 722) (by decide +kernel) (by decide +kernel), by decide +kernel, by decide⟩
theorem wi_PutIns_find : Cond.instanceMethod nPutIns_find.1 ∈ gT := gT_of (i := 720) (by decide +kernel) (by decide +kernel)
theorem wse_PutIns_find : Cond.selects "SwingDesk$PutIns" nPutIns_find.1 nPutIns_find.1 ∈ gT := gT_of (i := 721) (by decide +kernel) (by decide +kernel)
theorem ok_PutIns_readNeeds : gOk nPutIns_readNeeds 0 := ⟨gT_of (i := 726) (by decide +kernel) (by decide +kernel), by decide +kernel, by decide⟩
theorem wi_PutIns_readNeeds : Cond.instanceMethod nPutIns_readNeeds.1 ∈ gT := gT_of (i := 725) (by decide +kernel) (by decide +kernel)
theorem wse_PutIns_readNeeds : Cond.selects "SwingDesk$PutIns" nPutIns_readNeeds.1 nPutIns_readNeeds.1 ∈ gT := gT_of (i := 16) (by decide +kernel) (by decide +kernel)
theorem ok_PutIns_countFresh : gOk nPutIns_countFresh 1 := ⟨gT_of (i := 731) (by decide +kernel) (by decide +kernel), by decide +kernel, by decide⟩
theorem wi_PutIns_countFresh : Cond.instanceMethod nPutIns_countFresh.1 ∈ gT := gT_of (i := 730) (by decide +kernel) (by decide +kernel)
theorem wse_PutIns_countFresh : Cond.selects "SwingDesk$PutIns" nPutIns_countFresh.1 nPutIns_countFresh.1 ∈ gT := gT_of (i := 17) (by decide +kernel) (by decide +kernel)
theorem ok_Math_max : gOk nMath_max 2 := ⟨gT_of (i := 736) (by decide +kernel) (by decide +kernel), by decide +kernel, by decide⟩
theorem wst_Math_max : Cond.static nMath_max.1 ∈ gT := gT_of (i := 735) (by decide +kernel) (by decide +kernel)
theorem ok_Show_countCues : gOk nShow_countCues 1 := ⟨gT_of (i := 740) (by decide +kernel) (by decide +kernel), by decide +kernel, by decide⟩
theorem wi_Show_countCues : Cond.instanceMethod nShow_countCues.1 ∈ gT := gT_of (i := 738) (by decide +kernel) (by decide +kernel)
theorem wse_Show_countCues : Cond.selects "SwingDesk$Show" nShow_countCues.1 nShow_countCues.1 ∈ gT := gT_of (i := 739) (by decide +kernel) (by decide +kernel)
theorem ok_Arrays_fillJ : gOk nArrays_fillJ 2 := ⟨gT_of (i := 744) (by decide +kernel) (by decide +kernel), by decide +kernel, by decide⟩
theorem wst_Arrays_fillJ : Cond.static nArrays_fillJ.1 ∈ gT := gT_of (i := 743) (by decide +kernel) (by decide +kernel)
theorem ok_PutIns_addPerson : gOk nPutIns_addPerson 2 := ⟨gT_of (i := 749) (by decide +kernel) (by decide +kernel), by decide +kernel, by decide⟩
theorem wi_PutIns_addPerson : Cond.instanceMethod nPutIns_addPerson.1 ∈ gT := gT_of (i := 748) (by decide +kernel) (by decide +kernel)
theorem wse_PutIns_addPerson : Cond.selects "SwingDesk$PutIns" nPutIns_addPerson.1 nPutIns_addPerson.1 ∈ gT := gT_of (i := 18) (by decide +kernel) (by decide +kernel)
theorem ok_PutIns_staleTracks : gOk nPutIns_staleTracks 1 := ⟨gT_of (i := 753) (by decide +kernel) (by decide +kernel), by decide +kernel, by decide⟩
theorem wi_PutIns_staleTracks : Cond.instanceMethod nPutIns_staleTracks.1 ∈ gT := gT_of (i := 752) (by decide +kernel) (by decide +kernel)
theorem wse_PutIns_staleTracks : Cond.selects "SwingDesk$PutIns" nPutIns_staleTracks.1 nPutIns_staleTracks.1 ∈ gT := gT_of (i := 19) (by decide +kernel) (by decide +kernel)
theorem ok_PutIns_leastWith : gOk nPutIns_leastWith 3 := ⟨gT_of (i := 758) (by decide +kernel) (by decide +kernel), by decide +kernel, by decide⟩
theorem wi_PutIns_leastWith : Cond.instanceMethod nPutIns_leastWith.1 ∈ gT := gT_of (i := 757) (by decide +kernel) (by decide +kernel)
theorem wse_PutIns_leastWith : Cond.selects "SwingDesk$PutIns" nPutIns_leastWith.1 nPutIns_leastWith.1 ∈ gT := gT_of (i := 20) (by decide +kernel) (by decide +kernel)
theorem ok_PutIns_plus : gOk nPutIns_plus 2 := ⟨gT_of (i := 762) (by decide +kernel) (by decide +kernel), by decide +kernel, by decide⟩
theorem wst_PutIns_plus : Cond.static nPutIns_plus.1 ∈ gT := gT_of (i := 761) (by decide +kernel) (by decide +kernel)
theorem ok_PutIns_hasPutIn : gOk nPutIns_hasPutIn 2 := ⟨gT_of (i := 766) (by decide +kernel) (by decide +kernel), by decide +kernel, by decide⟩
theorem wi_PutIns_hasPutIn : Cond.instanceMethod nPutIns_hasPutIn.1 ∈ gT := gT_of (i := 765) (by decide +kernel) (by decide +kernel)
theorem wse_PutIns_hasPutIn : Cond.selects "SwingDesk$PutIns" nPutIns_hasPutIn.1 nPutIns_hasPutIn.1 ∈ gT := gT_of (i := 21) (by decide +kernel) (by decide +kernel)
theorem ok_Math_min : gOk nMath_min 2 := ⟨gT_of (i := 770) (by decide +kernel) (by decide +kernel), by decide +kernel, by decide⟩
theorem wst_Math_min : Cond.static nMath_min.1 ∈ gT := gT_of (i := 769) (by decide +kernel) (by decide +kernel)
theorem ok_PutIns_leastWorth : gOk nPutIns_leastWorth 0 := ⟨gT_of (i := 775) (by decide +kernel) (by decide +kernel), by decide +kernel, by decide⟩
theorem wi_PutIns_leastWorth : Cond.instanceMethod nPutIns_leastWorth.1 ∈ gT := gT_of (i := 774) (by decide +kernel) (by decide +kernel)
theorem wse_PutIns_leastWorth : Cond.selects "SwingDesk$PutIns" nPutIns_leastWorth.1 nPutIns_leastWorth.1 ∈ gT := gT_of (i := 22) (by decide +kernel) (by decide +kernel)
theorem ok_PutIns_hours : gOk nPutIns_hours 0 := ⟨gT_of (i := 780) (by decide +kernel) (by decide +kernel), by decide +kernel, by decide⟩
theorem wi_PutIns_hours : Cond.instanceMethod nPutIns_hours.1 ∈ gT := gT_of (i := 778) (by decide +kernel) (by decide +kernel)
theorem wse_PutIns_hours : Cond.selects "SwingDesk$PutIns" nPutIns_hours.1 nPutIns_hours.1 ∈ gT := gT_of (i := 779) (by decide +kernel) (by decide +kernel)
theorem ok_Desk_putIn : gOk nDesk_putIn 1 := ⟨gT_of (i := 784) (by decide +kernel) (by decide +kernel), by decide +kernel, by decide⟩
theorem wi_Desk_putIn : Cond.instanceMethod nDesk_putIn.1 ∈ gT := gT_of (i := 782) (by decide +kernel) (by decide +kernel)
theorem wse_Desk_putIn : Cond.selects "SwingDesk" nDesk_putIn.1 nDesk_putIn.1 ∈ gT := gT_of (i := 783) (by decide +kernel) (by decide +kernel)
theorem ok_PutIns_trackOf : gOk nPutIns_trackOf 1 := ⟨gT_of (i := 788) (by decide +kernel) (by decide +kernel), by decide +kernel, by decide⟩
theorem wi_PutIns_trackOf : Cond.instanceMethod nPutIns_trackOf.1 ∈ gT := gT_of (i := 786) (by decide +kernel) (by decide +kernel)
theorem wse_PutIns_trackOf : Cond.selects "SwingDesk$PutIns" nPutIns_trackOf.1 nPutIns_trackOf.1 ∈ gT := gT_of (i := 787) (by decide +kernel) (by decide +kernel)
theorem ok_Desk_sheet : gOk nDesk_sheet 2 := ⟨gT_of (i := 793) (by decide +kernel) (by decide +kernel), by decide +kernel, by decide⟩
theorem wi_Desk_sheet : Cond.instanceMethod nDesk_sheet.1 ∈ gT := gT_of (i := 791) (by decide +kernel) (by decide +kernel)
theorem wse_Desk_sheet : Cond.selects "SwingDesk" nDesk_sheet.1 nDesk_sheet.1 ∈ gT := gT_of (i := 792) (by decide +kernel) (by decide +kernel)
theorem ok_Sheet_begin : gOk nSheet_begin 1 := ⟨gT_of (i := 798) (by decide +kernel) (by decide +kernel), by decide +kernel, by decide⟩
theorem wi_Sheet_begin : Cond.instanceMethod nSheet_begin.1 ∈ gT := gT_of (i := 796) (by decide +kernel) (by decide +kernel)
theorem wse_Sheet_begin : Cond.selects "SwingDesk$Sheet" nSheet_begin.1 nSheet_begin.1 ∈ gT := gT_of (i := 797) (by decide +kernel) (by decide +kernel)
theorem ok_Arrays_fillB : gOk nArrays_fillB 2 := ⟨gT_of (i := 801) (by decide +kernel) (by decide +kernel), by decide +kernel, by decide⟩
theorem wst_Arrays_fillB : Cond.static nArrays_fillB.1 ∈ gT := gT_of (i := 800) (by decide +kernel) (by decide +kernel)
theorem ok_Desk_mark : gOk nDesk_mark 3 := ⟨gT_of (i := 805) (by decide +kernel) (by decide +kernel), by decide +kernel, by decide⟩
theorem wi_Desk_mark : Cond.instanceMethod nDesk_mark.1 ∈ gT := gT_of (i := 803) (by decide +kernel) (by decide +kernel)
theorem wse_Desk_mark : Cond.selects "SwingDesk" nDesk_mark.1 nDesk_mark.1 ∈ gT := gT_of (i := 804) (by decide +kernel) (by decide +kernel)
theorem ok_Sheet_setValue : gOk nSheet_setValue 2 := ⟨gT_of (i := 810) (by decide +kernel) (by decide +kernel), by decide +kernel, by decide⟩
theorem wi_Sheet_setValue : Cond.instanceMethod nSheet_setValue.1 ∈ gT := gT_of (i := 808) (by decide +kernel) (by decide +kernel)
theorem wse_Sheet_setValue : Cond.selects "SwingDesk$Sheet" nSheet_setValue.1 nSheet_setValue.1 ∈ gT := gT_of (i := 809) (by decide +kernel) (by decide +kernel)
theorem ok_Desk_copy : gOk nDesk_copy 5 := ⟨gT_of (i := 814) (by decide +kernel) (by decide +kernel), by decide +kernel, by decide⟩
theorem wi_Desk_copy : Cond.instanceMethod nDesk_copy.1 ∈ gT := gT_of (i := 812) (by decide +kernel) (by decide +kernel)
theorem wse_Desk_copy : Cond.selects "SwingDesk" nDesk_copy.1 nDesk_copy.1 ∈ gT := gT_of (i := 813) (by decide +kernel) (by decide +kernel)
theorem ok_Sheet_take : gOk nSheet_take 4 := ⟨gT_of (i := 818) (by decide +kernel) (by decide +kernel), by decide +kernel, by decide⟩
theorem wi_Sheet_take : Cond.instanceMethod nSheet_take.1 ∈ gT := gT_of (i := 816) (by decide +kernel) (by decide +kernel)
theorem wse_Sheet_take : Cond.selects "SwingDesk$Sheet" nSheet_take.1 nSheet_take.1 ∈ gT := gT_of (i := 817) (by decide +kernel) (by decide +kernel)
theorem ok_Desk_count : gOk nDesk_count 1 := ⟨gT_of (i := 823) (by decide +kernel) (by decide +kernel), by decide +kernel, by decide⟩
theorem wi_Desk_count : Cond.instanceMethod nDesk_count.1 ∈ gT := gT_of (i := 821) (by decide +kernel) (by decide +kernel)
theorem wse_Desk_count : Cond.selects "SwingDesk" nDesk_count.1 nDesk_count.1 ∈ gT := gT_of (i := 822) (by decide +kernel) (by decide +kernel)
theorem ok_Show_countLifts : gOk nShow_countLifts 0 := ⟨gT_of (i := 829) (by decide +kernel) (by decide +kernel), by decide +kernel, by decide⟩
theorem wi_Show_countLifts : Cond.instanceMethod nShow_countLifts.1 ∈ gT := gT_of (i := 827) (by decide +kernel) (by decide +kernel)
theorem wse_Show_countLifts : Cond.selects "SwingDesk$Show" nShow_countLifts.1 nShow_countLifts.1 ∈ gT := gT_of (i := 828) (by decide +kernel) (by decide +kernel)
theorem ok_Company_countOut : gOk nCompany_countOut 0 := ⟨gT_of (i := 834) (by decide +kernel) (by decide +kernel), by decide +kernel, by decide⟩
theorem wi_Company_countOut : Cond.instanceMethod nCompany_countOut.1 ∈ gT := gT_of (i := 832) (by decide +kernel) (by decide +kernel)
theorem wse_Company_countOut : Cond.selects "SwingDesk$Company" nCompany_countOut.1 nCompany_countOut.1 ∈ gT := gT_of (i := 833) (by decide +kernel) (by decide +kernel)
theorem ok_Company_countOwned : gOk nCompany_countOwned 0 := ⟨gT_of (i := 839) (by decide +kernel) (by decide +kernel), by decide +kernel, by decide⟩
theorem wi_Company_countOwned : Cond.instanceMethod nCompany_countOwned.1 ∈ gT := gT_of (i := 837) (by decide +kernel) (by decide +kernel)
theorem wse_Company_countOwned : Cond.selects "SwingDesk$Company" nCompany_countOwned.1 nCompany_countOwned.1 ∈ gT := gT_of (i := 838) (by decide +kernel) (by decide +kernel)
theorem ok_Company_countFeuds : gOk nCompany_countFeuds 0 := ⟨gT_of (i := 844) (by decide +kernel) (by decide +kernel), by decide +kernel, by decide⟩
theorem wi_Company_countFeuds : Cond.instanceMethod nCompany_countFeuds.1 ∈ gT := gT_of (i := 842) (by decide +kernel) (by decide +kernel)
theorem wse_Company_countFeuds : Cond.selects "SwingDesk$Company" nCompany_countFeuds.1 nCompany_countFeuds.1 ∈ gT := gT_of (i := 843) (by decide +kernel) (by decide +kernel)
theorem ok_Integer_bitCount : gOk nInteger_bitCount 1 := ⟨gT_of (i := 847) (by decide +kernel) (by decide +kernel), by decide +kernel, by decide⟩
theorem wst_Integer_bitCount : Cond.static nInteger_bitCount.1 ∈ gT := gT_of (i := 846) (by decide +kernel) (by decide +kernel)
theorem ok_Company_countFreshPairs : gOk nCompany_countFreshPairs 0 := ⟨gT_of (i := 854) (by decide +kernel) (by decide +kernel), by decide +kernel, by decide⟩
theorem wi_Company_countFreshPairs : Cond.instanceMethod nCompany_countFreshPairs.1 ∈ gT := gT_of (i := 852) (by decide +kernel) (by decide +kernel)
theorem wse_Company_countFreshPairs : Cond.selects "SwingDesk$Company" nCompany_countFreshPairs.1 nCompany_countFreshPairs.1 ∈ gT := gT_of (i := 853) (by decide +kernel) (by decide +kernel)
theorem ok_Model_init : gOk nModel_init 0 := ⟨gT_of (i := 859) (by decide +kernel) (by decide +kernel), by decide +kernel, by decide⟩
theorem wi_Model_init : Cond.instanceMethod nModel_init.1 ∈ gT := gT_of (i := 858) (by decide +kernel) (by decide +kernel)
theorem ok_Model_track : gOk nModel_track 1 := ⟨gT_of (i := 950) (by decide +kernel) (by decide +kernel), by decide +kernel, by decide⟩
theorem wi_Model_track : Cond.instanceMethod nModel_track.1 ∈ gT := gT_of (i := 948) (by decide +kernel) (by decide +kernel)
theorem wse_Model_track : Cond.selects "SwingDeskModel" nModel_track.1 nModel_track.1 ∈ gT := gT_of (i := 949) (by decide +kernel) (by decide +kernel)
theorem ok_Model_isIn : gOk nModel_isIn 3 := ⟨gT_of (i := 953) (by decide +kernel) (by decide +kernel), by decide +kernel, by decide⟩
theorem wst_Model_isIn : Cond.static nModel_isIn.1 ∈ gT := gT_of (i := 952) (by decide +kernel) (by decide +kernel)
theorem ok_Model_in : gOk nModel_in 4 := ⟨gT_of (i := 959) (by decide +kernel) (by decide +kernel), by decide +kernel, by decide⟩
theorem wi_Model_in : Cond.instanceMethod nModel_in.1 ∈ gT := gT_of (i := 957) (by decide +kernel) (by decide +kernel)
theorem wse_Model_in : Cond.selects "SwingDeskModel" nModel_in.1 nModel_in.1 ∈ gT := gT_of (i := 958) (by decide +kernel) (by decide +kernel)
theorem ok_Model_isTrack : gOk nModel_isTrack 1 := ⟨gT_of (i := 963) (by decide +kernel) (by decide +kernel), by decide +kernel, by decide⟩
theorem wi_Model_isTrack : Cond.instanceMethod nModel_isTrack.1 ∈ gT := gT_of (i := 962) (by decide +kernel) (by decide +kernel)
theorem wse_Model_isTrack : Cond.selects "SwingDeskModel" nModel_isTrack.1 nModel_isTrack.1 ∈ gT := gT_of (i := 23) (by decide +kernel) (by decide +kernel)
theorem ok_Model_isCue : gOk nModel_isCue 1 := ⟨gT_of (i := 966) (by decide +kernel) (by decide +kernel), by decide +kernel, by decide⟩
theorem wst_Model_isCue : Cond.static nModel_isCue.1 ∈ gT := gT_of (i := 965) (by decide +kernel) (by decide +kernel)
theorem ok_Model_put : gOk nModel_put 4 := ⟨gT_of (i := 971) (by decide +kernel) (by decide +kernel), by decide +kernel, by decide⟩
theorem wi_Model_put : Cond.instanceMethod nModel_put.1 ∈ gT := gT_of (i := 970) (by decide +kernel) (by decide +kernel)
theorem wse_Model_put : Cond.selects "SwingDeskModel" nModel_put.1 nModel_put.1 ∈ gT := gT_of (i := 24) (by decide +kernel) (by decide +kernel)
theorem ok_Model_lift : gOk nModel_lift 3 := ⟨gT_of (i := 975) (by decide +kernel) (by decide +kernel), by decide +kernel, by decide⟩
theorem wi_Model_lift : Cond.instanceMethod nModel_lift.1 ∈ gT := gT_of (i := 973) (by decide +kernel) (by decide +kernel)
theorem wse_Model_lift : Cond.selects "SwingDeskModel" nModel_lift.1 nModel_lift.1 ∈ gT := gT_of (i := 974) (by decide +kernel) (by decide +kernel)
theorem ok_Model_is : gOk nModel_is 2 := ⟨gT_of (i := 979) (by decide +kernel) (by decide +kernel), by decide +kernel, by decide⟩
theorem wi_Model_is : Cond.instanceMethod nModel_is.1 ∈ gT := gT_of (i := 978) (by decide +kernel) (by decide +kernel)
theorem wse_Model_is : Cond.selects "SwingDeskModel" nModel_is.1 nModel_is.1 ∈ gT := gT_of (i := 25) (by decide +kernel) (by decide +kernel)
theorem ok_Model_lay : gOk nModel_lay 3 := ⟨gT_of (i := 984) (by decide +kernel) (by decide +kernel), by decide +kernel, by decide⟩
theorem wi_Model_lay : Cond.instanceMethod nModel_lay.1 ∈ gT := gT_of (i := 982) (by decide +kernel) (by decide +kernel)
theorem wse_Model_lay : Cond.selects "SwingDeskModel" nModel_lay.1 nModel_lay.1 ∈ gT := gT_of (i := 983) (by decide +kernel) (by decide +kernel)
theorem ok_Model_isSheet : gOk nModel_isSheet 1 := ⟨gT_of (i := 987) (by decide +kernel) (by decide +kernel), by decide +kernel, by decide⟩
theorem wst_Model_isSheet : Cond.static nModel_isSheet.1 ∈ gT := gT_of (i := 986) (by decide +kernel) (by decide +kernel)
theorem ok_Model_told : gOk nModel_told 3 := ⟨gT_of (i := 993) (by decide +kernel) (by decide +kernel), by decide +kernel, by decide⟩
theorem wi_Model_told : Cond.instanceMethod nModel_told.1 ∈ gT := gT_of (i := 991) (by decide +kernel) (by decide +kernel)
theorem wse_Model_told : Cond.selects "SwingDeskModel" nModel_told.1 nModel_told.1 ∈ gT := gT_of (i := 992) (by decide +kernel) (by decide +kernel)
theorem ok_Model_person : gOk nModel_person 2 := ⟨gT_of (i := 997) (by decide +kernel) (by decide +kernel), by decide +kernel, by decide⟩
theorem wi_Model_person : Cond.instanceMethod nModel_person.1 ∈ gT := gT_of (i := 995) (by decide +kernel) (by decide +kernel)
theorem wse_Model_person : Cond.selects "SwingDeskModel" nModel_person.1 nModel_person.1 ∈ gT := gT_of (i := 996) (by decide +kernel) (by decide +kernel)
theorem ok_Model_isOf : gOk nModel_isOf 2 := ⟨gT_of (i := 1001) (by decide +kernel) (by decide +kernel), by decide +kernel, by decide⟩
theorem wi_Model_isOf : Cond.instanceMethod nModel_isOf.1 ∈ gT := gT_of (i := 999) (by decide +kernel) (by decide +kernel)
theorem wse_Model_isOf : Cond.selects "SwingDeskModel" nModel_isOf.1 nModel_isOf.1 ∈ gT := gT_of (i := 1000) (by decide +kernel) (by decide +kernel)
theorem ok_Model_isPerson : gOk nModel_isPerson 1 := ⟨gT_of (i := 1005) (by decide +kernel) (by decide +kernel), by decide +kernel, by decide⟩
theorem wi_Model_isPerson : Cond.instanceMethod nModel_isPerson.1 ∈ gT := gT_of (i := 1004) (by decide +kernel) (by decide +kernel)
theorem wse_Model_isPerson : Cond.selects "SwingDeskModel" nModel_isPerson.1 nModel_isPerson.1 ∈ gT := gT_of (i := 26) (by decide +kernel) (by decide +kernel)
theorem ok_Model_isSwing : gOk nModel_isSwing 1 := ⟨gT_of (i := 1009) (by decide +kernel) (by decide +kernel), by decide +kernel, by decide⟩
theorem wi_Model_isSwing : Cond.instanceMethod nModel_isSwing.1 ∈ gT := gT_of (i := 1008) (by decide +kernel) (by decide +kernel)
theorem wse_Model_isSwing : Cond.selects "SwingDeskModel" nModel_isSwing.1 nModel_isSwing.1 ∈ gT := gT_of (i := 27) (by decide +kernel) (by decide +kernel)
theorem ok_Model_own : gOk nModel_own 2 := ⟨gT_of (i := 1013) (by decide +kernel) (by decide +kernel), by decide +kernel, by decide⟩
theorem wi_Model_own : Cond.instanceMethod nModel_own.1 ∈ gT := gT_of (i := 1011) (by decide +kernel) (by decide +kernel)
theorem wse_Model_own : Cond.selects "SwingDeskModel" nModel_own.1 nModel_own.1 ∈ gT := gT_of (i := 1012) (by decide +kernel) (by decide +kernel)
theorem ok_Model_owner : gOk nModel_owner 1 := ⟨gT_of (i := 1017) (by decide +kernel) (by decide +kernel), by decide +kernel, by decide⟩
theorem wi_Model_owner : Cond.instanceMethod nModel_owner.1 ∈ gT := gT_of (i := 1016) (by decide +kernel) (by decide +kernel)
theorem wse_Model_owner : Cond.selects "SwingDeskModel" nModel_owner.1 nModel_owner.1 ∈ gT := gT_of (i := 28) (by decide +kernel) (by decide +kernel)
theorem ok_Model_did : gOk nModel_did 2 := ⟨gT_of (i := 1021) (by decide +kernel) (by decide +kernel), by decide +kernel, by decide⟩
theorem wi_Model_did : Cond.instanceMethod nModel_did.1 ∈ gT := gT_of (i := 1019) (by decide +kernel) (by decide +kernel)
theorem wse_Model_did : Cond.selects "SwingDeskModel" nModel_did.1 nModel_did.1 ∈ gT := gT_of (i := 1020) (by decide +kernel) (by decide +kernel)
theorem ok_Model_fresh : gOk nModel_fresh 2 := ⟨gT_of (i := 1025) (by decide +kernel) (by decide +kernel), by decide +kernel, by decide⟩
theorem wi_Model_fresh : Cond.instanceMethod nModel_fresh.1 ∈ gT := gT_of (i := 1023) (by decide +kernel) (by decide +kernel)
theorem wse_Model_fresh : Cond.selects "SwingDeskModel" nModel_fresh.1 nModel_fresh.1 ∈ gT := gT_of (i := 1024) (by decide +kernel) (by decide +kernel)
theorem ok_Model_knows : gOk nModel_knows 2 := ⟨gT_of (i := 1029) (by decide +kernel) (by decide +kernel), by decide +kernel, by decide⟩
theorem wi_Model_knows : Cond.instanceMethod nModel_knows.1 ∈ gT := gT_of (i := 1028) (by decide +kernel) (by decide +kernel)
theorem wse_Model_knows : Cond.selects "SwingDeskModel" nModel_knows.1 nModel_knows.1 ∈ gT := gT_of (i := 29) (by decide +kernel) (by decide +kernel)
theorem ok_Model_isFresh : gOk nModel_isFresh 2 := ⟨gT_of (i := 1033) (by decide +kernel) (by decide +kernel), by decide +kernel, by decide⟩
theorem wi_Model_isFresh : Cond.instanceMethod nModel_isFresh.1 ∈ gT := gT_of (i := 1032) (by decide +kernel) (by decide +kernel)
theorem wse_Model_isFresh : Cond.selects "SwingDeskModel" nModel_isFresh.1 nModel_isFresh.1 ∈ gT := gT_of (i := 30) (by decide +kernel) (by decide +kernel)
theorem ok_Model_rehearse : gOk nModel_rehearse 2 := ⟨gT_of (i := 1037) (by decide +kernel) (by decide +kernel), by decide +kernel, by decide⟩
theorem wi_Model_rehearse : Cond.instanceMethod nModel_rehearse.1 ∈ gT := gT_of (i := 1035) (by decide +kernel) (by decide +kernel)
theorem wse_Model_rehearse : Cond.selects "SwingDeskModel" nModel_rehearse.1 nModel_rehearse.1 ∈ gT := gT_of (i := 1036) (by decide +kernel) (by decide +kernel)
theorem ok_Model_feud : gOk nModel_feud 3 := ⟨gT_of (i := 1041) (by decide +kernel) (by decide +kernel), by decide +kernel, by decide⟩
theorem wi_Model_feud : Cond.instanceMethod nModel_feud.1 ∈ gT := gT_of (i := 1039) (by decide +kernel) (by decide +kernel)
theorem wse_Model_feud : Cond.selects "SwingDeskModel" nModel_feud.1 nModel_feud.1 ∈ gT := gT_of (i := 1040) (by decide +kernel) (by decide +kernel)
theorem ok_Model_days : gOk nModel_days 1 := ⟨gT_of (i := 1045) (by decide +kernel) (by decide +kernel), by decide +kernel, by decide⟩
theorem wi_Model_days : Cond.instanceMethod nModel_days.1 ∈ gT := gT_of (i := 1043) (by decide +kernel) (by decide +kernel)
theorem wse_Model_days : Cond.selects "SwingDeskModel" nModel_days.1 nModel_days.1 ∈ gT := gT_of (i := 1044) (by decide +kernel) (by decide +kernel)
theorem ok_Model_out : gOk nModel_out 2 := ⟨gT_of (i := 1049) (by decide +kernel) (by decide +kernel), by decide +kernel, by decide⟩
theorem wi_Model_out : Cond.instanceMethod nModel_out.1 ∈ gT := gT_of (i := 1047) (by decide +kernel) (by decide +kernel)
theorem wse_Model_out : Cond.selects "SwingDeskModel" nModel_out.1 nModel_out.1 ∈ gT := gT_of (i := 1048) (by decide +kernel) (by decide +kernel)
theorem ok_Model_cast : gOk nModel_cast 1 := ⟨gT_of (i := 1053) (by decide +kernel) (by decide +kernel), by decide +kernel, by decide⟩
theorem wi_Model_cast : Cond.instanceMethod nModel_cast.1 ∈ gT := gT_of (i := 1051) (by decide +kernel) (by decide +kernel)
theorem wse_Model_cast : Cond.selects "SwingDeskModel" nModel_cast.1 nModel_cast.1 ∈ gT := gT_of (i := 1052) (by decide +kernel) (by decide +kernel)
theorem ok_Model_tryFrom : gOk nModel_tryFrom 1 := ⟨gT_of (i := 1057) (by decide +kernel) (by decide +kernel), by decide +kernel, by decide⟩
theorem wi_Model_tryFrom : Cond.instanceMethod nModel_tryFrom.1 ∈ gT := gT_of (i := 1056) (by decide +kernel) (by decide +kernel)
theorem wse_Model_tryFrom : Cond.selects "SwingDeskModel" nModel_tryFrom.1 nModel_tryFrom.1 ∈ gT := gT_of (i := 31) (by decide +kernel) (by decide +kernel)
theorem ok_Model_loss : gOk nModel_loss 0 := ⟨gT_of (i := 1061) (by decide +kernel) (by decide +kernel), by decide +kernel, by decide⟩
theorem wi_Model_loss : Cond.instanceMethod nModel_loss.1 ∈ gT := gT_of (i := 1060) (by decide +kernel) (by decide +kernel)
theorem wse_Model_loss : Cond.selects "SwingDeskModel" nModel_loss.1 nModel_loss.1 ∈ gT := gT_of (i := 32) (by decide +kernel) (by decide +kernel)
theorem ok_Model_lossOf : gOk nModel_lossOf 1 := ⟨gT_of (i := 1065) (by decide +kernel) (by decide +kernel), by decide +kernel, by decide⟩
theorem wi_Model_lossOf : Cond.instanceMethod nModel_lossOf.1 ∈ gT := gT_of (i := 1064) (by decide +kernel) (by decide +kernel)
theorem wse_Model_lossOf : Cond.selects "SwingDeskModel" nModel_lossOf.1 nModel_lossOf.1 ∈ gT := gT_of (i := 33) (by decide +kernel) (by decide +kernel)
theorem ok_Model_isDone : gOk nModel_isDone 2 := ⟨gT_of (i := 1069) (by decide +kernel) (by decide +kernel), by decide +kernel, by decide⟩
theorem wi_Model_isDone : Cond.instanceMethod nModel_isDone.1 ∈ gT := gT_of (i := 1068) (by decide +kernel) (by decide +kernel)
theorem wse_Model_isDone : Cond.selects "SwingDeskModel" nModel_isDone.1 nModel_isDone.1 ∈ gT := gT_of (i := 34) (by decide +kernel) (by decide +kernel)
theorem ok_Model_isRehearsed : gOk nModel_isRehearsed 2 := ⟨gT_of (i := 1073) (by decide +kernel) (by decide +kernel), by decide +kernel, by decide⟩
theorem wi_Model_isRehearsed : Cond.instanceMethod nModel_isRehearsed.1 ∈ gT := gT_of (i := 1072) (by decide +kernel) (by decide +kernel)
theorem wse_Model_isRehearsed : Cond.selects "SwingDeskModel" nModel_isRehearsed.1 nModel_isRehearsed.1 ∈ gT := gT_of (i := 35) (by decide +kernel) (by decide +kernel)
theorem ok_Model_fits : gOk nModel_fits 2 := ⟨gT_of (i := 1077) (by decide +kernel) (by decide +kernel), by decide +kernel, by decide⟩
theorem wi_Model_fits : Cond.instanceMethod nModel_fits.1 ∈ gT := gT_of (i := 1076) (by decide +kernel) (by decide +kernel)
theorem wse_Model_fits : Cond.selects "SwingDeskModel" nModel_fits.1 nModel_fits.1 ∈ gT := gT_of (i := 36) (by decide +kernel) (by decide +kernel)
theorem ok_Model_canHave : gOk nModel_canHave 2 := ⟨gT_of (i := 1081) (by decide +kernel) (by decide +kernel), by decide +kernel, by decide⟩
theorem wi_Model_canHave : Cond.instanceMethod nModel_canHave.1 ∈ gT := gT_of (i := 1080) (by decide +kernel) (by decide +kernel)
theorem wse_Model_canHave : Cond.selects "SwingDeskModel" nModel_canHave.1 nModel_canHave.1 ∈ gT := gT_of (i := 37) (by decide +kernel) (by decide +kernel)
theorem ok_Model_far : gOk nModel_far 2 := ⟨gT_of (i := 1084) (by decide +kernel) (by decide +kernel), by decide +kernel, by decide⟩
theorem wst_Model_far : Cond.static nModel_far.1 ∈ gT := gT_of (i := 1083) (by decide +kernel) (by decide +kernel)
theorem ok_Model_isInFrom : gOk nModel_isInFrom 2 := ⟨gT_of (i := 1088) (by decide +kernel) (by decide +kernel), by decide +kernel, by decide⟩
theorem wi_Model_isInFrom : Cond.instanceMethod nModel_isInFrom.1 ∈ gT := gT_of (i := 1087) (by decide +kernel) (by decide +kernel)
theorem wse_Model_isInFrom : Cond.selects "SwingDeskModel" nModel_isInFrom.1 nModel_isInFrom.1 ∈ gT := gT_of (i := 38) (by decide +kernel) (by decide +kernel)
theorem ok_Model_meet : gOk nModel_meet 2 := ⟨gT_of (i := 1092) (by decide +kernel) (by decide +kernel), by decide +kernel, by decide⟩
theorem wi_Model_meet : Cond.instanceMethod nModel_meet.1 ∈ gT := gT_of (i := 1091) (by decide +kernel) (by decide +kernel)
theorem wse_Model_meet : Cond.selects "SwingDeskModel" nModel_meet.1 nModel_meet.1 ∈ gT := gT_of (i := 39) (by decide +kernel) (by decide +kernel)
theorem ok_Model_isFar : gOk nModel_isFar 3 := ⟨gT_of (i := 1096) (by decide +kernel) (by decide +kernel), by decide +kernel, by decide⟩
theorem wi_Model_isFar : Cond.instanceMethod nModel_isFar.1 ∈ gT := gT_of (i := 1095) (by decide +kernel) (by decide +kernel)
theorem wse_Model_isFar : Cond.selects "SwingDeskModel" nModel_isFar.1 nModel_isFar.1 ∈ gT := gT_of (i := 40) (by decide +kernel) (by decide +kernel)
theorem ok_Model_areBeside : gOk nModel_areBeside 2 := ⟨gT_of (i := 1100) (by decide +kernel) (by decide +kernel), by decide +kernel, by decide⟩
theorem wi_Model_areBeside : Cond.instanceMethod nModel_areBeside.1 ∈ gT := gT_of (i := 1099) (by decide +kernel) (by decide +kernel)
theorem wse_Model_areBeside : Cond.selects "SwingDeskModel" nModel_areBeside.1 nModel_areBeside.1 ∈ gT := gT_of (i := 41) (by decide +kernel) (by decide +kernel)
theorem ok_Model_has : gOk nModel_has 1 := ⟨gT_of (i := 1105) (by decide +kernel) (by decide +kernel), by decide +kernel, by decide⟩
theorem wi_Model_has : Cond.instanceMethod nModel_has.1 ∈ gT := gT_of (i := 1103) (by decide +kernel) (by decide +kernel)
theorem wse_Model_has : Cond.selects "SwingDeskModel" nModel_has.1 nModel_has.1 ∈ gT := gT_of (i := 1104) (by decide +kernel) (by decide +kernel)
theorem ok_Model_who : gOk nModel_who 1 := ⟨gT_of (i := 1109) (by decide +kernel) (by decide +kernel), by decide +kernel, by decide⟩
theorem wi_Model_who : Cond.instanceMethod nModel_who.1 ∈ gT := gT_of (i := 1107) (by decide +kernel) (by decide +kernel)
theorem wse_Model_who : Cond.selects "SwingDeskModel" nModel_who.1 nModel_who.1 ∈ gT := gT_of (i := 1108) (by decide +kernel) (by decide +kernel)
theorem ok_Model_done : gOk nModel_done 1 := ⟨gT_of (i := 1113) (by decide +kernel) (by decide +kernel), by decide +kernel, by decide⟩
theorem wi_Model_done : Cond.instanceMethod nModel_done.1 ∈ gT := gT_of (i := 1111) (by decide +kernel) (by decide +kernel)
theorem wse_Model_done : Cond.selects "SwingDeskModel" nModel_done.1 nModel_done.1 ∈ gT := gT_of (i := 1112) (by decide +kernel) (by decide +kernel)
theorem ok_Model_hurt : gOk nModel_hurt 2 := ⟨gT_of (i := 1117) (by decide +kernel) (by decide +kernel), by decide +kernel, by decide⟩
theorem wi_Model_hurt : Cond.instanceMethod nModel_hurt.1 ∈ gT := gT_of (i := 1115) (by decide +kernel) (by decide +kernel)
theorem wse_Model_hurt : Cond.selects "SwingDeskModel" nModel_hurt.1 nModel_hurt.1 ∈ gT := gT_of (i := 1116) (by decide +kernel) (by decide +kernel)
theorem ok_Model_takesOver : gOk nModel_takesOver 2 := ⟨gT_of (i := 1121) (by decide +kernel) (by decide +kernel), by decide +kernel, by decide⟩
theorem wi_Model_takesOver : Cond.instanceMethod nModel_takesOver.1 ∈ gT := gT_of (i := 1120) (by decide +kernel) (by decide +kernel)
theorem wse_Model_takesOver : Cond.selects "SwingDeskModel" nModel_takesOver.1 nModel_takesOver.1 ∈ gT := gT_of (i := 42) (by decide +kernel) (by decide +kernel)
theorem ok_Model_canTake : gOk nModel_canTake 3 := ⟨gT_of (i := 1125) (by decide +kernel) (by decide +kernel), by decide +kernel, by decide⟩
theorem wi_Model_canTake : Cond.instanceMethod nModel_canTake.1 ∈ gT := gT_of (i := 1124) (by decide +kernel) (by decide +kernel)
theorem wse_Model_canTake : Cond.selects "SwingDeskModel" nModel_canTake.1 nModel_canTake.1 ∈ gT := gT_of (i := 43) (by decide +kernel) (by decide +kernel)
theorem ok_Model_at : gOk nModel_at 2 := ⟨gT_of (i := 1129) (by decide +kernel) (by decide +kernel), by decide +kernel, by decide⟩
theorem wi_Model_at : Cond.instanceMethod nModel_at.1 ∈ gT := gT_of (i := 1127) (by decide +kernel) (by decide +kernel)
theorem wse_Model_at : Cond.selects "SwingDeskModel" nModel_at.1 nModel_at.1 ∈ gT := gT_of (i := 1128) (by decide +kernel) (by decide +kernel)
theorem ok_Model_plan : gOk nModel_plan 0 := ⟨gT_of (i := 1133) (by decide +kernel) (by decide +kernel), by decide +kernel, by decide⟩
theorem wi_Model_plan : Cond.instanceMethod nModel_plan.1 ∈ gT := gT_of (i := 1131) (by decide +kernel) (by decide +kernel)
theorem wse_Model_plan : Cond.selects "SwingDeskModel" nModel_plan.1 nModel_plan.1 ∈ gT := gT_of (i := 1132) (by decide +kernel) (by decide +kernel)
theorem ok_Model_findPlan : gOk nModel_findPlan 0 := ⟨gT_of (i := 1137) (by decide +kernel) (by decide +kernel), by decide +kernel, by decide⟩
theorem wi_Model_findPlan : Cond.instanceMethod nModel_findPlan.1 ∈ gT := gT_of (i := 1136) (by decide +kernel) (by decide +kernel)
theorem wse_Model_findPlan : Cond.selects "SwingDeskModel" nModel_findPlan.1 nModel_findPlan.1 ∈ gT := gT_of (i := 44) (by decide +kernel) (by decide +kernel)
theorem ok_Model_mayPut : gOk nModel_mayPut 2 := ⟨gT_of (i := 1141) (by decide +kernel) (by decide +kernel), by decide +kernel, by decide⟩
theorem wi_Model_mayPut : Cond.instanceMethod nModel_mayPut.1 ∈ gT := gT_of (i := 1140) (by decide +kernel) (by decide +kernel)
theorem wse_Model_mayPut : Cond.selects "SwingDeskModel" nModel_mayPut.1 nModel_mayPut.1 ∈ gT := gT_of (i := 45) (by decide +kernel) (by decide +kernel)
theorem ok_Model_behind : gOk nModel_behind 2 := ⟨gT_of (i := 1145) (by decide +kernel) (by decide +kernel), by decide +kernel, by decide⟩
theorem wi_Model_behind : Cond.instanceMethod nModel_behind.1 ∈ gT := gT_of (i := 1144) (by decide +kernel) (by decide +kernel)
theorem wse_Model_behind : Cond.selects "SwingDeskModel" nModel_behind.1 nModel_behind.1 ∈ gT := gT_of (i := 46) (by decide +kernel) (by decide +kernel)
theorem ok_Model_hours : gOk nModel_hours 1 := ⟨gT_of (i := 1149) (by decide +kernel) (by decide +kernel), by decide +kernel, by decide⟩
theorem wi_Model_hours : Cond.instanceMethod nModel_hours.1 ∈ gT := gT_of (i := 1148) (by decide +kernel) (by decide +kernel)
theorem wse_Model_hours : Cond.selects "SwingDeskModel" nModel_hours.1 nModel_hours.1 ∈ gT := gT_of (i := 47) (by decide +kernel) (by decide +kernel)
theorem ok_Model_putIn : gOk nModel_putIn 1 := ⟨gT_of (i := 1153) (by decide +kernel) (by decide +kernel), by decide +kernel, by decide⟩
theorem wi_Model_putIn : Cond.instanceMethod nModel_putIn.1 ∈ gT := gT_of (i := 1151) (by decide +kernel) (by decide +kernel)
theorem wse_Model_putIn : Cond.selects "SwingDeskModel" nModel_putIn.1 nModel_putIn.1 ∈ gT := gT_of (i := 1152) (by decide +kernel) (by decide +kernel)
theorem ok_Model_sheet : gOk nModel_sheet 2 := ⟨gT_of (i := 1157) (by decide +kernel) (by decide +kernel), by decide +kernel, by decide⟩
theorem wi_Model_sheet : Cond.instanceMethod nModel_sheet.1 ∈ gT := gT_of (i := 1155) (by decide +kernel) (by decide +kernel)
theorem wse_Model_sheet : Cond.selects "SwingDeskModel" nModel_sheet.1 nModel_sheet.1 ∈ gT := gT_of (i := 1156) (by decide +kernel) (by decide +kernel)
theorem ok_Model_mark : gOk nModel_mark 3 := ⟨gT_of (i := 1162) (by decide +kernel) (by decide +kernel), by decide +kernel, by decide⟩
theorem wi_Model_mark : Cond.instanceMethod nModel_mark.1 ∈ gT := gT_of (i := 1160) (by decide +kernel) (by decide +kernel)
theorem wse_Model_mark : Cond.selects "SwingDeskModel" nModel_mark.1 nModel_mark.1 ∈ gT := gT_of (i := 1161) (by decide +kernel) (by decide +kernel)
theorem ok_Model_copy : gOk nModel_copy 5 := ⟨gT_of (i := 1166) (by decide +kernel) (by decide +kernel), by decide +kernel, by decide⟩
theorem wi_Model_copy : Cond.instanceMethod nModel_copy.1 ∈ gT := gT_of (i := 1164) (by decide +kernel) (by decide +kernel)
theorem wse_Model_copy : Cond.selects "SwingDeskModel" nModel_copy.1 nModel_copy.1 ∈ gT := gT_of (i := 1165) (by decide +kernel) (by decide +kernel)
theorem ok_Model_count : gOk nModel_count 1 := ⟨gT_of (i := 1170) (by decide +kernel) (by decide +kernel), by decide +kernel, by decide⟩
theorem wi_Model_count : Cond.instanceMethod nModel_count.1 ∈ gT := gT_of (i := 1168) (by decide +kernel) (by decide +kernel)
theorem wse_Model_count : Cond.selects "SwingDeskModel" nModel_count.1 nModel_count.1 ∈ gT := gT_of (i := 1169) (by decide +kernel) (by decide +kernel)
theorem wm_Law_9 : Cond.methodLink "SwingDeskLaw" 9 nDesk_init.1 ∈ gT := gT_of (i := 63) (by decide +kernel) (by decide +kernel)
theorem wm_Desk_1 : Cond.methodLink "SwingDesk" 1 Lib.objectInit ∈ gT := gT_of (i := 66) (by decide +kernel) (by decide +kernel)
theorem wm_Desk_9 : Cond.methodLink "SwingDesk" 9 nShow_init.1 ∈ gT := gT_of (i := 71) (by decide +kernel) (by decide +kernel)
theorem wm_Show_3 : Cond.methodLink "SwingDesk$Show" 3 Lib.objectInit ∈ gT := gT_of (i := 74) (by decide +kernel) (by decide +kernel)
theorem wm_Show_32 : Cond.methodLink "SwingDesk$Show" 32 nArrays_fillI.1 ∈ gT := gT_of (i := 76) (by decide +kernel) (by decide +kernel)
theorem wm_Desk_18 : Cond.methodLink "SwingDesk" 18 nCompany_init.1 ∈ gT := gT_of (i := 101) (by decide +kernel) (by decide +kernel)
theorem wm_Company_3 : Cond.methodLink "SwingDesk$Company" 3 Lib.objectInit ∈ gT := gT_of (i := 104) (by decide +kernel) (by decide +kernel)
theorem wm_Company_41 : Cond.methodLink "SwingDesk$Company" 41 nArrays_fillI.1 ∈ gT := gT_of (i := 106) (by decide +kernel) (by decide +kernel)
theorem wm_Desk_25 : Cond.methodLink "SwingDesk" 25 nNight_init.1 ∈ gT := gT_of (i := 137) (by decide +kernel) (by decide +kernel)
theorem wm_Night_3 : Cond.methodLink "SwingDesk$Night" 3 Lib.objectInit ∈ gT := gT_of (i := 140) (by decide +kernel) (by decide +kernel)
theorem wm_Night_31 : Cond.methodLink "SwingDesk$Night" 31 nArrays_fillI.1 ∈ gT := gT_of (i := 142) (by decide +kernel) (by decide +kernel)
theorem wm_Desk_34 : Cond.methodLink "SwingDesk" 34 nCastSearch_init.1 ∈ gT := gT_of (i := 161) (by decide +kernel) (by decide +kernel)
theorem wm_CastSearch_3 : Cond.methodLink "SwingDesk$CastSearch" 3 Lib.objectInit ∈ gT := gT_of (i := 164) (by decide +kernel) (by decide +kernel)
theorem wm_Desk_41 : Cond.methodLink "SwingDesk" 41 nPutIns_init.1 ∈ gT := gT_of (i := 210) (by decide +kernel) (by decide +kernel)
theorem wm_PutIns_5 : Cond.methodLink "SwingDesk$PutIns" 5 Lib.objectInit ∈ gT := gT_of (i := 213) (by decide +kernel) (by decide +kernel)
theorem wm_Desk_52 : Cond.methodLink "SwingDesk" 52 nSheet_init.1 ∈ gT := gT_of (i := 240) (by decide +kernel) (by decide +kernel)
theorem wm_Sheet_3 : Cond.methodLink "SwingDesk$Sheet" 3 Lib.objectInit ∈ gT := gT_of (i := 243) (by decide +kernel) (by decide +kernel)
theorem wm_Law_13 : Cond.methodLink "SwingDeskLaw" 13 nDesk_track.1 ∈ gT := gT_of (i := 271) (by decide +kernel) (by decide +kernel)
theorem wm_Desk_53 : Cond.methodLink "SwingDesk" 53 nDesk_isWithin.1 ∈ gT := gT_of (i := 275) (by decide +kernel) (by decide +kernel)
theorem wm_Desk_57 : Cond.methodLink "SwingDesk" 57 nShow_addTrack.1 ∈ gT := gT_of (i := 278) (by decide +kernel) (by decide +kernel)
theorem wm_Law_18 : Cond.methodLink "SwingDeskLaw" 18 nDesk_in.1 ∈ gT := gT_of (i := 284) (by decide +kernel) (by decide +kernel)
theorem wm_Desk_63 : Cond.methodLink "SwingDesk" 63 nShow_isTrack.1 ∈ gT := gT_of (i := 289) (by decide +kernel) (by decide +kernel)
theorem wm_Desk_67 : Cond.methodLink "SwingDesk" 67 nDesk_isCue.1 ∈ gT := gT_of (i := 293) (by decide +kernel) (by decide +kernel)
theorem wm_Desk_70 : Cond.methodLink "SwingDesk" 70 nDesk_isFlag.1 ∈ gT := gT_of (i := 296) (by decide +kernel) (by decide +kernel)
theorem wm_Desk_73 : Cond.methodLink "SwingDesk" 73 nShow_placeAt.1 ∈ gT := gT_of (i := 299) (by decide +kernel) (by decide +kernel)
theorem wm_Show_39 : Cond.methodLink "SwingDesk$Show" 39 nShow_isTrack.1 ∈ gT := gT_of (i := 303) (by decide +kernel) (by decide +kernel)
theorem wm_Desk_77 : Cond.methodLink "SwingDesk" 77 nShow_put.1 ∈ gT := gT_of (i := 305) (by decide +kernel) (by decide +kernel)
theorem wm_Show_46 : Cond.methodLink "SwingDesk$Show" 46 nShow_setLift.1 ∈ gT := gT_of (i := 309) (by decide +kernel) (by decide +kernel)
theorem wm_Law_23 : Cond.methodLink "SwingDeskLaw" 23 nDesk_lift.1 ∈ gT := gT_of (i := 313) (by decide +kernel) (by decide +kernel)
theorem wm_Desk_81 : Cond.methodLink "SwingDesk" 81 nShow_hasLift.1 ∈ gT := gT_of (i := 317) (by decide +kernel) (by decide +kernel)
theorem wm_Show_50 : Cond.methodLink "SwingDesk$Show" 50 nShow_lifterIn.1 ∈ gT := gT_of (i := 321) (by decide +kernel) (by decide +kernel)
theorem wm_Desk_84 : Cond.methodLink "SwingDesk" 84 nShow_setLift.1 ∈ gT := gT_of (i := 325) (by decide +kernel) (by decide +kernel)
theorem wm_Desk_88 : Cond.methodLink "SwingDesk" 88 nShow_isIn.1 ∈ gT := gT_of (i := 326) (by decide +kernel) (by decide +kernel)
theorem wm_Law_28 : Cond.methodLink "SwingDeskLaw" 28 nDesk_lay.1 ∈ gT := gT_of (i := 331) (by decide +kernel) (by decide +kernel)
theorem wm_Desk_93 : Cond.methodLink "SwingDesk" 93 nDesk_sheetOf.1 ∈ gT := gT_of (i := 335) (by decide +kernel) (by decide +kernel)
theorem wm_Desk_97 : Cond.methodLink "SwingDesk" 97 nSheet_isMissing.1 ∈ gT := gT_of (i := 339) (by decide +kernel) (by decide +kernel)
theorem wm_Desk_102 : Cond.methodLink "SwingDesk" 102 nSheet_length.1 ∈ gT := gT_of (i := 344) (by decide +kernel) (by decide +kernel)
theorem wm_Desk_107 : Cond.methodLink "SwingDesk" 107 nSheet_valueAt.1 ∈ gT := gT_of (i := 349) (by decide +kernel) (by decide +kernel)
theorem wm_Sheet_29 : Cond.methodLink "SwingDesk$Sheet" 29 nSheet_hasRun.1 ∈ gT := gT_of (i := 353) (by decide +kernel) (by decide +kernel)
theorem wm_Law_32 : Cond.methodLink "SwingDeskLaw" 32 nDesk_told.1 ∈ gT := gT_of (i := 358) (by decide +kernel) (by decide +kernel)
theorem wm_Desk_110 : Cond.methodLink "SwingDesk" 110 nShow_mustAt.1 ∈ gT := gT_of (i := 362) (by decide +kernel) (by decide +kernel)
theorem wm_Desk_113 : Cond.methodLink "SwingDesk" 113 nShow_liftPartner.1 ∈ gT := gT_of (i := 366) (by decide +kernel) (by decide +kernel)
theorem wm_Show_54 : Cond.methodLink "SwingDesk$Show" 54 nShow_liftedIn.1 ∈ gT := gT_of (i := 370) (by decide +kernel) (by decide +kernel)
theorem wm_Law_36 : Cond.methodLink "SwingDeskLaw" 36 nDesk_person.1 ∈ gT := gT_of (i := 374) (by decide +kernel) (by decide +kernel)
theorem wm_Desk_116 : Cond.methodLink "SwingDesk" 116 nDesk_isKind.1 ∈ gT := gT_of (i := 378) (by decide +kernel) (by decide +kernel)
theorem wm_Desk_119 : Cond.methodLink "SwingDesk" 119 nCompany_addPerson.1 ∈ gT := gT_of (i := 381) (by decide +kernel) (by decide +kernel)
theorem wm_Law_41 : Cond.methodLink "SwingDeskLaw" 41 nDesk_isOf.1 ∈ gT := gT_of (i := 386) (by decide +kernel) (by decide +kernel)
theorem wm_Desk_122 : Cond.methodLink "SwingDesk" 122 nCompany_isPerson.1 ∈ gT := gT_of (i := 390) (by decide +kernel) (by decide +kernel)
theorem wm_Desk_125 : Cond.methodLink "SwingDesk" 125 nCompany_isOfKind.1 ∈ gT := gT_of (i := 394) (by decide +kernel) (by decide +kernel)
theorem wm_Company_48 : Cond.methodLink "SwingDesk$Company" 48 nCompany_isPerson.1 ∈ gT := gT_of (i := 398) (by decide +kernel) (by decide +kernel)
theorem wm_Law_45 : Cond.methodLink "SwingDeskLaw" 45 nDesk_own.1 ∈ gT := gT_of (i := 399) (by decide +kernel) (by decide +kernel)
theorem wm_Desk_128 : Cond.methodLink "SwingDesk" 128 nCompany_ownerOf.1 ∈ gT := gT_of (i := 403) (by decide +kernel) (by decide +kernel)
theorem wm_Company_58 : Cond.methodLink "SwingDesk$Company" 58 nCompany_owns.1 ∈ gT := gT_of (i := 407) (by decide +kernel) (by decide +kernel)
theorem wm_Desk_131 : Cond.methodLink "SwingDesk" 131 nCompany_ownedBy.1 ∈ gT := gT_of (i := 411) (by decide +kernel) (by decide +kernel)
theorem wm_Desk_134 : Cond.methodLink "SwingDesk" 134 nCompany_setOwned.1 ∈ gT := gT_of (i := 415) (by decide +kernel) (by decide +kernel)
theorem wm_Law_49 : Cond.methodLink "SwingDeskLaw" 49 nDesk_did.1 ∈ gT := gT_of (i := 419) (by decide +kernel) (by decide +kernel)
theorem wm_Desk_138 : Cond.methodLink "SwingDesk" 138 nCompany_daysSinceDid.1 ∈ gT := gT_of (i := 423) (by decide +kernel) (by decide +kernel)
theorem wm_Company_66 : Cond.methodLink "SwingDesk$Company" 66 nCompany_sinceDay.1 ∈ gT := gT_of (i := 428) (by decide +kernel) (by decide +kernel)
theorem wm_Desk_141 : Cond.methodLink "SwingDesk" 141 nCompany_setDidToday.1 ∈ gT := gT_of (i := 432) (by decide +kernel) (by decide +kernel)
theorem wm_Law_53 : Cond.methodLink "SwingDeskLaw" 53 nDesk_fresh.1 ∈ gT := gT_of (i := 436) (by decide +kernel) (by decide +kernel)
theorem wm_Desk_144 : Cond.methodLink "SwingDesk" 144 nCompany_knows.1 ∈ gT := gT_of (i := 440) (by decide +kernel) (by decide +kernel)
theorem wm_Company_69 : Cond.methodLink "SwingDesk$Company" 69 nCompany_daysSinceDid.1 ∈ gT := gT_of (i := 444) (by decide +kernel) (by decide +kernel)
theorem wm_Desk_147 : Cond.methodLink "SwingDesk" 147 nCompany_isFresh.1 ∈ gT := gT_of (i := 445) (by decide +kernel) (by decide +kernel)
theorem wm_Company_73 : Cond.methodLink "SwingDesk$Company" 73 nCompany_isOfKind.1 ∈ gT := gT_of (i := 449) (by decide +kernel) (by decide +kernel)
theorem wm_Law_57 : Cond.methodLink "SwingDeskLaw" 57 nDesk_rehearse.1 ∈ gT := gT_of (i := 450) (by decide +kernel) (by decide +kernel)
theorem wm_Desk_150 : Cond.methodLink "SwingDesk" 150 nCompany_areTwo.1 ∈ gT := gT_of (i := 454) (by decide +kernel) (by decide +kernel)
theorem wm_Desk_153 : Cond.methodLink "SwingDesk" 153 nCompany_daysSinceRehearsed.1 ∈ gT := gT_of (i := 458) (by decide +kernel) (by decide +kernel)
theorem wm_Desk_156 : Cond.methodLink "SwingDesk" 156 nCompany_setRehearsedToday.1 ∈ gT := gT_of (i := 462) (by decide +kernel) (by decide +kernel)
theorem wm_Company_82 : Cond.methodLink "SwingDesk$Company" 82 nCompany_areTwo.1 ∈ gT := gT_of (i := 466) (by decide +kernel) (by decide +kernel)
theorem wm_Law_61 : Cond.methodLink "SwingDeskLaw" 61 nDesk_feud.1 ∈ gT := gT_of (i := 467) (by decide +kernel) (by decide +kernel)
theorem wm_Desk_159 : Cond.methodLink "SwingDesk" 159 nCompany_areFoes.1 ∈ gT := gT_of (i := 471) (by decide +kernel) (by decide +kernel)
theorem wm_Company_88 : Cond.methodLink "SwingDesk$Company" 88 nCompany_foesOf.1 ∈ gT := gT_of (i := 475) (by decide +kernel) (by decide +kernel)
theorem wm_Desk_162 : Cond.methodLink "SwingDesk" 162 nCompany_setFoes.1 ∈ gT := gT_of (i := 479) (by decide +kernel) (by decide +kernel)
theorem wm_Law_65 : Cond.methodLink "SwingDeskLaw" 65 nDesk_days.1 ∈ gT := gT_of (i := 483) (by decide +kernel) (by decide +kernel)
theorem wm_Desk_166 : Cond.methodLink "SwingDesk" 166 nCompany_today.1 ∈ gT := gT_of (i := 487) (by decide +kernel) (by decide +kernel)
theorem wm_Desk_169 : Cond.methodLink "SwingDesk" 169 nCompany_passDays.1 ∈ gT := gT_of (i := 491) (by decide +kernel) (by decide +kernel)
theorem wm_Desk_173 : Cond.methodLink "SwingDesk" 173 nNight_clear.1 ∈ gT := gT_of (i := 495) (by decide +kernel) (by decide +kernel)
theorem wm_Law_69 : Cond.methodLink "SwingDeskLaw" 69 nDesk_out.1 ∈ gT := gT_of (i := 499) (by decide +kernel) (by decide +kernel)
theorem wm_Desk_176 : Cond.methodLink "SwingDesk" 176 nCompany_outFrom.1 ∈ gT := gT_of (i := 503) (by decide +kernel) (by decide +kernel)
theorem wm_Desk_179 : Cond.methodLink "SwingDesk" 179 nCompany_setOutFrom.1 ∈ gT := gT_of (i := 507) (by decide +kernel) (by decide +kernel)
theorem wm_Law_73 : Cond.methodLink "SwingDeskLaw" 73 nDesk_cast.1 ∈ gT := gT_of (i := 511) (by decide +kernel) (by decide +kernel)
theorem wm_Desk_182 : Cond.methodLink "SwingDesk" 182 nCastSearch_leastLoss.1 ∈ gT := gT_of (i := 515) (by decide +kernel) (by decide +kernel)
theorem wm_CastSearch_47 : Cond.methodLink "SwingDesk$CastSearch" 47 nShow_tracks.1 ∈ gT := gT_of (i := 519) (by decide +kernel) (by decide +kernel)
theorem wm_CastSearch_53 : Cond.methodLink "SwingDesk$CastSearch" 53 nCastSearch_readPeople.1 ∈ gT := gT_of (i := 523) (by decide +kernel) (by decide +kernel)
theorem wm_CastSearch_95 : Cond.methodLink "SwingDesk$CastSearch" 95 nShow_lastCue.1 ∈ gT := gT_of (i := 527) (by decide +kernel) (by decide +kernel)
theorem wm_Show_60 : Cond.methodLink "SwingDesk$Show" 60 nShow_isIn.1 ∈ gT := gT_of (i := 531) (by decide +kernel) (by decide +kernel)
theorem wm_CastSearch_98 : Cond.methodLink "SwingDesk$CastSearch" 98 nCompany_ownerOf.1 ∈ gT := gT_of (i := 532) (by decide +kernel) (by decide +kernel)
theorem wm_CastSearch_103 : Cond.methodLink "SwingDesk$CastSearch" 103 nCompany_people.1 ∈ gT := gT_of (i := 533) (by decide +kernel) (by decide +kernel)
theorem wm_CastSearch_106 : Cond.methodLink "SwingDesk$CastSearch" 106 nCompany_outFrom.1 ∈ gT := gT_of (i := 537) (by decide +kernel) (by decide +kernel)
theorem wm_CastSearch_109 : Cond.methodLink "SwingDesk$CastSearch" 109 nShow_dressOf.1 ∈ gT := gT_of (i := 538) (by decide +kernel) (by decide +kernel)
theorem wm_CastSearch_112 : Cond.methodLink "SwingDesk$CastSearch" 112 nCompany_canPlay.1 ∈ gT := gT_of (i := 542) (by decide +kernel) (by decide +kernel)
theorem wm_Company_76 : Cond.methodLink "SwingDesk$Company" 76 nCompany_knows.1 ∈ gT := gT_of (i := 546) (by decide +kernel) (by decide +kernel)
theorem wm_Company_79 : Cond.methodLink "SwingDesk$Company" 79 nCompany_fitsDress.1 ∈ gT := gT_of (i := 547) (by decide +kernel) (by decide +kernel)
theorem wm_Company_52 : Cond.methodLink "SwingDesk$Company" 52 nMath_abs.1 ∈ gT := gT_of (i := 551) (by decide +kernel) (by decide +kernel)
theorem wm_CastSearch_116 : Cond.methodLink "SwingDesk$CastSearch" 116 nCastSearch_coverLoss.1 ∈ gT := gT_of (i := 554) (by decide +kernel) (by decide +kernel)
theorem wm_CastSearch_120 : Cond.methodLink "SwingDesk$CastSearch" 120 nCompany_isFresh.1 ∈ gT := gT_of (i := 558) (by decide +kernel) (by decide +kernel)
theorem wm_CastSearch_124 : Cond.methodLink "SwingDesk$CastSearch" 124 nCompany_isOfKind.1 ∈ gT := gT_of (i := 560) (by decide +kernel) (by decide +kernel)
theorem wm_CastSearch_57 : Cond.methodLink "SwingDesk$CastSearch" 57 nCastSearch_readEarlierTracks.1 ∈ gT := gT_of (i := 561) (by decide +kernel) (by decide +kernel)
theorem wm_CastSearch_127 : Cond.methodLink "SwingDesk$CastSearch" 127 nShow_canBeOnePersons.1 ∈ gT := gT_of (i := 565) (by decide +kernel) (by decide +kernel)
theorem wm_Show_68 : Cond.methodLink "SwingDesk$Show" 68 nShow_isFarStep.1 ∈ gT := gT_of (i := 569) (by decide +kernel) (by decide +kernel)
theorem wm_Show_72 : Cond.methodLink "SwingDesk$Show" 72 nShow_placeAt.1 ∈ gT := gT_of (i := 573) (by decide +kernel) (by decide +kernel)
theorem wm_Show_75 : Cond.methodLink "SwingDesk$Show" 75 nMath_abs.1 ∈ gT := gT_of (i := 574) (by decide +kernel) (by decide +kernel)
theorem wm_CastSearch_130 : Cond.methodLink "SwingDesk$CastSearch" 130 nShow_canBeFoes.1 ∈ gT := gT_of (i := 575) (by decide +kernel) (by decide +kernel)
theorem wm_CastSearch_60 : Cond.methodLink "SwingDesk$CastSearch" 60 nShow_countMusts.1 ∈ gT := gT_of (i := 579) (by decide +kernel) (by decide +kernel)
theorem wm_Show_64 : Cond.methodLink "SwingDesk$Show" 64 nShow_mustAt.1 ∈ gT := gT_of (i := 583) (by decide +kernel) (by decide +kernel)
theorem wm_CastSearch_64 : Cond.methodLink "SwingDesk$CastSearch" 64 nCastSearch_readLifts.1 ∈ gT := gT_of (i := 584) (by decide +kernel) (by decide +kernel)
theorem wm_CastSearch_67 : Cond.methodLink "SwingDesk$CastSearch" 67 nArrays_fillI.1 ∈ gT := gT_of (i := 588) (by decide +kernel) (by decide +kernel)
theorem wm_CastSearch_133 : Cond.methodLink "SwingDesk$CastSearch" 133 nShow_lifterIn.1 ∈ gT := gT_of (i := 589) (by decide +kernel) (by decide +kernel)
theorem wm_CastSearch_136 : Cond.methodLink "SwingDesk$CastSearch" 136 nShow_liftedIn.1 ∈ gT := gT_of (i := 590) (by decide +kernel) (by decide +kernel)
theorem wm_CastSearch_90 : Cond.methodLink "SwingDesk$CastSearch" 90 nShow_isTrack.1 ∈ gT := gT_of (i := 591) (by decide +kernel) (by decide +kernel)
theorem wm_CastSearch_85 : Cond.methodLink "SwingDesk$CastSearch" 85 nCastSearch_seek.1 ∈ gT := gT_of (i := 593) (by decide +kernel) (by decide +kernel)
theorem wm_CastSearch_139 : Cond.methodLink "SwingDesk$CastSearch" 139 nCastSearch_keepIfLess.1 ∈ gT := gT_of (i := 597) (by decide +kernel) (by decide +kernel)
theorem wm_CastSearch_152 : Cond.methodLink "SwingDesk$CastSearch" 152 arraycopyName ∈ gT := gT_of (i := 601) (by decide +kernel) (by decide +kernel)
theorem wm_CastSearch_142 : Cond.methodLink "SwingDesk$CastSearch" 142 nCastSearch_barred.1 ∈ gT := gT_of (i := 604) (by decide +kernel) (by decide +kernel)
theorem wm_CastSearch_158 : Cond.methodLink "SwingDesk$CastSearch" 158 nCompany_foesOf.1 ∈ gT := gT_of (i := 608) (by decide +kernel) (by decide +kernel)
theorem wm_CastSearch_145 : Cond.methodLink "SwingDesk$CastSearch" 145 nCastSearch_tryPerson.1 ∈ gT := gT_of (i := 609) (by decide +kernel) (by decide +kernel)
theorem wm_CastSearch_149 : Cond.methodLink "SwingDesk$CastSearch" 149 nCastSearch_liftLoss.1 ∈ gT := gT_of (i := 613) (by decide +kernel) (by decide +kernel)
theorem wm_CastSearch_161 : Cond.methodLink "SwingDesk$CastSearch" 161 nCompany_doLift.1 ∈ gT := gT_of (i := 617) (by decide +kernel) (by decide +kernel)
theorem wm_Company_85 : Cond.methodLink "SwingDesk$Company" 85 nCompany_isFreshPair.1 ∈ gT := gT_of (i := 621) (by decide +kernel) (by decide +kernel)
theorem wm_Desk_186 : Cond.methodLink "SwingDesk" 186 nNight_begin.1 ∈ gT := gT_of (i := 627) (by decide +kernel) (by decide +kernel)
theorem wm_Night_37 : Cond.methodLink "SwingDesk$Night" 37 nNight_clear.1 ∈ gT := gT_of (i := 631) (by decide +kernel) (by decide +kernel)
theorem wm_Night_40 : Cond.methodLink "SwingDesk$Night" 40 nShow_tracks.1 ∈ gT := gT_of (i := 632) (by decide +kernel) (by decide +kernel)
theorem wm_Night_46 : Cond.methodLink "SwingDesk$Night" 46 nCastSearch_bestAt.1 ∈ gT := gT_of (i := 633) (by decide +kernel) (by decide +kernel)
theorem wm_Night_52 : Cond.methodLink "SwingDesk$Night" 52 nNight_holdFrom.1 ∈ gT := gT_of (i := 637) (by decide +kernel) (by decide +kernel)
theorem wm_Night_56 : Cond.methodLink "SwingDesk$Night" 56 nShow_isTrack.1 ∈ gT := gT_of (i := 641) (by decide +kernel) (by decide +kernel)
theorem wm_Law_77 : Cond.methodLink "SwingDeskLaw" 77 nDesk_has.1 ∈ gT := gT_of (i := 643) (by decide +kernel) (by decide +kernel)
theorem wm_Desk_190 : Cond.methodLink "SwingDesk" 190 nNight_castAt.1 ∈ gT := gT_of (i := 647) (by decide +kernel) (by decide +kernel)
theorem wm_Law_81 : Cond.methodLink "SwingDeskLaw" 81 nDesk_who.1 ∈ gT := gT_of (i := 651) (by decide +kernel) (by decide +kernel)
theorem wm_Desk_193 : Cond.methodLink "SwingDesk" 193 nNight_hasCast.1 ∈ gT := gT_of (i := 655) (by decide +kernel) (by decide +kernel)
theorem wm_Desk_196 : Cond.methodLink "SwingDesk" 196 nNight_holdersIn.1 ∈ gT := gT_of (i := 659) (by decide +kernel) (by decide +kernel)
theorem wm_Night_63 : Cond.methodLink "SwingDesk$Night" 63 nNight_holderAt.1 ∈ gT := gT_of (i := 663) (by decide +kernel) (by decide +kernel)
theorem wm_Night_67 : Cond.methodLink "SwingDesk$Night" 67 nShow_isIn.1 ∈ gT := gT_of (i := 667) (by decide +kernel) (by decide +kernel)
theorem wm_Law_85 : Cond.methodLink "SwingDeskLaw" 85 nDesk_done.1 ∈ gT := gT_of (i := 668) (by decide +kernel) (by decide +kernel)
theorem wm_Desk_199 : Cond.methodLink "SwingDesk" 199 nNight_isLiftDone.1 ∈ gT := gT_of (i := 672) (by decide +kernel) (by decide +kernel)
theorem wm_Night_71 : Cond.methodLink "SwingDesk$Night" 71 nShow_lifterIn.1 ∈ gT := gT_of (i := 676) (by decide +kernel) (by decide +kernel)
theorem wm_Night_74 : Cond.methodLink "SwingDesk$Night" 74 nShow_liftedIn.1 ∈ gT := gT_of (i := 677) (by decide +kernel) (by decide +kernel)
theorem wm_Night_77 : Cond.methodLink "SwingDesk$Night" 77 nNight_castAt.1 ∈ gT := gT_of (i := 678) (by decide +kernel) (by decide +kernel)
theorem wm_Night_80 : Cond.methodLink "SwingDesk$Night" 80 nCompany_doLift.1 ∈ gT := gT_of (i := 679) (by decide +kernel) (by decide +kernel)
theorem wm_Law_89 : Cond.methodLink "SwingDeskLaw" 89 nDesk_hurt.1 ∈ gT := gT_of (i := 680) (by decide +kernel) (by decide +kernel)
theorem wm_Desk_202 : Cond.methodLink "SwingDesk" 202 nNight_replace.1 ∈ gT := gT_of (i := 684) (by decide +kernel) (by decide +kernel)
theorem wm_Night_86 : Cond.methodLink "SwingDesk$Night" 86 nNight_firstHeld.1 ∈ gT := gT_of (i := 688) (by decide +kernel) (by decide +kernel)
theorem wm_Night_90 : Cond.methodLink "SwingDesk$Night" 90 nNight_handOn.1 ∈ gT := gT_of (i := 692) (by decide +kernel) (by decide +kernel)
theorem wm_Night_93 : Cond.methodLink "SwingDesk$Night" 93 nShow_lastCue.1 ∈ gT := gT_of (i := 696) (by decide +kernel) (by decide +kernel)
theorem wm_Night_96 : Cond.methodLink "SwingDesk$Night" 96 nNight_busyFrom.1 ∈ gT := gT_of (i := 697) (by decide +kernel) (by decide +kernel)
theorem wm_Night_112 : Cond.methodLink "SwingDesk$Night" 112 nNight_holdersIn.1 ∈ gT := gT_of (i := 701) (by decide +kernel) (by decide +kernel)
theorem wm_Night_99 : Cond.methodLink "SwingDesk$Night" 99 nCompany_people.1 ∈ gT := gT_of (i := 702) (by decide +kernel) (by decide +kernel)
theorem wm_Night_102 : Cond.methodLink "SwingDesk$Night" 102 nCompany_isOut.1 ∈ gT := gT_of (i := 703) (by decide +kernel) (by decide +kernel)
theorem wm_Company_91 : Cond.methodLink "SwingDesk$Company" 91 nCompany_outFrom.1 ∈ gT := gT_of (i := 707) (by decide +kernel) (by decide +kernel)
theorem wm_Night_105 : Cond.methodLink "SwingDesk$Night" 105 nShow_dressOf.1 ∈ gT := gT_of (i := 708) (by decide +kernel) (by decide +kernel)
theorem wm_Night_108 : Cond.methodLink "SwingDesk$Night" 108 nCompany_canPlay.1 ∈ gT := gT_of (i := 709) (by decide +kernel) (by decide +kernel)
theorem wm_Law_93 : Cond.methodLink "SwingDeskLaw" 93 nDesk_at.1 ∈ gT := gT_of (i := 710) (by decide +kernel) (by decide +kernel)
theorem wm_Desk_205 : Cond.methodLink "SwingDesk" 205 nNight_holderAt.1 ∈ gT := gT_of (i := 714) (by decide +kernel) (by decide +kernel)
theorem wm_Law_97 : Cond.methodLink "SwingDeskLaw" 97 nDesk_plan.1 ∈ gT := gT_of (i := 715) (by decide +kernel) (by decide +kernel)
theorem wm_Desk_208 : Cond.methodLink "SwingDesk" 208 nPutIns_find.1 ∈ gT := gT_of (i := 719) (by decide +kernel) (by decide +kernel)
theorem wm_PutIns_37 : Cond.methodLink "SwingDesk$PutIns" 37 nPutIns_readNeeds.1 ∈ gT := gT_of (i := 723) (by decide +kernel) (by decide +kernel)
theorem wm_PutIns_74 : Cond.methodLink "SwingDesk$PutIns" 74 nShow_tracks.1 ∈ gT := gT_of (i := 727) (by decide +kernel) (by decide +kernel)
theorem wm_PutIns_79 : Cond.methodLink "SwingDesk$PutIns" 79 nPutIns_countFresh.1 ∈ gT := gT_of (i := 728) (by decide +kernel) (by decide +kernel)
theorem wm_PutIns_51 : Cond.methodLink "SwingDesk$PutIns" 51 nCompany_people.1 ∈ gT := gT_of (i := 732) (by decide +kernel) (by decide +kernel)
theorem wm_PutIns_92 : Cond.methodLink "SwingDesk$PutIns" 92 nCompany_isFresh.1 ∈ gT := gT_of (i := 733) (by decide +kernel) (by decide +kernel)
theorem wm_PutIns_83 : Cond.methodLink "SwingDesk$PutIns" 83 nMath_max.1 ∈ gT := gT_of (i := 734) (by decide +kernel) (by decide +kernel)
theorem wm_PutIns_89 : Cond.methodLink "SwingDesk$PutIns" 89 nShow_countCues.1 ∈ gT := gT_of (i := 737) (by decide +kernel) (by decide +kernel)
theorem wm_PutIns_43 : Cond.methodLink "SwingDesk$PutIns" 43 nArrays_fillJ.1 ∈ gT := gT_of (i := 742) (by decide +kernel) (by decide +kernel)
theorem wm_PutIns_57 : Cond.methodLink "SwingDesk$PutIns" 57 nPutIns_addPerson.1 ∈ gT := gT_of (i := 746) (by decide +kernel) (by decide +kernel)
theorem wm_PutIns_96 : Cond.methodLink "SwingDesk$PutIns" 96 nPutIns_staleTracks.1 ∈ gT := gT_of (i := 750) (by decide +kernel) (by decide +kernel)
theorem wm_PutIns_103 : Cond.methodLink "SwingDesk$PutIns" 103 nCompany_knows.1 ∈ gT := gT_of (i := 754) (by decide +kernel) (by decide +kernel)
theorem wm_PutIns_99 : Cond.methodLink "SwingDesk$PutIns" 99 nPutIns_leastWith.1 ∈ gT := gT_of (i := 755) (by decide +kernel) (by decide +kernel)
theorem wm_PutIns_108 : Cond.methodLink "SwingDesk$PutIns" 108 nPutIns_plus.1 ∈ gT := gT_of (i := 760) (by decide +kernel) (by decide +kernel)
theorem wm_PutIns_112 : Cond.methodLink "SwingDesk$PutIns" 112 nPutIns_hasPutIn.1 ∈ gT := gT_of (i := 763) (by decide +kernel) (by decide +kernel)
theorem wm_PutIns_115 : Cond.methodLink "SwingDesk$PutIns" 115 nMath_min.1 ∈ gT := gT_of (i := 768) (by decide +kernel) (by decide +kernel)
theorem wm_PutIns_63 : Cond.methodLink "SwingDesk$PutIns" 63 nPutIns_leastWorth.1 ∈ gT := gT_of (i := 772) (by decide +kernel) (by decide +kernel)
theorem wm_Desk_211 : Cond.methodLink "SwingDesk" 211 nPutIns_hours.1 ∈ gT := gT_of (i := 777) (by decide +kernel) (by decide +kernel)
theorem wm_Law_102 : Cond.methodLink "SwingDeskLaw" 102 nDesk_putIn.1 ∈ gT := gT_of (i := 781) (by decide +kernel) (by decide +kernel)
theorem wm_Desk_214 : Cond.methodLink "SwingDesk" 214 nPutIns_trackOf.1 ∈ gT := gT_of (i := 785) (by decide +kernel) (by decide +kernel)
theorem wm_Law_106 : Cond.methodLink "SwingDeskLaw" 106 nDesk_sheet.1 ∈ gT := gT_of (i := 790) (by decide +kernel) (by decide +kernel)
theorem wm_Desk_218 : Cond.methodLink "SwingDesk" 218 nSheet_begin.1 ∈ gT := gT_of (i := 795) (by decide +kernel) (by decide +kernel)
theorem wm_Sheet_23 : Cond.methodLink "SwingDesk$Sheet" 23 nArrays_fillB.1 ∈ gT := gT_of (i := 799) (by decide +kernel) (by decide +kernel)
theorem wm_Law_110 : Cond.methodLink "SwingDeskLaw" 110 nDesk_mark.1 ∈ gT := gT_of (i := 802) (by decide +kernel) (by decide +kernel)
theorem wm_Desk_220 : Cond.methodLink "SwingDesk" 220 nSheet_hasRun.1 ∈ gT := gT_of (i := 806) (by decide +kernel) (by decide +kernel)
theorem wm_Desk_223 : Cond.methodLink "SwingDesk" 223 nSheet_setValue.1 ∈ gT := gT_of (i := 807) (by decide +kernel) (by decide +kernel)
theorem wm_Law_114 : Cond.methodLink "SwingDeskLaw" 114 nDesk_copy.1 ∈ gT := gT_of (i := 811) (by decide +kernel) (by decide +kernel)
theorem wm_Desk_227 : Cond.methodLink "SwingDesk" 227 nSheet_take.1 ∈ gT := gT_of (i := 815) (by decide +kernel) (by decide +kernel)
theorem wm_Sheet_33 : Cond.methodLink "SwingDesk$Sheet" 33 arraycopyName ∈ gT := gT_of (i := 819) (by decide +kernel) (by decide +kernel)
theorem wm_Law_119 : Cond.methodLink "SwingDeskLaw" 119 nDesk_count.1 ∈ gT := gT_of (i := 820) (by decide +kernel) (by decide +kernel)
theorem wm_Desk_231 : Cond.methodLink "SwingDesk" 231 nShow_tracks.1 ∈ gT := gT_of (i := 824) (by decide +kernel) (by decide +kernel)
theorem wm_Desk_234 : Cond.methodLink "SwingDesk" 234 nCompany_people.1 ∈ gT := gT_of (i := 825) (by decide +kernel) (by decide +kernel)
theorem wm_Desk_237 : Cond.methodLink "SwingDesk" 237 nShow_countLifts.1 ∈ gT := gT_of (i := 826) (by decide +kernel) (by decide +kernel)
theorem wm_Show_57 : Cond.methodLink "SwingDesk$Show" 57 nShow_hasLift.1 ∈ gT := gT_of (i := 830) (by decide +kernel) (by decide +kernel)
theorem wm_Desk_240 : Cond.methodLink "SwingDesk" 240 nCompany_countOut.1 ∈ gT := gT_of (i := 831) (by decide +kernel) (by decide +kernel)
theorem wm_Company_93 : Cond.methodLink "SwingDesk$Company" 93 nCompany_isOut.1 ∈ gT := gT_of (i := 835) (by decide +kernel) (by decide +kernel)
theorem wm_Desk_243 : Cond.methodLink "SwingDesk" 243 nCompany_countOwned.1 ∈ gT := gT_of (i := 836) (by decide +kernel) (by decide +kernel)
theorem wm_Company_96 : Cond.methodLink "SwingDesk$Company" 96 nCompany_ownedBy.1 ∈ gT := gT_of (i := 840) (by decide +kernel) (by decide +kernel)
theorem wm_Desk_246 : Cond.methodLink "SwingDesk" 246 nCompany_countFeuds.1 ∈ gT := gT_of (i := 841) (by decide +kernel) (by decide +kernel)
theorem wm_Company_99 : Cond.methodLink "SwingDesk$Company" 99 nInteger_bitCount.1 ∈ gT := gT_of (i := 845) (by decide +kernel) (by decide +kernel)
theorem wm_Desk_249 : Cond.methodLink "SwingDesk" 249 nCompany_countFreshPairs.1 ∈ gT := gT_of (i := 851) (by decide +kernel) (by decide +kernel)
theorem wm_Law_12 : Cond.methodLink "SwingDeskLaw" 12 nModel_init.1 ∈ gT := gT_of (i := 857) (by decide +kernel) (by decide +kernel)
theorem wm_Model_1 : Cond.methodLink "SwingDeskModel" 1 Lib.objectInit ∈ gT := gT_of (i := 860) (by decide +kernel) (by decide +kernel)
theorem wm_Law_17 : Cond.methodLink "SwingDeskLaw" 17 nModel_track.1 ∈ gT := gT_of (i := 947) (by decide +kernel) (by decide +kernel)
theorem wm_Model_78 : Cond.methodLink "SwingDeskModel" 78 nModel_isIn.1 ∈ gT := gT_of (i := 951) (by decide +kernel) (by decide +kernel)
theorem wm_Law_22 : Cond.methodLink "SwingDeskLaw" 22 nModel_in.1 ∈ gT := gT_of (i := 956) (by decide +kernel) (by decide +kernel)
theorem wm_Model_87 : Cond.methodLink "SwingDeskModel" 87 nModel_isTrack.1 ∈ gT := gT_of (i := 960) (by decide +kernel) (by decide +kernel)
theorem wm_Model_91 : Cond.methodLink "SwingDeskModel" 91 nModel_isCue.1 ∈ gT := gT_of (i := 964) (by decide +kernel) (by decide +kernel)
theorem wm_Model_95 : Cond.methodLink "SwingDeskModel" 95 nModel_put.1 ∈ gT := gT_of (i := 968) (by decide +kernel) (by decide +kernel)
theorem wm_Law_27 : Cond.methodLink "SwingDeskLaw" 27 nModel_lift.1 ∈ gT := gT_of (i := 972) (by decide +kernel) (by decide +kernel)
theorem wm_Model_99 : Cond.methodLink "SwingDeskModel" 99 nModel_is.1 ∈ gT := gT_of (i := 976) (by decide +kernel) (by decide +kernel)
theorem wm_Law_31 : Cond.methodLink "SwingDeskLaw" 31 nModel_lay.1 ∈ gT := gT_of (i := 981) (by decide +kernel) (by decide +kernel)
theorem wm_Model_104 : Cond.methodLink "SwingDeskModel" 104 nModel_isSheet.1 ∈ gT := gT_of (i := 985) (by decide +kernel) (by decide +kernel)
theorem wm_Law_35 : Cond.methodLink "SwingDeskLaw" 35 nModel_told.1 ∈ gT := gT_of (i := 990) (by decide +kernel) (by decide +kernel)
theorem wm_Law_40 : Cond.methodLink "SwingDeskLaw" 40 nModel_person.1 ∈ gT := gT_of (i := 994) (by decide +kernel) (by decide +kernel)
theorem wm_Law_44 : Cond.methodLink "SwingDeskLaw" 44 nModel_isOf.1 ∈ gT := gT_of (i := 998) (by decide +kernel) (by decide +kernel)
theorem wm_Model_109 : Cond.methodLink "SwingDeskModel" 109 nModel_isPerson.1 ∈ gT := gT_of (i := 1002) (by decide +kernel) (by decide +kernel)
theorem wm_Model_112 : Cond.methodLink "SwingDeskModel" 112 nModel_isSwing.1 ∈ gT := gT_of (i := 1006) (by decide +kernel) (by decide +kernel)
theorem wm_Law_48 : Cond.methodLink "SwingDeskLaw" 48 nModel_own.1 ∈ gT := gT_of (i := 1010) (by decide +kernel) (by decide +kernel)
theorem wm_Model_115 : Cond.methodLink "SwingDeskModel" 115 nModel_owner.1 ∈ gT := gT_of (i := 1014) (by decide +kernel) (by decide +kernel)
theorem wm_Law_52 : Cond.methodLink "SwingDeskLaw" 52 nModel_did.1 ∈ gT := gT_of (i := 1018) (by decide +kernel) (by decide +kernel)
theorem wm_Law_56 : Cond.methodLink "SwingDeskLaw" 56 nModel_fresh.1 ∈ gT := gT_of (i := 1022) (by decide +kernel) (by decide +kernel)
theorem wm_Model_122 : Cond.methodLink "SwingDeskModel" 122 nModel_knows.1 ∈ gT := gT_of (i := 1026) (by decide +kernel) (by decide +kernel)
theorem wm_Model_125 : Cond.methodLink "SwingDeskModel" 125 nModel_isFresh.1 ∈ gT := gT_of (i := 1030) (by decide +kernel) (by decide +kernel)
theorem wm_Law_60 : Cond.methodLink "SwingDeskLaw" 60 nModel_rehearse.1 ∈ gT := gT_of (i := 1034) (by decide +kernel) (by decide +kernel)
theorem wm_Law_64 : Cond.methodLink "SwingDeskLaw" 64 nModel_feud.1 ∈ gT := gT_of (i := 1038) (by decide +kernel) (by decide +kernel)
theorem wm_Law_68 : Cond.methodLink "SwingDeskLaw" 68 nModel_days.1 ∈ gT := gT_of (i := 1042) (by decide +kernel) (by decide +kernel)
theorem wm_Law_72 : Cond.methodLink "SwingDeskLaw" 72 nModel_out.1 ∈ gT := gT_of (i := 1046) (by decide +kernel) (by decide +kernel)
theorem wm_Law_76 : Cond.methodLink "SwingDeskLaw" 76 nModel_cast.1 ∈ gT := gT_of (i := 1050) (by decide +kernel) (by decide +kernel)
theorem wm_Model_177 : Cond.methodLink "SwingDeskModel" 177 nModel_tryFrom.1 ∈ gT := gT_of (i := 1054) (by decide +kernel) (by decide +kernel)
theorem wm_Model_161 : Cond.methodLink "SwingDeskModel" 161 nModel_loss.1 ∈ gT := gT_of (i := 1058) (by decide +kernel) (by decide +kernel)
theorem wm_Model_154 : Cond.methodLink "SwingDeskModel" 154 nModel_lossOf.1 ∈ gT := gT_of (i := 1062) (by decide +kernel) (by decide +kernel)
theorem wm_Model_157 : Cond.methodLink "SwingDeskModel" 157 nModel_isDone.1 ∈ gT := gT_of (i := 1066) (by decide +kernel) (by decide +kernel)
theorem wm_Model_151 : Cond.methodLink "SwingDeskModel" 151 nModel_isRehearsed.1 ∈ gT := gT_of (i := 1070) (by decide +kernel) (by decide +kernel)
theorem wm_Model_171 : Cond.methodLink "SwingDeskModel" 171 nModel_fits.1 ∈ gT := gT_of (i := 1074) (by decide +kernel) (by decide +kernel)
theorem wm_Model_139 : Cond.methodLink "SwingDeskModel" 139 nModel_canHave.1 ∈ gT := gT_of (i := 1078) (by decide +kernel) (by decide +kernel)
theorem wm_Model_132 : Cond.methodLink "SwingDeskModel" 132 nModel_far.1 ∈ gT := gT_of (i := 1082) (by decide +kernel) (by decide +kernel)
theorem wm_Model_142 : Cond.methodLink "SwingDeskModel" 142 nModel_isInFrom.1 ∈ gT := gT_of (i := 1085) (by decide +kernel) (by decide +kernel)
theorem wm_Model_145 : Cond.methodLink "SwingDeskModel" 145 nModel_meet.1 ∈ gT := gT_of (i := 1089) (by decide +kernel) (by decide +kernel)
theorem wm_Model_136 : Cond.methodLink "SwingDeskModel" 136 nModel_isFar.1 ∈ gT := gT_of (i := 1093) (by decide +kernel) (by decide +kernel)
theorem wm_Model_148 : Cond.methodLink "SwingDeskModel" 148 nModel_areBeside.1 ∈ gT := gT_of (i := 1097) (by decide +kernel) (by decide +kernel)
theorem wm_Law_80 : Cond.methodLink "SwingDeskLaw" 80 nModel_has.1 ∈ gT := gT_of (i := 1102) (by decide +kernel) (by decide +kernel)
theorem wm_Law_84 : Cond.methodLink "SwingDeskLaw" 84 nModel_who.1 ∈ gT := gT_of (i := 1106) (by decide +kernel) (by decide +kernel)
theorem wm_Law_88 : Cond.methodLink "SwingDeskLaw" 88 nModel_done.1 ∈ gT := gT_of (i := 1110) (by decide +kernel) (by decide +kernel)
theorem wm_Law_92 : Cond.methodLink "SwingDeskLaw" 92 nModel_hurt.1 ∈ gT := gT_of (i := 1114) (by decide +kernel) (by decide +kernel)
theorem wm_Model_185 : Cond.methodLink "SwingDeskModel" 185 nModel_takesOver.1 ∈ gT := gT_of (i := 1118) (by decide +kernel) (by decide +kernel)
theorem wm_Model_182 : Cond.methodLink "SwingDeskModel" 182 nModel_canTake.1 ∈ gT := gT_of (i := 1122) (by decide +kernel) (by decide +kernel)
theorem wm_Law_96 : Cond.methodLink "SwingDeskLaw" 96 nModel_at.1 ∈ gT := gT_of (i := 1126) (by decide +kernel) (by decide +kernel)
theorem wm_Law_101 : Cond.methodLink "SwingDeskLaw" 101 nModel_plan.1 ∈ gT := gT_of (i := 1130) (by decide +kernel) (by decide +kernel)
theorem wm_Model_197 : Cond.methodLink "SwingDeskModel" 197 nModel_findPlan.1 ∈ gT := gT_of (i := 1134) (by decide +kernel) (by decide +kernel)
theorem wm_Model_188 : Cond.methodLink "SwingDeskModel" 188 nModel_mayPut.1 ∈ gT := gT_of (i := 1138) (by decide +kernel) (by decide +kernel)
theorem wm_Model_191 : Cond.methodLink "SwingDeskModel" 191 nModel_behind.1 ∈ gT := gT_of (i := 1142) (by decide +kernel) (by decide +kernel)
theorem wm_Model_194 : Cond.methodLink "SwingDeskModel" 194 nModel_hours.1 ∈ gT := gT_of (i := 1146) (by decide +kernel) (by decide +kernel)
theorem wm_Law_105 : Cond.methodLink "SwingDeskLaw" 105 nModel_putIn.1 ∈ gT := gT_of (i := 1150) (by decide +kernel) (by decide +kernel)
theorem wm_Law_109 : Cond.methodLink "SwingDeskLaw" 109 nModel_sheet.1 ∈ gT := gT_of (i := 1154) (by decide +kernel) (by decide +kernel)
theorem wm_Law_113 : Cond.methodLink "SwingDeskLaw" 113 nModel_mark.1 ∈ gT := gT_of (i := 1159) (by decide +kernel) (by decide +kernel)
theorem wm_Law_118 : Cond.methodLink "SwingDeskLaw" 118 nModel_copy.1 ∈ gT := gT_of (i := 1163) (by decide +kernel) (by decide +kernel)
theorem wm_Law_122 : Cond.methodLink "SwingDeskLaw" 122 nModel_count.1 ∈ gT := gT_of (i := 1167) (by decide +kernel) (by decide +kernel)
theorem wm_Show_43 : Cond.methodLinkNest "SwingDesk$Show" 43 nDesk_isCue.1 "SwingDesk" ∈ gNest := by decide +kernel
theorem wm_Sheet_19 : Cond.methodLinkNest "SwingDesk$Sheet" 19 nDesk_isWithin.1 "SwingDesk" ∈ gNest := by decide +kernel
theorem wm_Company_62 : Cond.methodLinkNest "SwingDesk$Company" 62 nDesk_isWithin.1 "SwingDesk" ∈ gNest := by decide +kernel
theorem wm_Night_60 : Cond.methodLinkNest "SwingDesk$Night" 60 nDesk_isCue.1 "SwingDesk" ∈ gNest := by decide +kernel
theorem wm_PutIns_70 : Cond.methodLinkNest "SwingDesk$PutIns" 70 nDesk_isWithin.1 "SwingDesk" ∈ gNest := by decide +kernel
theorem wobj_i : Cond.instanceMethod Lib.objectInit ∈ gT := gT_of (i := 67) (by decide +kernel) (by decide +kernel)
theorem wobj_c : Cond.code Lib.objectInit ⟨#[0xb1]⟩ 1 none ∈ gT := gT_of (i := 68) (by decide +kernel) (by decide +kernel)
theorem wac_static : Cond.static arraycopyName ∈ gT := gT_of (i := 602) (by decide +kernel) (by decide +kernel)
theorem wac_native : Cond.native arraycopyName ∈ gT := gT_of (i := 603) (by decide +kernel) (by decide +kernel)
theorem wf_Show_9 : Cond.fieldLink "SwingDesk$Show" 9 (gF_Show 0).1 (gF_Show 0).2.1 (gF_Show 0).2.2.1 ∈ gT := gT_of (i := 79) (by decide +kernel) (by decide +kernel)
theorem wf_Show_15 : Cond.fieldLink "SwingDesk$Show" 15 (gF_Show 1).1 (gF_Show 1).2.1 (gF_Show 1).2.2.1 ∈ gT := gT_of (i := 80) (by decide +kernel) (by decide +kernel)
theorem wf_Show_19 : Cond.fieldLink "SwingDesk$Show" 19 (gF_Show 2).1 (gF_Show 2).2.1 (gF_Show 2).2.2.1 ∈ gT := gT_of (i := 81) (by decide +kernel) (by decide +kernel)
theorem wf_Show_22 : Cond.fieldLink "SwingDesk$Show" 22 (gF_Show 3).1 (gF_Show 3).2.1 (gF_Show 3).2.2.1 ∈ gT := gT_of (i := 82) (by decide +kernel) (by decide +kernel)
theorem wf_Show_25 : Cond.fieldLink "SwingDesk$Show" 25 (gF_Show 4).1 (gF_Show 4).2.1 (gF_Show 4).2.2.1 ∈ gT := gT_of (i := 83) (by decide +kernel) (by decide +kernel)
theorem wf_Show_28 : Cond.fieldLink "SwingDesk$Show" 28 (gF_Show 5).1 (gF_Show 5).2.1 (gF_Show 5).2.2.1 ∈ gT := gT_of (i := 84) (by decide +kernel) (by decide +kernel)
theorem wf_Company_9 : Cond.fieldLink "SwingDesk$Company" 9 (gF_Company 0).1 (gF_Company 0).2.1 (gF_Company 0).2.2.1 ∈ gT := gT_of (i := 107) (by decide +kernel) (by decide +kernel)
theorem wf_Company_15 : Cond.fieldLink "SwingDesk$Company" 15 (gF_Company 1).1 (gF_Company 1).2.1 (gF_Company 1).2.2.1 ∈ gT := gT_of (i := 108) (by decide +kernel) (by decide +kernel)
theorem wf_Company_18 : Cond.fieldLink "SwingDesk$Company" 18 (gF_Company 2).1 (gF_Company 2).2.1 (gF_Company 2).2.2.1 ∈ gT := gT_of (i := 109) (by decide +kernel) (by decide +kernel)
theorem wf_Company_22 : Cond.fieldLink "SwingDesk$Company" 22 (gF_Company 3).1 (gF_Company 3).2.1 (gF_Company 3).2.2.1 ∈ gT := gT_of (i := 110) (by decide +kernel) (by decide +kernel)
theorem wf_Company_25 : Cond.fieldLink "SwingDesk$Company" 25 (gF_Company 4).1 (gF_Company 4).2.1 (gF_Company 4).2.2.1 ∈ gT := gT_of (i := 111) (by decide +kernel) (by decide +kernel)
theorem wf_Company_28 : Cond.fieldLink "SwingDesk$Company" 28 (gF_Company 5).1 (gF_Company 5).2.1 (gF_Company 5).2.2.1 ∈ gT := gT_of (i := 112) (by decide +kernel) (by decide +kernel)
theorem wf_Company_31 : Cond.fieldLink "SwingDesk$Company" 31 (gF_Company 6).1 (gF_Company 6).2.1 (gF_Company 6).2.2.1 ∈ gT := gT_of (i := 113) (by decide +kernel) (by decide +kernel)
theorem wf_Company_34 : Cond.fieldLink "SwingDesk$Company" 34 (gF_Company 7).1 (gF_Company 7).2.1 (gF_Company 7).2.2.1 ∈ gT := gT_of (i := 114) (by decide +kernel) (by decide +kernel)
theorem wf_Company_37 : Cond.fieldLink "SwingDesk$Company" 37 (gF_Company 8).1 (gF_Company 8).2.1 (gF_Company 8).2.2.1 ∈ gT := gT_of (i := 115) (by decide +kernel) (by decide +kernel)
theorem wf_Night_9 : Cond.fieldLink "SwingDesk$Night" 9 (gF_Night 0).1 (gF_Night 0).2.1 (gF_Night 0).2.2.1 ∈ gT := gT_of (i := 143) (by decide +kernel) (by decide +kernel)
theorem wf_Night_15 : Cond.fieldLink "SwingDesk$Night" 15 (gF_Night 1).1 (gF_Night 1).2.1 (gF_Night 1).2.2.1 ∈ gT := gT_of (i := 144) (by decide +kernel) (by decide +kernel)
theorem wf_Night_19 : Cond.fieldLink "SwingDesk$Night" 19 (gF_Night 2).1 (gF_Night 2).2.1 (gF_Night 2).2.2.1 ∈ gT := gT_of (i := 145) (by decide +kernel) (by decide +kernel)
theorem wf_Night_23 : Cond.fieldLink "SwingDesk$Night" 23 (gF_Night 3).1 (gF_Night 3).2.1 (gF_Night 3).2.2.1 ∈ gT := gT_of (i := 146) (by decide +kernel) (by decide +kernel)
theorem wf_Night_27 : Cond.fieldLink "SwingDesk$Night" 27 (gF_Night 4).1 (gF_Night 4).2.1 (gF_Night 4).2.2.1 ∈ gT := gT_of (i := 147) (by decide +kernel) (by decide +kernel)
theorem wf_CastSearch_9 : Cond.fieldLink "SwingDesk$CastSearch" 9 (gF_CastSearch 0).1 (gF_CastSearch 0).2.1 (gF_CastSearch 0).2.2.1 ∈ gT := gT_of (i := 165) (by decide +kernel) (by decide +kernel)
theorem wf_CastSearch_15 : Cond.fieldLink "SwingDesk$CastSearch" 15 (gF_CastSearch 1).1 (gF_CastSearch 1).2.1 (gF_CastSearch 1).2.2.1 ∈ gT := gT_of (i := 166) (by decide +kernel) (by decide +kernel)
theorem wf_CastSearch_19 : Cond.fieldLink "SwingDesk$CastSearch" 19 (gF_CastSearch 2).1 (gF_CastSearch 2).2.1 (gF_CastSearch 2).2.2.1 ∈ gT := gT_of (i := 167) (by decide +kernel) (by decide +kernel)
theorem wf_CastSearch_23 : Cond.fieldLink "SwingDesk$CastSearch" 23 (gF_CastSearch 3).1 (gF_CastSearch 3).2.1 (gF_CastSearch 3).2.2.1 ∈ gT := gT_of (i := 168) (by decide +kernel) (by decide +kernel)
theorem wf_CastSearch_26 : Cond.fieldLink "SwingDesk$CastSearch" 26 (gF_CastSearch 4).1 (gF_CastSearch 4).2.1 (gF_CastSearch 4).2.2.1 ∈ gT := gT_of (i := 169) (by decide +kernel) (by decide +kernel)
theorem wf_CastSearch_29 : Cond.fieldLink "SwingDesk$CastSearch" 29 (gF_CastSearch 5).1 (gF_CastSearch 5).2.1 (gF_CastSearch 5).2.2.1 ∈ gT := gT_of (i := 170) (by decide +kernel) (by decide +kernel)
theorem wf_CastSearch_32 : Cond.fieldLink "SwingDesk$CastSearch" 32 (gF_CastSearch 6).1 (gF_CastSearch 6).2.1 (gF_CastSearch 6).2.2.1 ∈ gT := gT_of (i := 171) (by decide +kernel) (by decide +kernel)
theorem wf_CastSearch_35 : Cond.fieldLink "SwingDesk$CastSearch" 35 (gF_CastSearch 7).1 (gF_CastSearch 7).2.1 (gF_CastSearch 7).2.2.1 ∈ gT := gT_of (i := 172) (by decide +kernel) (by decide +kernel)
theorem wf_CastSearch_38 : Cond.fieldLink "SwingDesk$CastSearch" 38 (gF_CastSearch 8).1 (gF_CastSearch 8).2.1 (gF_CastSearch 8).2.2.1 ∈ gT := gT_of (i := 173) (by decide +kernel) (by decide +kernel)
theorem wf_CastSearch_41 : Cond.fieldLink "SwingDesk$CastSearch" 41 (gF_CastSearch 9).1 (gF_CastSearch 9).2.1 (gF_CastSearch 9).2.2.1 ∈ gT := gT_of (i := 174) (by decide +kernel) (by decide +kernel)
theorem wf_CastSearch_44 : Cond.fieldLink "SwingDesk$CastSearch" 44 (gF_CastSearch 10).1 (gF_CastSearch 10).2.1 (gF_CastSearch 10).2.2.1 ∈ gT := gT_of (i := 175) (by decide +kernel) (by decide +kernel)
theorem wf_CastSearch_74 : Cond.fieldLink "SwingDesk$CastSearch" 74 (gF_CastSearch 11).1 (gF_CastSearch 11).2.1 (gF_CastSearch 11).2.2.1 ∈ gT := gT_of (i := 176) (by decide +kernel) (by decide +kernel)
theorem wf_CastSearch_78 : Cond.fieldLink "SwingDesk$CastSearch" 78 (gF_CastSearch 12).1 (gF_CastSearch 12).2.1 (gF_CastSearch 12).2.2.1 ∈ gT := gT_of (i := 177) (by decide +kernel) (by decide +kernel)
theorem wf_CastSearch_81 : Cond.fieldLink "SwingDesk$CastSearch" 81 (gF_CastSearch 13).1 (gF_CastSearch 13).2.1 (gF_CastSearch 13).2.2.1 ∈ gT := gT_of (i := 178) (by decide +kernel) (by decide +kernel)
theorem wf_PutIns_11 : Cond.fieldLink "SwingDesk$PutIns" 11 (gF_PutIns 0).1 (gF_PutIns 0).2.1 (gF_PutIns 0).2.2.1 ∈ gT := gT_of (i := 214) (by decide +kernel) (by decide +kernel)
theorem wf_PutIns_15 : Cond.fieldLink "SwingDesk$PutIns" 15 (gF_PutIns 1).1 (gF_PutIns 1).2.1 (gF_PutIns 1).2.2.1 ∈ gT := gT_of (i := 215) (by decide +kernel) (by decide +kernel)
theorem wf_PutIns_19 : Cond.fieldLink "SwingDesk$PutIns" 19 (gF_PutIns 2).1 (gF_PutIns 2).2.1 (gF_PutIns 2).2.2.1 ∈ gT := gT_of (i := 216) (by decide +kernel) (by decide +kernel)
theorem wf_PutIns_23 : Cond.fieldLink "SwingDesk$PutIns" 23 (gF_PutIns 3).1 (gF_PutIns 3).2.1 (gF_PutIns 3).2.2.1 ∈ gT := gT_of (i := 217) (by decide +kernel) (by decide +kernel)
theorem wf_PutIns_26 : Cond.fieldLink "SwingDesk$PutIns" 26 (gF_PutIns 4).1 (gF_PutIns 4).2.1 (gF_PutIns 4).2.2.1 ∈ gT := gT_of (i := 218) (by decide +kernel) (by decide +kernel)
theorem wf_PutIns_29 : Cond.fieldLink "SwingDesk$PutIns" 29 (gF_PutIns 5).1 (gF_PutIns 5).2.1 (gF_PutIns 5).2.2.1 ∈ gT := gT_of (i := 219) (by decide +kernel) (by decide +kernel)
theorem wf_PutIns_33 : Cond.fieldLink "SwingDesk$PutIns" 33 (gF_PutIns 6).1 (gF_PutIns 6).2.1 (gF_PutIns 6).2.2.1 ∈ gT := gT_of (i := 220) (by decide +kernel) (by decide +kernel)
theorem wf_Sheet_11 : Cond.fieldLink "SwingDesk$Sheet" 11 (gF_Sheet 0).1 (gF_Sheet 0).2.1 (gF_Sheet 0).2.2.1 ∈ gT := gT_of (i := 244) (by decide +kernel) (by decide +kernel)
theorem wf_Sheet_15 : Cond.fieldLink "SwingDesk$Sheet" 15 (gF_Sheet 1).1 (gF_Sheet 1).2.1 (gF_Sheet 1).2.2.1 ∈ gT := gT_of (i := 245) (by decide +kernel) (by decide +kernel)
theorem wf_Desk_10 : Cond.fieldLink "SwingDesk" 10 (gF_SwingDesk 0).1 (gF_SwingDesk 0).2.1 (gF_SwingDesk 0).2.2.1 ∈ gT := gT_of (i := 252) (by decide +kernel) (by decide +kernel)
theorem wf_Desk_19 : Cond.fieldLink "SwingDesk" 19 (gF_SwingDesk 1).1 (gF_SwingDesk 1).2.1 (gF_SwingDesk 1).2.2.1 ∈ gT := gT_of (i := 253) (by decide +kernel) (by decide +kernel)
theorem wf_Desk_28 : Cond.fieldLink "SwingDesk" 28 (gF_SwingDesk 2).1 (gF_SwingDesk 2).2.1 (gF_SwingDesk 2).2.2.1 ∈ gT := gT_of (i := 254) (by decide +kernel) (by decide +kernel)
theorem wf_Desk_35 : Cond.fieldLink "SwingDesk" 35 (gF_SwingDesk 3).1 (gF_SwingDesk 3).2.1 (gF_SwingDesk 3).2.2.1 ∈ gT := gT_of (i := 255) (by decide +kernel) (by decide +kernel)
theorem wf_Desk_42 : Cond.fieldLink "SwingDesk" 42 (gF_SwingDesk 4).1 (gF_SwingDesk 4).2.1 (gF_SwingDesk 4).2.2.1 ∈ gT := gT_of (i := 256) (by decide +kernel) (by decide +kernel)
theorem wf_Desk_48 : Cond.fieldLink "SwingDesk" 48 (gF_SwingDesk 5).1 (gF_SwingDesk 5).2.1 (gF_SwingDesk 5).2.2.1 ∈ gT := gT_of (i := 257) (by decide +kernel) (by decide +kernel)
theorem wf_Model_74 : Cond.fieldLink "SwingDeskModel" 74 (gF_SwingDeskModel 0).1 (gF_SwingDeskModel 0).2.1 (gF_SwingDeskModel 0).2.2.1 ∈ gT := gT_of (i := 862) (by decide +kernel) (by decide +kernel)
theorem wf_Model_7 : Cond.fieldLink "SwingDeskModel" 7 (gF_SwingDeskModel 1).1 (gF_SwingDeskModel 1).2.1 (gF_SwingDeskModel 1).2.2.1 ∈ gT := gT_of (i := 863) (by decide +kernel) (by decide +kernel)
theorem wf_Model_13 : Cond.fieldLink "SwingDeskModel" 13 (gF_SwingDeskModel 2).1 (gF_SwingDeskModel 2).2.1 (gF_SwingDeskModel 2).2.2.1 ∈ gT := gT_of (i := 864) (by decide +kernel) (by decide +kernel)
theorem wf_Model_16 : Cond.fieldLink "SwingDeskModel" 16 (gF_SwingDeskModel 3).1 (gF_SwingDeskModel 3).2.1 (gF_SwingDeskModel 3).2.2.1 ∈ gT := gT_of (i := 865) (by decide +kernel) (by decide +kernel)
theorem wf_Model_19 : Cond.fieldLink "SwingDeskModel" 19 (gF_SwingDeskModel 4).1 (gF_SwingDeskModel 4).2.1 (gF_SwingDeskModel 4).2.2.1 ∈ gT := gT_of (i := 866) (by decide +kernel) (by decide +kernel)
theorem wf_Model_22 : Cond.fieldLink "SwingDeskModel" 22 (gF_SwingDeskModel 5).1 (gF_SwingDeskModel 5).2.1 (gF_SwingDeskModel 5).2.2.1 ∈ gT := gT_of (i := 867) (by decide +kernel) (by decide +kernel)
theorem wf_Model_82 : Cond.fieldLink "SwingDeskModel" 82 (gF_SwingDeskModel 6).1 (gF_SwingDeskModel 6).2.1 (gF_SwingDeskModel 6).2.2.1 ∈ gT := gT_of (i := 868) (by decide +kernel) (by decide +kernel)
theorem wf_Model_25 : Cond.fieldLink "SwingDeskModel" 25 (gF_SwingDeskModel 7).1 (gF_SwingDeskModel 7).2.1 (gF_SwingDeskModel 7).2.2.1 ∈ gT := gT_of (i := 869) (by decide +kernel) (by decide +kernel)
theorem wf_Model_28 : Cond.fieldLink "SwingDeskModel" 28 (gF_SwingDeskModel 8).1 (gF_SwingDeskModel 8).2.1 (gF_SwingDeskModel 8).2.2.1 ∈ gT := gT_of (i := 870) (by decide +kernel) (by decide +kernel)
theorem wf_Model_31 : Cond.fieldLink "SwingDeskModel" 31 (gF_SwingDeskModel 9).1 (gF_SwingDeskModel 9).2.1 (gF_SwingDeskModel 9).2.2.1 ∈ gT := gT_of (i := 871) (by decide +kernel) (by decide +kernel)
theorem wf_Model_34 : Cond.fieldLink "SwingDeskModel" 34 (gF_SwingDeskModel 10).1 (gF_SwingDeskModel 10).2.1 (gF_SwingDeskModel 10).2.2.1 ∈ gT := gT_of (i := 872) (by decide +kernel) (by decide +kernel)
theorem wf_Model_37 : Cond.fieldLink "SwingDeskModel" 37 (gF_SwingDeskModel 11).1 (gF_SwingDeskModel 11).2.1 (gF_SwingDeskModel 11).2.2.1 ∈ gT := gT_of (i := 873) (by decide +kernel) (by decide +kernel)
theorem wf_Model_40 : Cond.fieldLink "SwingDeskModel" 40 (gF_SwingDeskModel 12).1 (gF_SwingDeskModel 12).2.1 (gF_SwingDeskModel 12).2.2.1 ∈ gT := gT_of (i := 874) (by decide +kernel) (by decide +kernel)
theorem wf_Model_43 : Cond.fieldLink "SwingDeskModel" 43 (gF_SwingDeskModel 13).1 (gF_SwingDeskModel 13).2.1 (gF_SwingDeskModel 13).2.2.1 ∈ gT := gT_of (i := 875) (by decide +kernel) (by decide +kernel)
theorem wf_Model_119 : Cond.fieldLink "SwingDeskModel" 119 (gF_SwingDeskModel 14).1 (gF_SwingDeskModel 14).2.1 (gF_SwingDeskModel 14).2.2.1 ∈ gT := gT_of (i := 876) (by decide +kernel) (by decide +kernel)
theorem wf_Model_128 : Cond.fieldLink "SwingDeskModel" 128 (gF_SwingDeskModel 15).1 (gF_SwingDeskModel 15).2.1 (gF_SwingDeskModel 15).2.2.1 ∈ gT := gT_of (i := 877) (by decide +kernel) (by decide +kernel)
theorem wf_Model_46 : Cond.fieldLink "SwingDeskModel" 46 (gF_SwingDeskModel 16).1 (gF_SwingDeskModel 16).2.1 (gF_SwingDeskModel 16).2.2.1 ∈ gT := gT_of (i := 878) (by decide +kernel) (by decide +kernel)
theorem wf_Model_49 : Cond.fieldLink "SwingDeskModel" 49 (gF_SwingDeskModel 17).1 (gF_SwingDeskModel 17).2.1 (gF_SwingDeskModel 17).2.2.1 ∈ gT := gT_of (i := 879) (by decide +kernel) (by decide +kernel)
theorem wf_Model_52 : Cond.fieldLink "SwingDeskModel" 52 (gF_SwingDeskModel 18).1 (gF_SwingDeskModel 18).2.1 (gF_SwingDeskModel 18).2.2.1 ∈ gT := gT_of (i := 880) (by decide +kernel) (by decide +kernel)
theorem wf_Model_55 : Cond.fieldLink "SwingDeskModel" 55 (gF_SwingDeskModel 19).1 (gF_SwingDeskModel 19).2.1 (gF_SwingDeskModel 19).2.2.1 ∈ gT := gT_of (i := 881) (by decide +kernel) (by decide +kernel)
theorem wf_Model_58 : Cond.fieldLink "SwingDeskModel" 58 (gF_SwingDeskModel 20).1 (gF_SwingDeskModel 20).2.1 (gF_SwingDeskModel 20).2.2.1 ∈ gT := gT_of (i := 882) (by decide +kernel) (by decide +kernel)
theorem wf_Model_61 : Cond.fieldLink "SwingDeskModel" 61 (gF_SwingDeskModel 21).1 (gF_SwingDeskModel 21).2.1 (gF_SwingDeskModel 21).2.2.1 ∈ gT := gT_of (i := 883) (by decide +kernel) (by decide +kernel)
theorem wf_Model_165 : Cond.fieldLink "SwingDeskModel" 165 (gF_SwingDeskModel 22).1 (gF_SwingDeskModel 22).2.1 (gF_SwingDeskModel 22).2.2.1 ∈ gT := gT_of (i := 884) (by decide +kernel) (by decide +kernel)
theorem wf_Model_174 : Cond.fieldLink "SwingDeskModel" 174 (gF_SwingDeskModel 23).1 (gF_SwingDeskModel 23).2.1 (gF_SwingDeskModel 23).2.2.1 ∈ gT := gT_of (i := 885) (by decide +kernel) (by decide +kernel)
theorem wf_Model_168 : Cond.fieldLink "SwingDeskModel" 168 (gF_SwingDeskModel 24).1 (gF_SwingDeskModel 24).2.1 (gF_SwingDeskModel 24).2.2.1 ∈ gT := gT_of (i := 886) (by decide +kernel) (by decide +kernel)
theorem wf_Model_65 : Cond.fieldLink "SwingDeskModel" 65 (gF_SwingDeskModel 25).1 (gF_SwingDeskModel 25).2.1 (gF_SwingDeskModel 25).2.2.1 ∈ gT := gT_of (i := 887) (by decide +kernel) (by decide +kernel)
theorem wf_Model_68 : Cond.fieldLink "SwingDeskModel" 68 (gF_SwingDeskModel 26).1 (gF_SwingDeskModel 26).2.1 (gF_SwingDeskModel 26).2.2.1 ∈ gT := gT_of (i := 888) (by decide +kernel) (by decide +kernel)
theorem wf_Model_71 : Cond.fieldLink "SwingDeskModel" 71 (gF_SwingDeskModel 27).1 (gF_SwingDeskModel 27).2.1 (gF_SwingDeskModel 27).2.2.1 ∈ gT := gT_of (i := 889) (by decide +kernel) (by decide +kernel)
theorem wc_Show_31 : Cond.constant "SwingDesk$Show" 31 (-1000000005) ∈ gT := gT_of (i := 75) (by decide +kernel) (by decide +kernel)
theorem wc_Company_40 : Cond.constant "SwingDesk$Company" 40 (-1000000005) ∈ gT := gT_of (i := 105) (by decide +kernel) (by decide +kernel)
theorem wc_Night_30 : Cond.constant "SwingDesk$Night" 30 (-1000000005) ∈ gT := gT_of (i := 141) (by decide +kernel) (by decide +kernel)
theorem wc_Show_38 : Cond.constant "SwingDesk$Show" 38 (-1000000003) ∈ gT := gT_of (i := 282) (by decide +kernel) (by decide +kernel)
theorem wc_Desk_61 : Cond.constant "SwingDesk" 61 (-1000000001) ∈ gT := gT_of (i := 283) (by decide +kernel) (by decide +kernel)
theorem wc_Desk_62 : Cond.constant "SwingDesk" 62 (-1000000005) ∈ gT := gT_of (i := 288) (by decide +kernel) (by decide +kernel)
theorem wc_Desk_92 : Cond.constant "SwingDesk" 92 (-1000000002) ∈ gT := gT_of (i := 330) (by decide +kernel) (by decide +kernel)
theorem wc_Desk_101 : Cond.constant "SwingDesk" 101 (-1000000011) ∈ gT := gT_of (i := 343) (by decide +kernel) (by decide +kernel)
theorem wc_Desk_106 : Cond.constant "SwingDesk" 106 (-1000000013) ∈ gT := gT_of (i := 348) (by decide +kernel) (by decide +kernel)
theorem wc_Company_47 : Cond.constant "SwingDesk$Company" 47 (-1000000003) ∈ gT := gT_of (i := 385) (by decide +kernel) (by decide +kernel)
theorem wc_CastSearch_94 : Cond.constant "SwingDesk$CastSearch" 94 (-1000000005) ∈ gT := gT_of (i := 559) (by decide +kernel) (by decide +kernel)
theorem wc_CastSearch_73 : Cond.constant "SwingDesk$CastSearch" 73 (1000000) ∈ gT := gT_of (i := 592) (by decide +kernel) (by decide +kernel)
theorem wc_CastSearch_89 : Cond.constant "SwingDesk$CastSearch" 89 (-1000000004) ∈ gT := gT_of (i := 625) (by decide +kernel) (by decide +kernel)
theorem wc_Desk_185 : Cond.constant "SwingDesk" 185 (-1000000004) ∈ gT := gT_of (i := 626) (by decide +kernel) (by decide +kernel)
theorem wc_PutIns_41 : Cond.constantLong "SwingDesk$PutIns" 41 (3486784401000000) ∈ gT := gT_of (i := 741) (by decide +kernel) (by decide +kernel)
theorem wc_PutIns_49 : Cond.constantLong "SwingDesk$PutIns" 49 (387420489) ∈ gT := gT_of (i := 745) (by decide +kernel) (by decide +kernel)
theorem wc_PutIns_106 : Cond.constantLong "SwingDesk$PutIns" 106 (8) ∈ gT := gT_of (i := 759) (by decide +kernel) (by decide +kernel)
theorem wc_PutIns_67 : Cond.constantLong "SwingDesk$PutIns" 67 (3486784401) ∈ gT := gT_of (i := 767) (by decide +kernel) (by decide +kernel)
theorem wc_PutIns_61 : Cond.constantLong "SwingDesk$PutIns" 61 (9) ∈ gT := gT_of (i := 771) (by decide +kernel) (by decide +kernel)
theorem wc_PutIns_69 : Cond.constant "SwingDesk$PutIns" 69 (-1000000005) ∈ gT := gT_of (i := 789) (by decide +kernel) (by decide +kernel)
theorem wc_Desk_217 : Cond.constant "SwingDesk" 217 (-1000000014) ∈ gT := gT_of (i := 794) (by decide +kernel) (by decide +kernel)
theorem wc_Integer_265 : Cond.constant "java/lang/Integer" 265 (1431655765) ∈ gT := gT_of (i := 848) (by decide +kernel) (by decide +kernel)
theorem wc_Integer_266 : Cond.constant "java/lang/Integer" 266 (858993459) ∈ gT := gT_of (i := 849) (by decide +kernel) (by decide +kernel)
theorem wc_Integer_267 : Cond.constant "java/lang/Integer" 267 (252645135) ∈ gT := gT_of (i := 850) (by decide +kernel) (by decide +kernel)
theorem wc_Model_64 : Cond.constant "SwingDeskModel" 64 (72171) ∈ gT := gT_of (i := 861) (by decide +kernel) (by decide +kernel)
theorem wc_Model_85 : Cond.constant "SwingDeskModel" 85 (-1000000001) ∈ gT := gT_of (i := 954) (by decide +kernel) (by decide +kernel)
theorem wc_Model_86 : Cond.constant "SwingDeskModel" 86 (-1000000003) ∈ gT := gT_of (i := 955) (by decide +kernel) (by decide +kernel)
theorem wc_Model_94 : Cond.constant "SwingDeskModel" 94 (-1000000005) ∈ gT := gT_of (i := 967) (by decide +kernel) (by decide +kernel)
theorem wc_Model_103 : Cond.constant "SwingDeskModel" 103 (-1000000002) ∈ gT := gT_of (i := 980) (by decide +kernel) (by decide +kernel)
theorem wc_Model_107 : Cond.constant "SwingDeskModel" 107 (-1000000011) ∈ gT := gT_of (i := 988) (by decide +kernel) (by decide +kernel)
theorem wc_Model_108 : Cond.constant "SwingDeskModel" 108 (-1000000013) ∈ gT := gT_of (i := 989) (by decide +kernel) (by decide +kernel)
theorem wc_Model_181 : Cond.constant "SwingDeskModel" 181 (-1000000004) ∈ gT := gT_of (i := 1101) (by decide +kernel) (by decide +kernel)
theorem wc_Model_200 : Cond.constant "SwingDeskModel" 200 (-1000000014) ∈ gT := gT_of (i := 1158) (by decide +kernel) (by decide +kernel)
theorem wk_Law_7 : Cond.classLink "SwingDeskLaw" 7 "SwingDesk" ∈ gT := gT_of (i := 61) (by decide +kernel) (by decide +kernel)
theorem wk_Desk_7 : Cond.classLink "SwingDesk" 7 "SwingDesk$Show" ∈ gT := gT_of (i := 69) (by decide +kernel) (by decide +kernel)
theorem wk_Desk_16 : Cond.classLink "SwingDesk" 16 "SwingDesk$Company" ∈ gT := gT_of (i := 99) (by decide +kernel) (by decide +kernel)
theorem wk_Desk_23 : Cond.classLink "SwingDesk" 23 "SwingDesk$Night" ∈ gT := gT_of (i := 135) (by decide +kernel) (by decide +kernel)
theorem wk_Desk_32 : Cond.classLink "SwingDesk" 32 "SwingDesk$CastSearch" ∈ gT := gT_of (i := 159) (by decide +kernel) (by decide +kernel)
theorem wk_Desk_39 : Cond.classLink "SwingDesk" 39 "SwingDesk$PutIns" ∈ gT := gT_of (i := 208) (by decide +kernel) (by decide +kernel)
theorem wk_Desk_46 : Cond.classLink "SwingDesk" 46 "SwingDesk$Sheet" ∈ gT := gT_of (i := 237) (by decide +kernel) (by decide +kernel)
theorem wk_Law_10 : Cond.classLink "SwingDeskLaw" 10 "SwingDeskModel" ∈ gT := gT_of (i := 855) (by decide +kernel) (by decide +kernel)
theorem wn_Desk : Cond.instantiable "SwingDesk" 6 ∈ gT := gT_of (i := 62) (by decide +kernel) (by decide +kernel)
theorem wn_Show : Cond.instantiable "SwingDesk$Show" 6 ∈ gT := gT_of (i := 70) (by decide +kernel) (by decide +kernel)
theorem wa_int : Cond.arrayClass .int ∈ gT := gT_of (i := 98) (by decide +kernel) (by decide +kernel)
theorem wn_Company : Cond.instantiable "SwingDesk$Company" 9 ∈ gT := gT_of (i := 100) (by decide +kernel) (by decide +kernel)
theorem wn_Night : Cond.instantiable "SwingDesk$Night" 5 ∈ gT := gT_of (i := 136) (by decide +kernel) (by decide +kernel)
theorem wn_CastSearch : Cond.instantiable "SwingDesk$CastSearch" 14 ∈ gT := gT_of (i := 160) (by decide +kernel) (by decide +kernel)
theorem wn_PutIns : Cond.instantiable "SwingDesk$PutIns" 7 ∈ gT := gT_of (i := 209) (by decide +kernel) (by decide +kernel)
theorem wa_long : Cond.arrayClass .long ∈ gT := gT_of (i := 236) (by decide +kernel) (by decide +kernel)
theorem wn_Sheet : Cond.instantiable "SwingDesk$Sheet" 2 ∈ gT := gT_of (i := 239) (by decide +kernel) (by decide +kernel)
theorem wa_byte : Cond.arrayClass .byte ∈ gT := gT_of (i := 251) (by decide +kernel) (by decide +kernel)
theorem wn_Model : Cond.instantiable "SwingDeskModel" 28 ∈ gT := gT_of (i := 856) (by decide +kernel) (by decide +kernel)
end
section
theorem dCastSearch_init_0 : decode nCastSearch_init.2.1 0 = .ok (.aload_n 0, 1) := by decide +kernel
theorem dCastSearch_init_1 : decode nCastSearch_init.2.1 1 = .ok (.invokespecial 3, 3) := by decide +kernel
theorem dCastSearch_init_4 : decode nCastSearch_init.2.1 4 = .ok (.aload_n 0, 1) := by decide +kernel
theorem dCastSearch_init_5 : decode nCastSearch_init.2.1 5 = .ok (.aload_n 1, 1) := by decide +kernel
theorem dCastSearch_init_6 : decode nCastSearch_init.2.1 6 = .ok (.putfield 9, 3) := by decide +kernel
theorem dCastSearch_init_9 : decode nCastSearch_init.2.1 9 = .ok (.aload_n 0, 1) := by decide +kernel
theorem dCastSearch_init_10 : decode nCastSearch_init.2.1 10 = .ok (.aload_n 2, 1) := by decide +kernel
theorem dCastSearch_init_11 : decode nCastSearch_init.2.1 11 = .ok (.putfield 15, 3) := by decide +kernel
theorem dCastSearch_init_14 : decode nCastSearch_init.2.1 14 = .ok (.aload_n 0, 1) := by decide +kernel
theorem dCastSearch_init_15 : decode nCastSearch_init.2.1 15 = .ok (.bipush 8, 2) := by decide +kernel
theorem dCastSearch_init_17 : decode nCastSearch_init.2.1 17 = .ok (.newarray .int, 2) := by decide +kernel
theorem dCastSearch_init_19 : decode nCastSearch_init.2.1 19 = .ok (.putfield 19, 3) := by decide +kernel
theorem dCastSearch_init_22 : decode nCastSearch_init.2.1 22 = .ok (.aload_n 0, 1) := by decide +kernel
theorem dCastSearch_init_23 : decode nCastSearch_init.2.1 23 = .ok (.bipush 8, 2) := by decide +kernel
theorem dCastSearch_init_25 : decode nCastSearch_init.2.1 25 = .ok (.newarray .int, 2) := by decide +kernel
theorem dCastSearch_init_27 : decode nCastSearch_init.2.1 27 = .ok (.putfield 23, 3) := by decide +kernel
theorem dCastSearch_init_30 : decode nCastSearch_init.2.1 30 = .ok (.aload_n 0, 1) := by decide +kernel
theorem dCastSearch_init_31 : decode nCastSearch_init.2.1 31 = .ok (.bipush 8, 2) := by decide +kernel
theorem dCastSearch_init_33 : decode nCastSearch_init.2.1 33 = .ok (.newarray .int, 2) := by decide +kernel
theorem dCastSearch_init_35 : decode nCastSearch_init.2.1 35 = .ok (.putfield 26, 3) := by decide +kernel
theorem dCastSearch_init_38 : decode nCastSearch_init.2.1 38 = .ok (.aload_n 0, 1) := by decide +kernel
theorem dCastSearch_init_39 : decode nCastSearch_init.2.1 39 = .ok (.bipush 8, 2) := by decide +kernel
theorem dCastSearch_init_41 : decode nCastSearch_init.2.1 41 = .ok (.newarray .int, 2) := by decide +kernel
theorem dCastSearch_init_43 : decode nCastSearch_init.2.1 43 = .ok (.putfield 29, 3) := by decide +kernel
theorem dCastSearch_init_46 : decode nCastSearch_init.2.1 46 = .ok (.aload_n 0, 1) := by decide +kernel
theorem dCastSearch_init_47 : decode nCastSearch_init.2.1 47 = .ok (.bipush 80, 2) := by decide +kernel
theorem dCastSearch_init_49 : decode nCastSearch_init.2.1 49 = .ok (.newarray .int, 2) := by decide +kernel
theorem dCastSearch_init_51 : decode nCastSearch_init.2.1 51 = .ok (.putfield 32, 3) := by decide +kernel
theorem dCastSearch_init_54 : decode nCastSearch_init.2.1 54 = .ok (.aload_n 0, 1) := by decide +kernel
theorem dCastSearch_init_55 : decode nCastSearch_init.2.1 55 = .ok (.bipush 64, 2) := by decide +kernel
theorem dCastSearch_init_57 : decode nCastSearch_init.2.1 57 = .ok (.newarray .int, 2) := by decide +kernel
theorem dCastSearch_init_59 : decode nCastSearch_init.2.1 59 = .ok (.putfield 35, 3) := by decide +kernel
theorem dCastSearch_init_62 : decode nCastSearch_init.2.1 62 = .ok (.aload_n 0, 1) := by decide +kernel
theorem dCastSearch_init_63 : decode nCastSearch_init.2.1 63 = .ok (.bipush 8, 2) := by decide +kernel
theorem dCastSearch_init_65 : decode nCastSearch_init.2.1 65 = .ok (.newarray .int, 2) := by decide +kernel
theorem dCastSearch_init_67 : decode nCastSearch_init.2.1 67 = .ok (.putfield 38, 3) := by decide +kernel
theorem dCastSearch_init_70 : decode nCastSearch_init.2.1 70 = .ok (.aload_n 0, 1) := by decide +kernel
theorem dCastSearch_init_71 : decode nCastSearch_init.2.1 71 = .ok (.bipush 10, 2) := by decide +kernel
theorem dCastSearch_init_73 : decode nCastSearch_init.2.1 73 = .ok (.newarray .int, 2) := by decide +kernel
theorem dCastSearch_init_75 : decode nCastSearch_init.2.1 75 = .ok (.putfield 41, 3) := by decide +kernel
theorem dCastSearch_init_78 : decode nCastSearch_init.2.1 78 = .ok (.aload_n 0, 1) := by decide +kernel
theorem dCastSearch_init_79 : decode nCastSearch_init.2.1 79 = .ok (.bipush 8, 2) := by decide +kernel
theorem dCastSearch_init_81 : decode nCastSearch_init.2.1 81 = .ok (.newarray .int, 2) := by decide +kernel
theorem dCastSearch_init_83 : decode nCastSearch_init.2.1 83 = .ok (.putfield 44, 3) := by decide +kernel
theorem dCastSearch_init_86 : decode nCastSearch_init.2.1 86 = .ok (.return_, 1) := by decide +kernel
theorem dCastSearch_leastLoss_0 : decode nCastSearch_leastLoss.2.1 0 = .ok (.iconst 0, 1) := by decide +kernel
theorem dCastSearch_leastLoss_1 : decode nCastSearch_leastLoss.2.1 1 = .ok (.istore_n 2, 1) := by decide +kernel
theorem dCastSearch_leastLoss_2 : decode nCastSearch_leastLoss.2.1 2 = .ok (.iload_n 2, 1) := by decide +kernel
theorem dCastSearch_leastLoss_3 : decode nCastSearch_leastLoss.2.1 3 = .ok (.aload_n 0, 1) := by decide +kernel
theorem dCastSearch_leastLoss_4 : decode nCastSearch_leastLoss.2.1 4 = .ok (.getfield 9, 3) := by decide +kernel
theorem dCastSearch_leastLoss_7 : decode nCastSearch_leastLoss.2.1 7 = .ok (.invokevirtual 47, 3) := by decide +kernel
theorem dCastSearch_leastLoss_10 : decode nCastSearch_leastLoss.2.1 10 = .ok (.if_icmp .ge 39, 3) := by decide +kernel
theorem dCastSearch_leastLoss_13 : decode nCastSearch_leastLoss.2.1 13 = .ok (.aload_n 0, 1) := by decide +kernel
theorem dCastSearch_leastLoss_14 : decode nCastSearch_leastLoss.2.1 14 = .ok (.iload_n 2, 1) := by decide +kernel
theorem dCastSearch_leastLoss_15 : decode nCastSearch_leastLoss.2.1 15 = .ok (.invokevirtual 53, 3) := by decide +kernel
theorem dCastSearch_leastLoss_18 : decode nCastSearch_leastLoss.2.1 18 = .ok (.aload_n 0, 1) := by decide +kernel
theorem dCastSearch_leastLoss_19 : decode nCastSearch_leastLoss.2.1 19 = .ok (.iload_n 2, 1) := by decide +kernel
theorem dCastSearch_leastLoss_20 : decode nCastSearch_leastLoss.2.1 20 = .ok (.invokevirtual 57, 3) := by decide +kernel
theorem dCastSearch_leastLoss_23 : decode nCastSearch_leastLoss.2.1 23 = .ok (.aload_n 0, 1) := by decide +kernel
theorem dCastSearch_leastLoss_24 : decode nCastSearch_leastLoss.2.1 24 = .ok (.getfield 29, 3) := by decide +kernel
theorem dCastSearch_leastLoss_27 : decode nCastSearch_leastLoss.2.1 27 = .ok (.iload_n 2, 1) := by decide +kernel
theorem dCastSearch_leastLoss_28 : decode nCastSearch_leastLoss.2.1 28 = .ok (.bipush 20, 2) := by decide +kernel
theorem dCastSearch_leastLoss_30 : decode nCastSearch_leastLoss.2.1 30 = .ok (.bipush 10, 2) := by decide +kernel
theorem dCastSearch_leastLoss_32 : decode nCastSearch_leastLoss.2.1 32 = .ok (.aload_n 0, 1) := by decide +kernel
theorem dCastSearch_leastLoss_33 : decode nCastSearch_leastLoss.2.1 33 = .ok (.getfield 9, 3) := by decide +kernel
theorem dCastSearch_leastLoss_36 : decode nCastSearch_leastLoss.2.1 36 = .ok (.iload_n 2, 1) := by decide +kernel
theorem dCastSearch_leastLoss_37 : decode nCastSearch_leastLoss.2.1 37 = .ok (.invokevirtual 60, 3) := by decide +kernel
theorem dCastSearch_leastLoss_40 : decode nCastSearch_leastLoss.2.1 40 = .ok (.imul, 1) := by decide +kernel
theorem dCastSearch_leastLoss_41 : decode nCastSearch_leastLoss.2.1 41 = .ok (.iadd, 1) := by decide +kernel
theorem dCastSearch_leastLoss_42 : decode nCastSearch_leastLoss.2.1 42 = .ok (.iastore, 1) := by decide +kernel
theorem dCastSearch_leastLoss_43 : decode nCastSearch_leastLoss.2.1 43 = .ok (.iinc 2 1, 3) := by decide +kernel
theorem dCastSearch_leastLoss_46 : decode nCastSearch_leastLoss.2.1 46 = .ok (.goto (-44), 3) := by decide +kernel
theorem dCastSearch_leastLoss_49 : decode nCastSearch_leastLoss.2.1 49 = .ok (.aload_n 0, 1) := by decide +kernel
theorem dCastSearch_leastLoss_50 : decode nCastSearch_leastLoss.2.1 50 = .ok (.invokevirtual 64, 3) := by decide +kernel
theorem dCastSearch_leastLoss_53 : decode nCastSearch_leastLoss.2.1 53 = .ok (.aload_n 0, 1) := by decide +kernel
theorem dCastSearch_leastLoss_54 : decode nCastSearch_leastLoss.2.1 54 = .ok (.getfield 41, 3) := by decide +kernel
theorem dCastSearch_leastLoss_57 : decode nCastSearch_leastLoss.2.1 57 = .ok (.iconst 0, 1) := by decide +kernel
theorem dCastSearch_leastLoss_58 : decode nCastSearch_leastLoss.2.1 58 = .ok (.invokestatic 67, 3) := by decide +kernel
theorem dCastSearch_leastLoss_61 : decode nCastSearch_leastLoss.2.1 61 = .ok (.aload_n 0, 1) := by decide +kernel
theorem dCastSearch_leastLoss_62 : decode nCastSearch_leastLoss.2.1 62 = .ok (.ldc 73, 2) := by decide +kernel
theorem dCastSearch_leastLoss_64 : decode nCastSearch_leastLoss.2.1 64 = .ok (.putfield 74, 3) := by decide +kernel
theorem dCastSearch_leastLoss_67 : decode nCastSearch_leastLoss.2.1 67 = .ok (.aload_n 0, 1) := by decide +kernel
theorem dCastSearch_leastLoss_68 : decode nCastSearch_leastLoss.2.1 68 = .ok (.iload_n 1, 1) := by decide +kernel
theorem dCastSearch_leastLoss_69 : decode nCastSearch_leastLoss.2.1 69 = .ok (.putfield 78, 3) := by decide +kernel
theorem dCastSearch_leastLoss_72 : decode nCastSearch_leastLoss.2.1 72 = .ok (.aload_n 0, 1) := by decide +kernel
theorem dCastSearch_leastLoss_73 : decode nCastSearch_leastLoss.2.1 73 = .ok (.iconst 0, 1) := by decide +kernel
theorem dCastSearch_leastLoss_74 : decode nCastSearch_leastLoss.2.1 74 = .ok (.putfield 81, 3) := by decide +kernel
theorem dCastSearch_leastLoss_77 : decode nCastSearch_leastLoss.2.1 77 = .ok (.aload_n 0, 1) := by decide +kernel
theorem dCastSearch_leastLoss_78 : decode nCastSearch_leastLoss.2.1 78 = .ok (.iconst 0, 1) := by decide +kernel
theorem dCastSearch_leastLoss_79 : decode nCastSearch_leastLoss.2.1 79 = .ok (.iconst 0, 1) := by decide +kernel
theorem dCastSearch_leastLoss_80 : decode nCastSearch_leastLoss.2.1 80 = .ok (.invokevirtual 85, 3) := by decide +kernel
theorem dCastSearch_leastLoss_83 : decode nCastSearch_leastLoss.2.1 83 = .ok (.aload_n 0, 1) := by decide +kernel
theorem dCastSearch_leastLoss_84 : decode nCastSearch_leastLoss.2.1 84 = .ok (.getfield 81, 3) := by decide +kernel
theorem dCastSearch_leastLoss_87 : decode nCastSearch_leastLoss.2.1 87 = .ok (.ifCond .eq 8, 3) := by decide +kernel
theorem dCastSearch_leastLoss_90 : decode nCastSearch_leastLoss.2.1 90 = .ok (.ldc 89, 2) := by decide +kernel
theorem dCastSearch_leastLoss_92 : decode nCastSearch_leastLoss.2.1 92 = .ok (.goto 7, 3) := by decide +kernel
theorem dCastSearch_leastLoss_95 : decode nCastSearch_leastLoss.2.1 95 = .ok (.aload_n 0, 1) := by decide +kernel
theorem dCastSearch_leastLoss_96 : decode nCastSearch_leastLoss.2.1 96 = .ok (.getfield 74, 3) := by decide +kernel
theorem dCastSearch_leastLoss_99 : decode nCastSearch_leastLoss.2.1 99 = .ok (.ireturn, 1) := by decide +kernel
theorem dCastSearch_bestAt_0 : decode nCastSearch_bestAt.2.1 0 = .ok (.aload_n 0, 1) := by decide +kernel
theorem dCastSearch_bestAt_1 : decode nCastSearch_bestAt.2.1 1 = .ok (.getfield 9, 3) := by decide +kernel
theorem dCastSearch_bestAt_4 : decode nCastSearch_bestAt.2.1 4 = .ok (.iload_n 1, 1) := by decide +kernel
theorem dCastSearch_bestAt_5 : decode nCastSearch_bestAt.2.1 5 = .ok (.invokevirtual 90, 3) := by decide +kernel
theorem dCastSearch_bestAt_8 : decode nCastSearch_bestAt.2.1 8 = .ok (.ifCond .eq 12, 3) := by decide +kernel
theorem dCastSearch_bestAt_11 : decode nCastSearch_bestAt.2.1 11 = .ok (.aload_n 0, 1) := by decide +kernel
theorem dCastSearch_bestAt_12 : decode nCastSearch_bestAt.2.1 12 = .ok (.getfield 44, 3) := by decide +kernel
theorem dCastSearch_bestAt_15 : decode nCastSearch_bestAt.2.1 15 = .ok (.iload_n 1, 1) := by decide +kernel
theorem dCastSearch_bestAt_16 : decode nCastSearch_bestAt.2.1 16 = .ok (.iaload, 1) := by decide +kernel
theorem dCastSearch_bestAt_17 : decode nCastSearch_bestAt.2.1 17 = .ok (.goto 5, 3) := by decide +kernel
theorem dCastSearch_bestAt_20 : decode nCastSearch_bestAt.2.1 20 = .ok (.ldc 94, 2) := by decide +kernel
theorem dCastSearch_bestAt_22 : decode nCastSearch_bestAt.2.1 22 = .ok (.ireturn, 1) := by decide +kernel
theorem dCastSearch_readPeople_0 : decode nCastSearch_readPeople.2.1 0 = .ok (.iconst 0, 1) := by decide +kernel
theorem dCastSearch_readPeople_1 : decode nCastSearch_readPeople.2.1 1 = .ok (.istore_n 2, 1) := by decide +kernel
theorem dCastSearch_readPeople_2 : decode nCastSearch_readPeople.2.1 2 = .ok (.aload_n 0, 1) := by decide +kernel
theorem dCastSearch_readPeople_3 : decode nCastSearch_readPeople.2.1 3 = .ok (.getfield 9, 3) := by decide +kernel
theorem dCastSearch_readPeople_6 : decode nCastSearch_readPeople.2.1 6 = .ok (.iload_n 1, 1) := by decide +kernel
theorem dCastSearch_readPeople_7 : decode nCastSearch_readPeople.2.1 7 = .ok (.invokevirtual 95, 3) := by decide +kernel
theorem dCastSearch_readPeople_10 : decode nCastSearch_readPeople.2.1 10 = .ok (.istore_n 3, 1) := by decide +kernel
theorem dCastSearch_readPeople_11 : decode nCastSearch_readPeople.2.1 11 = .ok (.aload_n 0, 1) := by decide +kernel
theorem dCastSearch_readPeople_12 : decode nCastSearch_readPeople.2.1 12 = .ok (.getfield 15, 3) := by decide +kernel
theorem dCastSearch_readPeople_15 : decode nCastSearch_readPeople.2.1 15 = .ok (.iload_n 1, 1) := by decide +kernel
theorem dCastSearch_readPeople_16 : decode nCastSearch_readPeople.2.1 16 = .ok (.invokevirtual 98, 3) := by decide +kernel
theorem dCastSearch_readPeople_19 : decode nCastSearch_readPeople.2.1 19 = .ok (.istore 4, 2) := by decide +kernel
theorem dCastSearch_readPeople_21 : decode nCastSearch_readPeople.2.1 21 = .ok (.iconst 0, 1) := by decide +kernel
theorem dCastSearch_readPeople_22 : decode nCastSearch_readPeople.2.1 22 = .ok (.istore 5, 2) := by decide +kernel
theorem dCastSearch_readPeople_24 : decode nCastSearch_readPeople.2.1 24 = .ok (.iload 5, 2) := by decide +kernel
theorem dCastSearch_readPeople_26 : decode nCastSearch_readPeople.2.1 26 = .ok (.aload_n 0, 1) := by decide +kernel
theorem dCastSearch_readPeople_27 : decode nCastSearch_readPeople.2.1 27 = .ok (.getfield 15, 3) := by decide +kernel
theorem dCastSearch_readPeople_30 : decode nCastSearch_readPeople.2.1 30 = .ok (.invokevirtual 103, 3) := by decide +kernel
theorem dCastSearch_readPeople_33 : decode nCastSearch_readPeople.2.1 33 = .ok (.if_icmp .ge 83, 3) := by decide +kernel
theorem dCastSearch_readPeople_36 : decode nCastSearch_readPeople.2.1 36 = .ok (.iload_n 3, 1) := by decide +kernel
theorem dCastSearch_readPeople_37 : decode nCastSearch_readPeople.2.1 37 = .ok (.aload_n 0, 1) := by decide +kernel
theorem dCastSearch_readPeople_38 : decode nCastSearch_readPeople.2.1 38 = .ok (.getfield 15, 3) := by decide +kernel
theorem dCastSearch_readPeople_41 : decode nCastSearch_readPeople.2.1 41 = .ok (.iload 5, 2) := by decide +kernel
theorem dCastSearch_readPeople_43 : decode nCastSearch_readPeople.2.1 43 = .ok (.invokevirtual 106, 3) := by decide +kernel
theorem dCastSearch_readPeople_46 : decode nCastSearch_readPeople.2.1 46 = .ok (.if_icmp .ge 7, 3) := by decide +kernel
theorem dCastSearch_readPeople_49 : decode nCastSearch_readPeople.2.1 49 = .ok (.iconst 1, 1) := by decide +kernel
theorem dCastSearch_readPeople_50 : decode nCastSearch_readPeople.2.1 50 = .ok (.goto 4, 3) := by decide +kernel
theorem dCastSearch_readPeople_53 : decode nCastSearch_readPeople.2.1 53 = .ok (.iconst 0, 1) := by decide +kernel
theorem dCastSearch_readPeople_54 : decode nCastSearch_readPeople.2.1 54 = .ok (.istore 6, 2) := by decide +kernel
theorem dCastSearch_readPeople_56 : decode nCastSearch_readPeople.2.1 56 = .ok (.iload 6, 2) := by decide +kernel
theorem dCastSearch_readPeople_58 : decode nCastSearch_readPeople.2.1 58 = .ok (.ifCond .eq 31, 3) := by decide +kernel
theorem dCastSearch_readPeople_61 : decode nCastSearch_readPeople.2.1 61 = .ok (.aload_n 0, 1) := by decide +kernel
theorem dCastSearch_readPeople_62 : decode nCastSearch_readPeople.2.1 62 = .ok (.getfield 15, 3) := by decide +kernel
theorem dCastSearch_readPeople_65 : decode nCastSearch_readPeople.2.1 65 = .ok (.iload 5, 2) := by decide +kernel
theorem dCastSearch_readPeople_67 : decode nCastSearch_readPeople.2.1 67 = .ok (.iload_n 1, 1) := by decide +kernel
theorem dCastSearch_readPeople_68 : decode nCastSearch_readPeople.2.1 68 = .ok (.aload_n 0, 1) := by decide +kernel
theorem dCastSearch_readPeople_69 : decode nCastSearch_readPeople.2.1 69 = .ok (.getfield 9, 3) := by decide +kernel
theorem dCastSearch_readPeople_72 : decode nCastSearch_readPeople.2.1 72 = .ok (.iload_n 1, 1) := by decide +kernel
theorem dCastSearch_readPeople_73 : decode nCastSearch_readPeople.2.1 73 = .ok (.invokevirtual 109, 3) := by decide +kernel
theorem dCastSearch_readPeople_76 : decode nCastSearch_readPeople.2.1 76 = .ok (.invokevirtual 112, 3) := by decide +kernel
theorem dCastSearch_readPeople_79 : decode nCastSearch_readPeople.2.1 79 = .ok (.ifCond .eq 10, 3) := by decide +kernel
theorem dCastSearch_readPeople_82 : decode nCastSearch_readPeople.2.1 82 = .ok (.iload_n 2, 1) := by decide +kernel
theorem dCastSearch_readPeople_83 : decode nCastSearch_readPeople.2.1 83 = .ok (.iconst 1, 1) := by decide +kernel
theorem dCastSearch_readPeople_84 : decode nCastSearch_readPeople.2.1 84 = .ok (.iload 5, 2) := by decide +kernel
theorem dCastSearch_readPeople_86 : decode nCastSearch_readPeople.2.1 86 = .ok (.ishl, 1) := by decide +kernel
theorem dCastSearch_readPeople_87 : decode nCastSearch_readPeople.2.1 87 = .ok (.ior, 1) := by decide +kernel
theorem dCastSearch_readPeople_88 : decode nCastSearch_readPeople.2.1 88 = .ok (.istore_n 2, 1) := by decide +kernel
theorem dCastSearch_readPeople_89 : decode nCastSearch_readPeople.2.1 89 = .ok (.aload_n 0, 1) := by decide +kernel
theorem dCastSearch_readPeople_90 : decode nCastSearch_readPeople.2.1 90 = .ok (.getfield 32, 3) := by decide +kernel
theorem dCastSearch_readPeople_93 : decode nCastSearch_readPeople.2.1 93 = .ok (.iload_n 1, 1) := by decide +kernel
theorem dCastSearch_readPeople_94 : decode nCastSearch_readPeople.2.1 94 = .ok (.bipush 10, 2) := by decide +kernel
theorem dCastSearch_readPeople_96 : decode nCastSearch_readPeople.2.1 96 = .ok (.imul, 1) := by decide +kernel
theorem dCastSearch_readPeople_97 : decode nCastSearch_readPeople.2.1 97 = .ok (.iload 5, 2) := by decide +kernel
theorem dCastSearch_readPeople_99 : decode nCastSearch_readPeople.2.1 99 = .ok (.iadd, 1) := by decide +kernel
theorem dCastSearch_readPeople_100 : decode nCastSearch_readPeople.2.1 100 = .ok (.aload_n 0, 1) := by decide +kernel
theorem dCastSearch_readPeople_101 : decode nCastSearch_readPeople.2.1 101 = .ok (.iload 5, 2) := by decide +kernel
theorem dCastSearch_readPeople_103 : decode nCastSearch_readPeople.2.1 103 = .ok (.iload_n 1, 1) := by decide +kernel
theorem dCastSearch_readPeople_104 : decode nCastSearch_readPeople.2.1 104 = .ok (.iload 4, 2) := by decide +kernel
theorem dCastSearch_readPeople_106 : decode nCastSearch_readPeople.2.1 106 = .ok (.invokevirtual 116, 3) := by decide +kernel
theorem dCastSearch_readPeople_109 : decode nCastSearch_readPeople.2.1 109 = .ok (.iastore, 1) := by decide +kernel
theorem dCastSearch_readPeople_110 : decode nCastSearch_readPeople.2.1 110 = .ok (.iinc 5 1, 3) := by decide +kernel
theorem dCastSearch_readPeople_113 : decode nCastSearch_readPeople.2.1 113 = .ok (.goto (-89), 3) := by decide +kernel
theorem dCastSearch_readPeople_116 : decode nCastSearch_readPeople.2.1 116 = .ok (.aload_n 0, 1) := by decide +kernel
theorem dCastSearch_readPeople_117 : decode nCastSearch_readPeople.2.1 117 = .ok (.getfield 19, 3) := by decide +kernel
theorem dCastSearch_readPeople_120 : decode nCastSearch_readPeople.2.1 120 = .ok (.iload_n 1, 1) := by decide +kernel
theorem dCastSearch_readPeople_121 : decode nCastSearch_readPeople.2.1 121 = .ok (.iload_n 2, 1) := by decide +kernel
theorem dCastSearch_readPeople_122 : decode nCastSearch_readPeople.2.1 122 = .ok (.iastore, 1) := by decide +kernel
theorem dCastSearch_readPeople_123 : decode nCastSearch_readPeople.2.1 123 = .ok (.return_, 1) := by decide +kernel
theorem dCastSearch_coverLoss_0 : decode nCastSearch_coverLoss.2.1 0 = .ok (.iload_n 3, 1) := by decide +kernel
theorem dCastSearch_coverLoss_1 : decode nCastSearch_coverLoss.2.1 1 = .ok (.iload_n 1, 1) := by decide +kernel
theorem dCastSearch_coverLoss_2 : decode nCastSearch_coverLoss.2.1 2 = .ok (.if_icmp .ne 5, 3) := by decide +kernel
theorem dCastSearch_coverLoss_5 : decode nCastSearch_coverLoss.2.1 5 = .ok (.iconst 0, 1) := by decide +kernel
theorem dCastSearch_coverLoss_6 : decode nCastSearch_coverLoss.2.1 6 = .ok (.ireturn, 1) := by decide +kernel
theorem dCastSearch_coverLoss_7 : decode nCastSearch_coverLoss.2.1 7 = .ok (.aload_n 0, 1) := by decide +kernel
theorem dCastSearch_coverLoss_8 : decode nCastSearch_coverLoss.2.1 8 = .ok (.getfield 15, 3) := by decide +kernel
theorem dCastSearch_coverLoss_11 : decode nCastSearch_coverLoss.2.1 11 = .ok (.iload_n 1, 1) := by decide +kernel
theorem dCastSearch_coverLoss_12 : decode nCastSearch_coverLoss.2.1 12 = .ok (.iload_n 2, 1) := by decide +kernel
theorem dCastSearch_coverLoss_13 : decode nCastSearch_coverLoss.2.1 13 = .ok (.invokevirtual 120, 3) := by decide +kernel
theorem dCastSearch_coverLoss_16 : decode nCastSearch_coverLoss.2.1 16 = .ok (.ifCond .eq 7, 3) := by decide +kernel
theorem dCastSearch_coverLoss_19 : decode nCastSearch_coverLoss.2.1 19 = .ok (.iconst 0, 1) := by decide +kernel
theorem dCastSearch_coverLoss_20 : decode nCastSearch_coverLoss.2.1 20 = .ok (.goto 4, 3) := by decide +kernel
theorem dCastSearch_coverLoss_23 : decode nCastSearch_coverLoss.2.1 23 = .ok (.iconst 3, 1) := by decide +kernel
theorem dCastSearch_coverLoss_24 : decode nCastSearch_coverLoss.2.1 24 = .ok (.istore 4, 2) := by decide +kernel
theorem dCastSearch_coverLoss_26 : decode nCastSearch_coverLoss.2.1 26 = .ok (.iload_n 3, 1) := by decide +kernel
theorem dCastSearch_coverLoss_27 : decode nCastSearch_coverLoss.2.1 27 = .ok (.ldc 94, 2) := by decide +kernel
theorem dCastSearch_coverLoss_29 : decode nCastSearch_coverLoss.2.1 29 = .ok (.if_icmp .ne 6, 3) := by decide +kernel
theorem dCastSearch_coverLoss_32 : decode nCastSearch_coverLoss.2.1 32 = .ok (.iload 4, 2) := by decide +kernel
theorem dCastSearch_coverLoss_34 : decode nCastSearch_coverLoss.2.1 34 = .ok (.ireturn, 1) := by decide +kernel
theorem dCastSearch_coverLoss_35 : decode nCastSearch_coverLoss.2.1 35 = .ok (.iload 4, 2) := by decide +kernel
theorem dCastSearch_coverLoss_37 : decode nCastSearch_coverLoss.2.1 37 = .ok (.aload_n 0, 1) := by decide +kernel
theorem dCastSearch_coverLoss_38 : decode nCastSearch_coverLoss.2.1 38 = .ok (.getfield 15, 3) := by decide +kernel
theorem dCastSearch_coverLoss_41 : decode nCastSearch_coverLoss.2.1 41 = .ok (.iload_n 1, 1) := by decide +kernel
theorem dCastSearch_coverLoss_42 : decode nCastSearch_coverLoss.2.1 42 = .ok (.iconst 2, 1) := by decide +kernel
theorem dCastSearch_coverLoss_43 : decode nCastSearch_coverLoss.2.1 43 = .ok (.invokevirtual 124, 3) := by decide +kernel
theorem dCastSearch_coverLoss_46 : decode nCastSearch_coverLoss.2.1 46 = .ok (.ifCond .eq 7, 3) := by decide +kernel
theorem dCastSearch_coverLoss_49 : decode nCastSearch_coverLoss.2.1 49 = .ok (.iconst 1, 1) := by decide +kernel
theorem dCastSearch_coverLoss_50 : decode nCastSearch_coverLoss.2.1 50 = .ok (.goto 4, 3) := by decide +kernel
theorem dCastSearch_coverLoss_53 : decode nCastSearch_coverLoss.2.1 53 = .ok (.iconst 2, 1) := by decide +kernel
theorem dCastSearch_coverLoss_54 : decode nCastSearch_coverLoss.2.1 54 = .ok (.iadd, 1) := by decide +kernel
theorem dCastSearch_coverLoss_55 : decode nCastSearch_coverLoss.2.1 55 = .ok (.ireturn, 1) := by decide +kernel
theorem dCastSearch_readEarlierTracks_0 : decode nCastSearch_readEarlierTracks.2.1 0 = .ok (.iconst 0, 1) := by decide +kernel
theorem dCastSearch_readEarlierTracks_1 : decode nCastSearch_readEarlierTracks.2.1 1 = .ok (.istore_n 2, 1) := by decide +kernel
theorem dCastSearch_readEarlierTracks_2 : decode nCastSearch_readEarlierTracks.2.1 2 = .ok (.iconst 0, 1) := by decide +kernel
theorem dCastSearch_readEarlierTracks_3 : decode nCastSearch_readEarlierTracks.2.1 3 = .ok (.istore_n 3, 1) := by decide +kernel
theorem dCastSearch_readEarlierTracks_4 : decode nCastSearch_readEarlierTracks.2.1 4 = .ok (.iconst 0, 1) := by decide +kernel
theorem dCastSearch_readEarlierTracks_5 : decode nCastSearch_readEarlierTracks.2.1 5 = .ok (.istore 4, 2) := by decide +kernel
theorem dCastSearch_readEarlierTracks_7 : decode nCastSearch_readEarlierTracks.2.1 7 = .ok (.iload 4, 2) := by decide +kernel
theorem dCastSearch_readEarlierTracks_9 : decode nCastSearch_readEarlierTracks.2.1 9 = .ok (.iload_n 1, 1) := by decide +kernel
theorem dCastSearch_readEarlierTracks_10 : decode nCastSearch_readEarlierTracks.2.1 10 = .ok (.if_icmp .ge 57, 3) := by decide +kernel
theorem dCastSearch_readEarlierTracks_13 : decode nCastSearch_readEarlierTracks.2.1 13 = .ok (.iload_n 2, 1) := by decide +kernel
theorem dCastSearch_readEarlierTracks_14 : decode nCastSearch_readEarlierTracks.2.1 14 = .ok (.aload_n 0, 1) := by decide +kernel
theorem dCastSearch_readEarlierTracks_15 : decode nCastSearch_readEarlierTracks.2.1 15 = .ok (.getfield 9, 3) := by decide +kernel
theorem dCastSearch_readEarlierTracks_18 : decode nCastSearch_readEarlierTracks.2.1 18 = .ok (.iload_n 1, 1) := by decide +kernel
theorem dCastSearch_readEarlierTracks_19 : decode nCastSearch_readEarlierTracks.2.1 19 = .ok (.iload 4, 2) := by decide +kernel
theorem dCastSearch_readEarlierTracks_21 : decode nCastSearch_readEarlierTracks.2.1 21 = .ok (.invokevirtual 127, 3) := by decide +kernel
theorem dCastSearch_readEarlierTracks_24 : decode nCastSearch_readEarlierTracks.2.1 24 = .ok (.ifCond .eq 7, 3) := by decide +kernel
theorem dCastSearch_readEarlierTracks_27 : decode nCastSearch_readEarlierTracks.2.1 27 = .ok (.iconst 0, 1) := by decide +kernel
theorem dCastSearch_readEarlierTracks_28 : decode nCastSearch_readEarlierTracks.2.1 28 = .ok (.goto 7, 3) := by decide +kernel
theorem dCastSearch_readEarlierTracks_31 : decode nCastSearch_readEarlierTracks.2.1 31 = .ok (.iconst 1, 1) := by decide +kernel
theorem dCastSearch_readEarlierTracks_32 : decode nCastSearch_readEarlierTracks.2.1 32 = .ok (.iload 4, 2) := by decide +kernel
theorem dCastSearch_readEarlierTracks_34 : decode nCastSearch_readEarlierTracks.2.1 34 = .ok (.ishl, 1) := by decide +kernel
theorem dCastSearch_readEarlierTracks_35 : decode nCastSearch_readEarlierTracks.2.1 35 = .ok (.ior, 1) := by decide +kernel
theorem dCastSearch_readEarlierTracks_36 : decode nCastSearch_readEarlierTracks.2.1 36 = .ok (.istore_n 2, 1) := by decide +kernel
theorem dCastSearch_readEarlierTracks_37 : decode nCastSearch_readEarlierTracks.2.1 37 = .ok (.iload_n 3, 1) := by decide +kernel
theorem dCastSearch_readEarlierTracks_38 : decode nCastSearch_readEarlierTracks.2.1 38 = .ok (.aload_n 0, 1) := by decide +kernel
theorem dCastSearch_readEarlierTracks_39 : decode nCastSearch_readEarlierTracks.2.1 39 = .ok (.getfield 9, 3) := by decide +kernel
theorem dCastSearch_readEarlierTracks_42 : decode nCastSearch_readEarlierTracks.2.1 42 = .ok (.iload_n 1, 1) := by decide +kernel
theorem dCastSearch_readEarlierTracks_43 : decode nCastSearch_readEarlierTracks.2.1 43 = .ok (.iload 4, 2) := by decide +kernel
theorem dCastSearch_readEarlierTracks_45 : decode nCastSearch_readEarlierTracks.2.1 45 = .ok (.invokevirtual 130, 3) := by decide +kernel
theorem dCastSearch_readEarlierTracks_48 : decode nCastSearch_readEarlierTracks.2.1 48 = .ok (.ifCond .eq 7, 3) := by decide +kernel
theorem dCastSearch_readEarlierTracks_51 : decode nCastSearch_readEarlierTracks.2.1 51 = .ok (.iconst 0, 1) := by decide +kernel
theorem dCastSearch_readEarlierTracks_52 : decode nCastSearch_readEarlierTracks.2.1 52 = .ok (.goto 7, 3) := by decide +kernel
theorem dCastSearch_readEarlierTracks_55 : decode nCastSearch_readEarlierTracks.2.1 55 = .ok (.iconst 1, 1) := by decide +kernel
theorem dCastSearch_readEarlierTracks_56 : decode nCastSearch_readEarlierTracks.2.1 56 = .ok (.iload 4, 2) := by decide +kernel
theorem dCastSearch_readEarlierTracks_58 : decode nCastSearch_readEarlierTracks.2.1 58 = .ok (.ishl, 1) := by decide +kernel
theorem dCastSearch_readEarlierTracks_59 : decode nCastSearch_readEarlierTracks.2.1 59 = .ok (.ior, 1) := by decide +kernel
theorem dCastSearch_readEarlierTracks_60 : decode nCastSearch_readEarlierTracks.2.1 60 = .ok (.istore_n 3, 1) := by decide +kernel
theorem dCastSearch_readEarlierTracks_61 : decode nCastSearch_readEarlierTracks.2.1 61 = .ok (.iinc 4 1, 3) := by decide +kernel
theorem dCastSearch_readEarlierTracks_64 : decode nCastSearch_readEarlierTracks.2.1 64 = .ok (.goto (-57), 3) := by decide +kernel
theorem dCastSearch_readEarlierTracks_67 : decode nCastSearch_readEarlierTracks.2.1 67 = .ok (.aload_n 0, 1) := by decide +kernel
theorem dCastSearch_readEarlierTracks_68 : decode nCastSearch_readEarlierTracks.2.1 68 = .ok (.getfield 23, 3) := by decide +kernel
theorem dCastSearch_readEarlierTracks_71 : decode nCastSearch_readEarlierTracks.2.1 71 = .ok (.iload_n 1, 1) := by decide +kernel
theorem dCastSearch_readEarlierTracks_72 : decode nCastSearch_readEarlierTracks.2.1 72 = .ok (.iload_n 2, 1) := by decide +kernel
theorem dCastSearch_readEarlierTracks_73 : decode nCastSearch_readEarlierTracks.2.1 73 = .ok (.iastore, 1) := by decide +kernel
theorem dCastSearch_readEarlierTracks_74 : decode nCastSearch_readEarlierTracks.2.1 74 = .ok (.aload_n 0, 1) := by decide +kernel
theorem dCastSearch_readEarlierTracks_75 : decode nCastSearch_readEarlierTracks.2.1 75 = .ok (.getfield 26, 3) := by decide +kernel
theorem dCastSearch_readEarlierTracks_78 : decode nCastSearch_readEarlierTracks.2.1 78 = .ok (.iload_n 1, 1) := by decide +kernel
theorem dCastSearch_readEarlierTracks_79 : decode nCastSearch_readEarlierTracks.2.1 79 = .ok (.iload_n 3, 1) := by decide +kernel
theorem dCastSearch_readEarlierTracks_80 : decode nCastSearch_readEarlierTracks.2.1 80 = .ok (.iastore, 1) := by decide +kernel
theorem dCastSearch_readEarlierTracks_81 : decode nCastSearch_readEarlierTracks.2.1 81 = .ok (.return_, 1) := by decide +kernel
theorem dCastSearch_readLifts_0 : decode nCastSearch_readLifts.2.1 0 = .ok (.aload_n 0, 1) := by decide +kernel
theorem dCastSearch_readLifts_1 : decode nCastSearch_readLifts.2.1 1 = .ok (.getfield 35, 3) := by decide +kernel
theorem dCastSearch_readLifts_4 : decode nCastSearch_readLifts.2.1 4 = .ok (.iconst 0, 1) := by decide +kernel
theorem dCastSearch_readLifts_5 : decode nCastSearch_readLifts.2.1 5 = .ok (.invokestatic 67, 3) := by decide +kernel
theorem dCastSearch_readLifts_8 : decode nCastSearch_readLifts.2.1 8 = .ok (.iconst 0, 1) := by decide +kernel
theorem dCastSearch_readLifts_9 : decode nCastSearch_readLifts.2.1 9 = .ok (.istore_n 1, 1) := by decide +kernel
theorem dCastSearch_readLifts_10 : decode nCastSearch_readLifts.2.1 10 = .ok (.iload_n 1, 1) := by decide +kernel
theorem dCastSearch_readLifts_11 : decode nCastSearch_readLifts.2.1 11 = .ok (.bipush 30, 2) := by decide +kernel
theorem dCastSearch_readLifts_13 : decode nCastSearch_readLifts.2.1 13 = .ok (.if_icmp .ge 64, 3) := by decide +kernel
theorem dCastSearch_readLifts_16 : decode nCastSearch_readLifts.2.1 16 = .ok (.aload_n 0, 1) := by decide +kernel
theorem dCastSearch_readLifts_17 : decode nCastSearch_readLifts.2.1 17 = .ok (.getfield 9, 3) := by decide +kernel
theorem dCastSearch_readLifts_20 : decode nCastSearch_readLifts.2.1 20 = .ok (.iload_n 1, 1) := by decide +kernel
theorem dCastSearch_readLifts_21 : decode nCastSearch_readLifts.2.1 21 = .ok (.invokevirtual 133, 3) := by decide +kernel
theorem dCastSearch_readLifts_24 : decode nCastSearch_readLifts.2.1 24 = .ok (.istore_n 2, 1) := by decide +kernel
theorem dCastSearch_readLifts_25 : decode nCastSearch_readLifts.2.1 25 = .ok (.aload_n 0, 1) := by decide +kernel
theorem dCastSearch_readLifts_26 : decode nCastSearch_readLifts.2.1 26 = .ok (.getfield 9, 3) := by decide +kernel
theorem dCastSearch_readLifts_29 : decode nCastSearch_readLifts.2.1 29 = .ok (.iload_n 1, 1) := by decide +kernel
theorem dCastSearch_readLifts_30 : decode nCastSearch_readLifts.2.1 30 = .ok (.invokevirtual 136, 3) := by decide +kernel
theorem dCastSearch_readLifts_33 : decode nCastSearch_readLifts.2.1 33 = .ok (.istore_n 3, 1) := by decide +kernel
theorem dCastSearch_readLifts_34 : decode nCastSearch_readLifts.2.1 34 = .ok (.aload_n 0, 1) := by decide +kernel
theorem dCastSearch_readLifts_35 : decode nCastSearch_readLifts.2.1 35 = .ok (.getfield 9, 3) := by decide +kernel
theorem dCastSearch_readLifts_38 : decode nCastSearch_readLifts.2.1 38 = .ok (.iload_n 2, 1) := by decide +kernel
theorem dCastSearch_readLifts_39 : decode nCastSearch_readLifts.2.1 39 = .ok (.invokevirtual 90, 3) := by decide +kernel
theorem dCastSearch_readLifts_42 : decode nCastSearch_readLifts.2.1 42 = .ok (.ifCond .eq 29, 3) := by decide +kernel
theorem dCastSearch_readLifts_45 : decode nCastSearch_readLifts.2.1 45 = .ok (.aload_n 0, 1) := by decide +kernel
theorem dCastSearch_readLifts_46 : decode nCastSearch_readLifts.2.1 46 = .ok (.getfield 9, 3) := by decide +kernel
theorem dCastSearch_readLifts_49 : decode nCastSearch_readLifts.2.1 49 = .ok (.iload_n 3, 1) := by decide +kernel
theorem dCastSearch_readLifts_50 : decode nCastSearch_readLifts.2.1 50 = .ok (.invokevirtual 90, 3) := by decide +kernel
theorem dCastSearch_readLifts_53 : decode nCastSearch_readLifts.2.1 53 = .ok (.ifCond .eq 18, 3) := by decide +kernel
theorem dCastSearch_readLifts_56 : decode nCastSearch_readLifts.2.1 56 = .ok (.aload_n 0, 1) := by decide +kernel
theorem dCastSearch_readLifts_57 : decode nCastSearch_readLifts.2.1 57 = .ok (.getfield 35, 3) := by decide +kernel
theorem dCastSearch_readLifts_60 : decode nCastSearch_readLifts.2.1 60 = .ok (.iload_n 2, 1) := by decide +kernel
theorem dCastSearch_readLifts_61 : decode nCastSearch_readLifts.2.1 61 = .ok (.bipush 8, 2) := by decide +kernel
theorem dCastSearch_readLifts_63 : decode nCastSearch_readLifts.2.1 63 = .ok (.imul, 1) := by decide +kernel
theorem dCastSearch_readLifts_64 : decode nCastSearch_readLifts.2.1 64 = .ok (.iload_n 3, 1) := by decide +kernel
theorem dCastSearch_readLifts_65 : decode nCastSearch_readLifts.2.1 65 = .ok (.iadd, 1) := by decide +kernel
theorem dCastSearch_readLifts_66 : decode nCastSearch_readLifts.2.1 66 = .ok (.dup2, 1) := by decide +kernel
theorem dCastSearch_readLifts_67 : decode nCastSearch_readLifts.2.1 67 = .ok (.iaload, 1) := by decide +kernel
theorem dCastSearch_readLifts_68 : decode nCastSearch_readLifts.2.1 68 = .ok (.iconst 1, 1) := by decide +kernel
theorem dCastSearch_readLifts_69 : decode nCastSearch_readLifts.2.1 69 = .ok (.iadd, 1) := by decide +kernel
theorem dCastSearch_readLifts_70 : decode nCastSearch_readLifts.2.1 70 = .ok (.iastore, 1) := by decide +kernel
theorem dCastSearch_readLifts_71 : decode nCastSearch_readLifts.2.1 71 = .ok (.iinc 1 1, 3) := by decide +kernel
theorem dCastSearch_readLifts_74 : decode nCastSearch_readLifts.2.1 74 = .ok (.goto (-64), 3) := by decide +kernel
theorem dCastSearch_readLifts_77 : decode nCastSearch_readLifts.2.1 77 = .ok (.return_, 1) := by decide +kernel
theorem dCastSearch_seek_0 : decode nCastSearch_seek.2.1 0 = .ok (.aload_n 0, 1) := by decide +kernel
theorem dCastSearch_seek_1 : decode nCastSearch_seek.2.1 1 = .ok (.getfield 9, 3) := by decide +kernel
theorem dCastSearch_seek_4 : decode nCastSearch_seek.2.1 4 = .ok (.iload_n 1, 1) := by decide +kernel
theorem dCastSearch_seek_5 : decode nCastSearch_seek.2.1 5 = .ok (.invokevirtual 90, 3) := by decide +kernel
theorem dCastSearch_seek_8 : decode nCastSearch_seek.2.1 8 = .ok (.ifCond .ne 9, 3) := by decide +kernel
theorem dCastSearch_seek_11 : decode nCastSearch_seek.2.1 11 = .ok (.aload_n 0, 1) := by decide +kernel
theorem dCastSearch_seek_12 : decode nCastSearch_seek.2.1 12 = .ok (.iload_n 2, 1) := by decide +kernel
theorem dCastSearch_seek_13 : decode nCastSearch_seek.2.1 13 = .ok (.invokevirtual 139, 3) := by decide +kernel
theorem dCastSearch_seek_16 : decode nCastSearch_seek.2.1 16 = .ok (.return_, 1) := by decide +kernel
theorem dCastSearch_seek_17 : decode nCastSearch_seek.2.1 17 = .ok (.aload_n 0, 1) := by decide +kernel
theorem dCastSearch_seek_18 : decode nCastSearch_seek.2.1 18 = .ok (.getfield 19, 3) := by decide +kernel
theorem dCastSearch_seek_21 : decode nCastSearch_seek.2.1 21 = .ok (.iload_n 1, 1) := by decide +kernel
theorem dCastSearch_seek_22 : decode nCastSearch_seek.2.1 22 = .ok (.iaload, 1) := by decide +kernel
theorem dCastSearch_seek_23 : decode nCastSearch_seek.2.1 23 = .ok (.aload_n 0, 1) := by decide +kernel
theorem dCastSearch_seek_24 : decode nCastSearch_seek.2.1 24 = .ok (.iload_n 1, 1) := by decide +kernel
theorem dCastSearch_seek_25 : decode nCastSearch_seek.2.1 25 = .ok (.invokevirtual 142, 3) := by decide +kernel
theorem dCastSearch_seek_28 : decode nCastSearch_seek.2.1 28 = .ok (.iconst (-1), 1) := by decide +kernel
theorem dCastSearch_seek_29 : decode nCastSearch_seek.2.1 29 = .ok (.ixor, 1) := by decide +kernel
theorem dCastSearch_seek_30 : decode nCastSearch_seek.2.1 30 = .ok (.iand, 1) := by decide +kernel
theorem dCastSearch_seek_31 : decode nCastSearch_seek.2.1 31 = .ok (.istore_n 3, 1) := by decide +kernel
theorem dCastSearch_seek_32 : decode nCastSearch_seek.2.1 32 = .ok (.iconst 0, 1) := by decide +kernel
theorem dCastSearch_seek_33 : decode nCastSearch_seek.2.1 33 = .ok (.istore 4, 2) := by decide +kernel
theorem dCastSearch_seek_35 : decode nCastSearch_seek.2.1 35 = .ok (.iload 4, 2) := by decide +kernel
theorem dCastSearch_seek_37 : decode nCastSearch_seek.2.1 37 = .ok (.aload_n 0, 1) := by decide +kernel
theorem dCastSearch_seek_38 : decode nCastSearch_seek.2.1 38 = .ok (.getfield 15, 3) := by decide +kernel
theorem dCastSearch_seek_41 : decode nCastSearch_seek.2.1 41 = .ok (.invokevirtual 103, 3) := by decide +kernel
theorem dCastSearch_seek_44 : decode nCastSearch_seek.2.1 44 = .ok (.if_icmp .ge 35, 3) := by decide +kernel
theorem dCastSearch_seek_47 : decode nCastSearch_seek.2.1 47 = .ok (.iload_n 3, 1) := by decide +kernel
theorem dCastSearch_seek_48 : decode nCastSearch_seek.2.1 48 = .ok (.iload 4, 2) := by decide +kernel
theorem dCastSearch_seek_50 : decode nCastSearch_seek.2.1 50 = .ok (.ishr, 1) := by decide +kernel
theorem dCastSearch_seek_51 : decode nCastSearch_seek.2.1 51 = .ok (.iconst 1, 1) := by decide +kernel
theorem dCastSearch_seek_52 : decode nCastSearch_seek.2.1 52 = .ok (.iand, 1) := by decide +kernel
theorem dCastSearch_seek_53 : decode nCastSearch_seek.2.1 53 = .ok (.iconst 1, 1) := by decide +kernel
theorem dCastSearch_seek_54 : decode nCastSearch_seek.2.1 54 = .ok (.if_icmp .ne 11, 3) := by decide +kernel
theorem dCastSearch_seek_57 : decode nCastSearch_seek.2.1 57 = .ok (.aload_n 0, 1) := by decide +kernel
theorem dCastSearch_seek_58 : decode nCastSearch_seek.2.1 58 = .ok (.iload_n 1, 1) := by decide +kernel
theorem dCastSearch_seek_59 : decode nCastSearch_seek.2.1 59 = .ok (.iload 4, 2) := by decide +kernel
theorem dCastSearch_seek_61 : decode nCastSearch_seek.2.1 61 = .ok (.iload_n 2, 1) := by decide +kernel
theorem dCastSearch_seek_62 : decode nCastSearch_seek.2.1 62 = .ok (.invokevirtual 145, 3) := by decide +kernel
theorem dCastSearch_seek_65 : decode nCastSearch_seek.2.1 65 = .ok (.aload_n 0, 1) := by decide +kernel
theorem dCastSearch_seek_66 : decode nCastSearch_seek.2.1 66 = .ok (.getfield 81, 3) := by decide +kernel
theorem dCastSearch_seek_69 : decode nCastSearch_seek.2.1 69 = .ok (.ifCond .eq 4, 3) := by decide +kernel
theorem dCastSearch_seek_72 : decode nCastSearch_seek.2.1 72 = .ok (.return_, 1) := by decide +kernel
theorem dCastSearch_seek_73 : decode nCastSearch_seek.2.1 73 = .ok (.iinc 4 1, 3) := by decide +kernel
theorem dCastSearch_seek_76 : decode nCastSearch_seek.2.1 76 = .ok (.goto (-41), 3) := by decide +kernel
theorem dCastSearch_seek_79 : decode nCastSearch_seek.2.1 79 = .ok (.aload_n 0, 1) := by decide +kernel
theorem dCastSearch_seek_80 : decode nCastSearch_seek.2.1 80 = .ok (.getfield 38, 3) := by decide +kernel
theorem dCastSearch_seek_83 : decode nCastSearch_seek.2.1 83 = .ok (.iload_n 1, 1) := by decide +kernel
theorem dCastSearch_seek_84 : decode nCastSearch_seek.2.1 84 = .ok (.ldc 94, 2) := by decide +kernel
theorem dCastSearch_seek_86 : decode nCastSearch_seek.2.1 86 = .ok (.iastore, 1) := by decide +kernel
theorem dCastSearch_seek_87 : decode nCastSearch_seek.2.1 87 = .ok (.aload_n 0, 1) := by decide +kernel
theorem dCastSearch_seek_88 : decode nCastSearch_seek.2.1 88 = .ok (.iload_n 1, 1) := by decide +kernel
theorem dCastSearch_seek_89 : decode nCastSearch_seek.2.1 89 = .ok (.iconst 1, 1) := by decide +kernel
theorem dCastSearch_seek_90 : decode nCastSearch_seek.2.1 90 = .ok (.iadd, 1) := by decide +kernel
theorem dCastSearch_seek_91 : decode nCastSearch_seek.2.1 91 = .ok (.iload_n 2, 1) := by decide +kernel
theorem dCastSearch_seek_92 : decode nCastSearch_seek.2.1 92 = .ok (.aload_n 0, 1) := by decide +kernel
theorem dCastSearch_seek_93 : decode nCastSearch_seek.2.1 93 = .ok (.getfield 29, 3) := by decide +kernel
theorem dCastSearch_seek_96 : decode nCastSearch_seek.2.1 96 = .ok (.iload_n 1, 1) := by decide +kernel
theorem dCastSearch_seek_97 : decode nCastSearch_seek.2.1 97 = .ok (.iaload, 1) := by decide +kernel
theorem dCastSearch_seek_98 : decode nCastSearch_seek.2.1 98 = .ok (.iadd, 1) := by decide +kernel
theorem dCastSearch_seek_99 : decode nCastSearch_seek.2.1 99 = .ok (.aload_n 0, 1) := by decide +kernel
theorem dCastSearch_seek_100 : decode nCastSearch_seek.2.1 100 = .ok (.iload_n 1, 1) := by decide +kernel
theorem dCastSearch_seek_101 : decode nCastSearch_seek.2.1 101 = .ok (.invokevirtual 149, 3) := by decide +kernel
theorem dCastSearch_seek_104 : decode nCastSearch_seek.2.1 104 = .ok (.iadd, 1) := by decide +kernel
theorem dCastSearch_seek_105 : decode nCastSearch_seek.2.1 105 = .ok (.invokevirtual 85, 3) := by decide +kernel
theorem dCastSearch_seek_108 : decode nCastSearch_seek.2.1 108 = .ok (.return_, 1) := by decide +kernel
theorem dCastSearch_tryPerson_0 : decode nCastSearch_tryPerson.2.1 0 = .ok (.aload_n 0, 1) := by decide +kernel
theorem dCastSearch_tryPerson_1 : decode nCastSearch_tryPerson.2.1 1 = .ok (.getfield 78, 3) := by decide +kernel
theorem dCastSearch_tryPerson_4 : decode nCastSearch_tryPerson.2.1 4 = .ok (.ifCond .gt 9, 3) := by decide +kernel
theorem dCastSearch_tryPerson_7 : decode nCastSearch_tryPerson.2.1 7 = .ok (.aload_n 0, 1) := by decide +kernel
theorem dCastSearch_tryPerson_8 : decode nCastSearch_tryPerson.2.1 8 = .ok (.iconst 1, 1) := by decide +kernel
theorem dCastSearch_tryPerson_9 : decode nCastSearch_tryPerson.2.1 9 = .ok (.putfield 81, 3) := by decide +kernel
theorem dCastSearch_tryPerson_12 : decode nCastSearch_tryPerson.2.1 12 = .ok (.return_, 1) := by decide +kernel
theorem dCastSearch_tryPerson_13 : decode nCastSearch_tryPerson.2.1 13 = .ok (.aload_n 0, 1) := by decide +kernel
theorem dCastSearch_tryPerson_14 : decode nCastSearch_tryPerson.2.1 14 = .ok (.dup, 1) := by decide +kernel
theorem dCastSearch_tryPerson_15 : decode nCastSearch_tryPerson.2.1 15 = .ok (.getfield 78, 3) := by decide +kernel
theorem dCastSearch_tryPerson_18 : decode nCastSearch_tryPerson.2.1 18 = .ok (.iconst 1, 1) := by decide +kernel
theorem dCastSearch_tryPerson_19 : decode nCastSearch_tryPerson.2.1 19 = .ok (.isub, 1) := by decide +kernel
theorem dCastSearch_tryPerson_20 : decode nCastSearch_tryPerson.2.1 20 = .ok (.putfield 78, 3) := by decide +kernel
theorem dCastSearch_tryPerson_23 : decode nCastSearch_tryPerson.2.1 23 = .ok (.aload_n 0, 1) := by decide +kernel
theorem dCastSearch_tryPerson_24 : decode nCastSearch_tryPerson.2.1 24 = .ok (.getfield 38, 3) := by decide +kernel
theorem dCastSearch_tryPerson_27 : decode nCastSearch_tryPerson.2.1 27 = .ok (.iload_n 1, 1) := by decide +kernel
theorem dCastSearch_tryPerson_28 : decode nCastSearch_tryPerson.2.1 28 = .ok (.iload_n 2, 1) := by decide +kernel
theorem dCastSearch_tryPerson_29 : decode nCastSearch_tryPerson.2.1 29 = .ok (.iastore, 1) := by decide +kernel
theorem dCastSearch_tryPerson_30 : decode nCastSearch_tryPerson.2.1 30 = .ok (.aload_n 0, 1) := by decide +kernel
theorem dCastSearch_tryPerson_31 : decode nCastSearch_tryPerson.2.1 31 = .ok (.getfield 41, 3) := by decide +kernel
theorem dCastSearch_tryPerson_34 : decode nCastSearch_tryPerson.2.1 34 = .ok (.iload_n 2, 1) := by decide +kernel
theorem dCastSearch_tryPerson_35 : decode nCastSearch_tryPerson.2.1 35 = .ok (.iaload, 1) := by decide +kernel
theorem dCastSearch_tryPerson_36 : decode nCastSearch_tryPerson.2.1 36 = .ok (.ifCond .le 7, 3) := by decide +kernel
theorem dCastSearch_tryPerson_39 : decode nCastSearch_tryPerson.2.1 39 = .ok (.iconst 4, 1) := by decide +kernel
theorem dCastSearch_tryPerson_40 : decode nCastSearch_tryPerson.2.1 40 = .ok (.goto 4, 3) := by decide +kernel
theorem dCastSearch_tryPerson_43 : decode nCastSearch_tryPerson.2.1 43 = .ok (.iconst 0, 1) := by decide +kernel
theorem dCastSearch_tryPerson_44 : decode nCastSearch_tryPerson.2.1 44 = .ok (.istore 4, 2) := by decide +kernel
theorem dCastSearch_tryPerson_46 : decode nCastSearch_tryPerson.2.1 46 = .ok (.aload_n 0, 1) := by decide +kernel
theorem dCastSearch_tryPerson_47 : decode nCastSearch_tryPerson.2.1 47 = .ok (.getfield 41, 3) := by decide +kernel
theorem dCastSearch_tryPerson_50 : decode nCastSearch_tryPerson.2.1 50 = .ok (.iload_n 2, 1) := by decide +kernel
theorem dCastSearch_tryPerson_51 : decode nCastSearch_tryPerson.2.1 51 = .ok (.dup2, 1) := by decide +kernel
theorem dCastSearch_tryPerson_52 : decode nCastSearch_tryPerson.2.1 52 = .ok (.iaload, 1) := by decide +kernel
theorem dCastSearch_tryPerson_53 : decode nCastSearch_tryPerson.2.1 53 = .ok (.iconst 1, 1) := by decide +kernel
theorem dCastSearch_tryPerson_54 : decode nCastSearch_tryPerson.2.1 54 = .ok (.iadd, 1) := by decide +kernel
theorem dCastSearch_tryPerson_55 : decode nCastSearch_tryPerson.2.1 55 = .ok (.iastore, 1) := by decide +kernel
theorem dCastSearch_tryPerson_56 : decode nCastSearch_tryPerson.2.1 56 = .ok (.aload_n 0, 1) := by decide +kernel
theorem dCastSearch_tryPerson_57 : decode nCastSearch_tryPerson.2.1 57 = .ok (.iload_n 1, 1) := by decide +kernel
theorem dCastSearch_tryPerson_58 : decode nCastSearch_tryPerson.2.1 58 = .ok (.iconst 1, 1) := by decide +kernel
theorem dCastSearch_tryPerson_59 : decode nCastSearch_tryPerson.2.1 59 = .ok (.iadd, 1) := by decide +kernel
theorem dCastSearch_tryPerson_60 : decode nCastSearch_tryPerson.2.1 60 = .ok (.iload_n 3, 1) := by decide +kernel
theorem dCastSearch_tryPerson_61 : decode nCastSearch_tryPerson.2.1 61 = .ok (.aload_n 0, 1) := by decide +kernel
theorem dCastSearch_tryPerson_62 : decode nCastSearch_tryPerson.2.1 62 = .ok (.getfield 32, 3) := by decide +kernel
theorem dCastSearch_tryPerson_65 : decode nCastSearch_tryPerson.2.1 65 = .ok (.iload_n 1, 1) := by decide +kernel
theorem dCastSearch_tryPerson_66 : decode nCastSearch_tryPerson.2.1 66 = .ok (.bipush 10, 2) := by decide +kernel
theorem dCastSearch_tryPerson_68 : decode nCastSearch_tryPerson.2.1 68 = .ok (.imul, 1) := by decide +kernel
theorem dCastSearch_tryPerson_69 : decode nCastSearch_tryPerson.2.1 69 = .ok (.iload_n 2, 1) := by decide +kernel
theorem dCastSearch_tryPerson_70 : decode nCastSearch_tryPerson.2.1 70 = .ok (.iadd, 1) := by decide +kernel
theorem dCastSearch_tryPerson_71 : decode nCastSearch_tryPerson.2.1 71 = .ok (.iaload, 1) := by decide +kernel
theorem dCastSearch_tryPerson_72 : decode nCastSearch_tryPerson.2.1 72 = .ok (.iadd, 1) := by decide +kernel
theorem dCastSearch_tryPerson_73 : decode nCastSearch_tryPerson.2.1 73 = .ok (.iload 4, 2) := by decide +kernel
theorem dCastSearch_tryPerson_75 : decode nCastSearch_tryPerson.2.1 75 = .ok (.iadd, 1) := by decide +kernel
theorem dCastSearch_tryPerson_76 : decode nCastSearch_tryPerson.2.1 76 = .ok (.aload_n 0, 1) := by decide +kernel
theorem dCastSearch_tryPerson_77 : decode nCastSearch_tryPerson.2.1 77 = .ok (.iload_n 1, 1) := by decide +kernel
theorem dCastSearch_tryPerson_78 : decode nCastSearch_tryPerson.2.1 78 = .ok (.invokevirtual 149, 3) := by decide +kernel
theorem dCastSearch_tryPerson_81 : decode nCastSearch_tryPerson.2.1 81 = .ok (.iadd, 1) := by decide +kernel
theorem dCastSearch_tryPerson_82 : decode nCastSearch_tryPerson.2.1 82 = .ok (.invokevirtual 85, 3) := by decide +kernel
theorem dCastSearch_tryPerson_85 : decode nCastSearch_tryPerson.2.1 85 = .ok (.aload_n 0, 1) := by decide +kernel
theorem dCastSearch_tryPerson_86 : decode nCastSearch_tryPerson.2.1 86 = .ok (.getfield 41, 3) := by decide +kernel
theorem dCastSearch_tryPerson_89 : decode nCastSearch_tryPerson.2.1 89 = .ok (.iload_n 2, 1) := by decide +kernel
theorem dCastSearch_tryPerson_90 : decode nCastSearch_tryPerson.2.1 90 = .ok (.dup2, 1) := by decide +kernel
theorem dCastSearch_tryPerson_91 : decode nCastSearch_tryPerson.2.1 91 = .ok (.iaload, 1) := by decide +kernel
theorem dCastSearch_tryPerson_92 : decode nCastSearch_tryPerson.2.1 92 = .ok (.iconst 1, 1) := by decide +kernel
theorem dCastSearch_tryPerson_93 : decode nCastSearch_tryPerson.2.1 93 = .ok (.isub, 1) := by decide +kernel
theorem dCastSearch_tryPerson_94 : decode nCastSearch_tryPerson.2.1 94 = .ok (.iastore, 1) := by decide +kernel
theorem dCastSearch_tryPerson_95 : decode nCastSearch_tryPerson.2.1 95 = .ok (.return_, 1) := by decide +kernel
theorem dCastSearch_keepIfLess_0 : decode nCastSearch_keepIfLess.2.1 0 = .ok (.iload_n 1, 1) := by decide +kernel
theorem dCastSearch_keepIfLess_1 : decode nCastSearch_keepIfLess.2.1 1 = .ok (.aload_n 0, 1) := by decide +kernel
theorem dCastSearch_keepIfLess_2 : decode nCastSearch_keepIfLess.2.1 2 = .ok (.getfield 74, 3) := by decide +kernel
theorem dCastSearch_keepIfLess_5 : decode nCastSearch_keepIfLess.2.1 5 = .ok (.if_icmp .ge 23, 3) := by decide +kernel
theorem dCastSearch_keepIfLess_8 : decode nCastSearch_keepIfLess.2.1 8 = .ok (.aload_n 0, 1) := by decide +kernel
theorem dCastSearch_keepIfLess_9 : decode nCastSearch_keepIfLess.2.1 9 = .ok (.iload_n 1, 1) := by decide +kernel
theorem dCastSearch_keepIfLess_10 : decode nCastSearch_keepIfLess.2.1 10 = .ok (.putfield 74, 3) := by decide +kernel
theorem dCastSearch_keepIfLess_13 : decode nCastSearch_keepIfLess.2.1 13 = .ok (.aload_n 0, 1) := by decide +kernel
theorem dCastSearch_keepIfLess_14 : decode nCastSearch_keepIfLess.2.1 14 = .ok (.getfield 38, 3) := by decide +kernel
theorem dCastSearch_keepIfLess_17 : decode nCastSearch_keepIfLess.2.1 17 = .ok (.iconst 0, 1) := by decide +kernel
theorem dCastSearch_keepIfLess_18 : decode nCastSearch_keepIfLess.2.1 18 = .ok (.aload_n 0, 1) := by decide +kernel
theorem dCastSearch_keepIfLess_19 : decode nCastSearch_keepIfLess.2.1 19 = .ok (.getfield 44, 3) := by decide +kernel
theorem dCastSearch_keepIfLess_22 : decode nCastSearch_keepIfLess.2.1 22 = .ok (.iconst 0, 1) := by decide +kernel
theorem dCastSearch_keepIfLess_23 : decode nCastSearch_keepIfLess.2.1 23 = .ok (.bipush 8, 2) := by decide +kernel
theorem dCastSearch_keepIfLess_25 : decode nCastSearch_keepIfLess.2.1 25 = .ok (.invokestatic 152, 3) := by decide +kernel
theorem dCastSearch_keepIfLess_28 : decode nCastSearch_keepIfLess.2.1 28 = .ok (.return_, 1) := by decide +kernel
theorem dCastSearch_barred_0 : decode nCastSearch_barred.2.1 0 = .ok (.iconst 0, 1) := by decide +kernel
theorem dCastSearch_barred_1 : decode nCastSearch_barred.2.1 1 = .ok (.istore_n 2, 1) := by decide +kernel
theorem dCastSearch_barred_2 : decode nCastSearch_barred.2.1 2 = .ok (.iconst 0, 1) := by decide +kernel
theorem dCastSearch_barred_3 : decode nCastSearch_barred.2.1 3 = .ok (.istore_n 3, 1) := by decide +kernel
theorem dCastSearch_barred_4 : decode nCastSearch_barred.2.1 4 = .ok (.iload_n 3, 1) := by decide +kernel
theorem dCastSearch_barred_5 : decode nCastSearch_barred.2.1 5 = .ok (.iload_n 1, 1) := by decide +kernel
theorem dCastSearch_barred_6 : decode nCastSearch_barred.2.1 6 = .ok (.if_icmp .ge 78, 3) := by decide +kernel
theorem dCastSearch_barred_9 : decode nCastSearch_barred.2.1 9 = .ok (.aload_n 0, 1) := by decide +kernel
theorem dCastSearch_barred_10 : decode nCastSearch_barred.2.1 10 = .ok (.getfield 38, 3) := by decide +kernel
theorem dCastSearch_barred_13 : decode nCastSearch_barred.2.1 13 = .ok (.iload_n 3, 1) := by decide +kernel
theorem dCastSearch_barred_14 : decode nCastSearch_barred.2.1 14 = .ok (.iaload, 1) := by decide +kernel
theorem dCastSearch_barred_15 : decode nCastSearch_barred.2.1 15 = .ok (.istore 4, 2) := by decide +kernel
theorem dCastSearch_barred_17 : decode nCastSearch_barred.2.1 17 = .ok (.iload 4, 2) := by decide +kernel
theorem dCastSearch_barred_19 : decode nCastSearch_barred.2.1 19 = .ok (.ldc 94, 2) := by decide +kernel
theorem dCastSearch_barred_21 : decode nCastSearch_barred.2.1 21 = .ok (.if_icmp .eq 24, 3) := by decide +kernel
theorem dCastSearch_barred_24 : decode nCastSearch_barred.2.1 24 = .ok (.aload_n 0, 1) := by decide +kernel
theorem dCastSearch_barred_25 : decode nCastSearch_barred.2.1 25 = .ok (.getfield 23, 3) := by decide +kernel
theorem dCastSearch_barred_28 : decode nCastSearch_barred.2.1 28 = .ok (.iload_n 1, 1) := by decide +kernel
theorem dCastSearch_barred_29 : decode nCastSearch_barred.2.1 29 = .ok (.iaload, 1) := by decide +kernel
theorem dCastSearch_barred_30 : decode nCastSearch_barred.2.1 30 = .ok (.iload_n 3, 1) := by decide +kernel
theorem dCastSearch_barred_31 : decode nCastSearch_barred.2.1 31 = .ok (.ishr, 1) := by decide +kernel
theorem dCastSearch_barred_32 : decode nCastSearch_barred.2.1 32 = .ok (.iconst 1, 1) := by decide +kernel
theorem dCastSearch_barred_33 : decode nCastSearch_barred.2.1 33 = .ok (.iand, 1) := by decide +kernel
theorem dCastSearch_barred_34 : decode nCastSearch_barred.2.1 34 = .ok (.iconst 1, 1) := by decide +kernel
theorem dCastSearch_barred_35 : decode nCastSearch_barred.2.1 35 = .ok (.if_icmp .ne 10, 3) := by decide +kernel
theorem dCastSearch_barred_38 : decode nCastSearch_barred.2.1 38 = .ok (.iload_n 2, 1) := by decide +kernel
theorem dCastSearch_barred_39 : decode nCastSearch_barred.2.1 39 = .ok (.iconst 1, 1) := by decide +kernel
theorem dCastSearch_barred_40 : decode nCastSearch_barred.2.1 40 = .ok (.iload 4, 2) := by decide +kernel
theorem dCastSearch_barred_42 : decode nCastSearch_barred.2.1 42 = .ok (.ishl, 1) := by decide +kernel
theorem dCastSearch_barred_43 : decode nCastSearch_barred.2.1 43 = .ok (.ior, 1) := by decide +kernel
theorem dCastSearch_barred_44 : decode nCastSearch_barred.2.1 44 = .ok (.istore_n 2, 1) := by decide +kernel
theorem dCastSearch_barred_45 : decode nCastSearch_barred.2.1 45 = .ok (.iload 4, 2) := by decide +kernel
theorem dCastSearch_barred_47 : decode nCastSearch_barred.2.1 47 = .ok (.ldc 94, 2) := by decide +kernel
theorem dCastSearch_barred_49 : decode nCastSearch_barred.2.1 49 = .ok (.if_icmp .eq 29, 3) := by decide +kernel
theorem dCastSearch_barred_52 : decode nCastSearch_barred.2.1 52 = .ok (.aload_n 0, 1) := by decide +kernel
theorem dCastSearch_barred_53 : decode nCastSearch_barred.2.1 53 = .ok (.getfield 26, 3) := by decide +kernel
theorem dCastSearch_barred_56 : decode nCastSearch_barred.2.1 56 = .ok (.iload_n 1, 1) := by decide +kernel
theorem dCastSearch_barred_57 : decode nCastSearch_barred.2.1 57 = .ok (.iaload, 1) := by decide +kernel
theorem dCastSearch_barred_58 : decode nCastSearch_barred.2.1 58 = .ok (.iload_n 3, 1) := by decide +kernel
theorem dCastSearch_barred_59 : decode nCastSearch_barred.2.1 59 = .ok (.ishr, 1) := by decide +kernel
theorem dCastSearch_barred_60 : decode nCastSearch_barred.2.1 60 = .ok (.iconst 1, 1) := by decide +kernel
theorem dCastSearch_barred_61 : decode nCastSearch_barred.2.1 61 = .ok (.iand, 1) := by decide +kernel
theorem dCastSearch_barred_62 : decode nCastSearch_barred.2.1 62 = .ok (.iconst 1, 1) := by decide +kernel
theorem dCastSearch_barred_63 : decode nCastSearch_barred.2.1 63 = .ok (.if_icmp .ne 15, 3) := by decide +kernel
theorem dCastSearch_barred_66 : decode nCastSearch_barred.2.1 66 = .ok (.iload_n 2, 1) := by decide +kernel
theorem dCastSearch_barred_67 : decode nCastSearch_barred.2.1 67 = .ok (.aload_n 0, 1) := by decide +kernel
theorem dCastSearch_barred_68 : decode nCastSearch_barred.2.1 68 = .ok (.getfield 15, 3) := by decide +kernel
theorem dCastSearch_barred_71 : decode nCastSearch_barred.2.1 71 = .ok (.iload 4, 2) := by decide +kernel
theorem dCastSearch_barred_73 : decode nCastSearch_barred.2.1 73 = .ok (.invokevirtual 158, 3) := by decide +kernel
theorem dCastSearch_barred_76 : decode nCastSearch_barred.2.1 76 = .ok (.ior, 1) := by decide +kernel
theorem dCastSearch_barred_77 : decode nCastSearch_barred.2.1 77 = .ok (.istore_n 2, 1) := by decide +kernel
theorem dCastSearch_barred_78 : decode nCastSearch_barred.2.1 78 = .ok (.iinc 3 1, 3) := by decide +kernel
theorem dCastSearch_barred_81 : decode nCastSearch_barred.2.1 81 = .ok (.goto (-77), 3) := by decide +kernel
theorem dCastSearch_barred_84 : decode nCastSearch_barred.2.1 84 = .ok (.iload_n 2, 1) := by decide +kernel
theorem dCastSearch_barred_85 : decode nCastSearch_barred.2.1 85 = .ok (.ireturn, 1) := by decide +kernel
theorem dCastSearch_liftLoss_0 : decode nCastSearch_liftLoss.2.1 0 = .ok (.iconst 0, 1) := by decide +kernel
theorem dCastSearch_liftLoss_1 : decode nCastSearch_liftLoss.2.1 1 = .ok (.istore_n 2, 1) := by decide +kernel
theorem dCastSearch_liftLoss_2 : decode nCastSearch_liftLoss.2.1 2 = .ok (.iconst 0, 1) := by decide +kernel
theorem dCastSearch_liftLoss_3 : decode nCastSearch_liftLoss.2.1 3 = .ok (.istore_n 3, 1) := by decide +kernel
theorem dCastSearch_liftLoss_4 : decode nCastSearch_liftLoss.2.1 4 = .ok (.iload_n 3, 1) := by decide +kernel
theorem dCastSearch_liftLoss_5 : decode nCastSearch_liftLoss.2.1 5 = .ok (.iload_n 1, 1) := by decide +kernel
theorem dCastSearch_liftLoss_6 : decode nCastSearch_liftLoss.2.1 6 = .ok (.if_icmp .ge 109, 3) := by decide +kernel
theorem dCastSearch_liftLoss_9 : decode nCastSearch_liftLoss.2.1 9 = .ok (.aload_n 0, 1) := by decide +kernel
theorem dCastSearch_liftLoss_10 : decode nCastSearch_liftLoss.2.1 10 = .ok (.getfield 35, 3) := by decide +kernel
theorem dCastSearch_liftLoss_13 : decode nCastSearch_liftLoss.2.1 13 = .ok (.iload_n 1, 1) := by decide +kernel
theorem dCastSearch_liftLoss_14 : decode nCastSearch_liftLoss.2.1 14 = .ok (.bipush 8, 2) := by decide +kernel
theorem dCastSearch_liftLoss_16 : decode nCastSearch_liftLoss.2.1 16 = .ok (.imul, 1) := by decide +kernel
theorem dCastSearch_liftLoss_17 : decode nCastSearch_liftLoss.2.1 17 = .ok (.iload_n 3, 1) := by decide +kernel
theorem dCastSearch_liftLoss_18 : decode nCastSearch_liftLoss.2.1 18 = .ok (.iadd, 1) := by decide +kernel
theorem dCastSearch_liftLoss_19 : decode nCastSearch_liftLoss.2.1 19 = .ok (.iaload, 1) := by decide +kernel
theorem dCastSearch_liftLoss_20 : decode nCastSearch_liftLoss.2.1 20 = .ok (.istore 4, 2) := by decide +kernel
theorem dCastSearch_liftLoss_22 : decode nCastSearch_liftLoss.2.1 22 = .ok (.aload_n 0, 1) := by decide +kernel
theorem dCastSearch_liftLoss_23 : decode nCastSearch_liftLoss.2.1 23 = .ok (.getfield 35, 3) := by decide +kernel
theorem dCastSearch_liftLoss_26 : decode nCastSearch_liftLoss.2.1 26 = .ok (.iload_n 3, 1) := by decide +kernel
theorem dCastSearch_liftLoss_27 : decode nCastSearch_liftLoss.2.1 27 = .ok (.bipush 8, 2) := by decide +kernel
theorem dCastSearch_liftLoss_29 : decode nCastSearch_liftLoss.2.1 29 = .ok (.imul, 1) := by decide +kernel
theorem dCastSearch_liftLoss_30 : decode nCastSearch_liftLoss.2.1 30 = .ok (.iload_n 1, 1) := by decide +kernel
theorem dCastSearch_liftLoss_31 : decode nCastSearch_liftLoss.2.1 31 = .ok (.iadd, 1) := by decide +kernel
theorem dCastSearch_liftLoss_32 : decode nCastSearch_liftLoss.2.1 32 = .ok (.iaload, 1) := by decide +kernel
theorem dCastSearch_liftLoss_33 : decode nCastSearch_liftLoss.2.1 33 = .ok (.istore 5, 2) := by decide +kernel
theorem dCastSearch_liftLoss_35 : decode nCastSearch_liftLoss.2.1 35 = .ok (.iload 4, 2) := by decide +kernel
theorem dCastSearch_liftLoss_37 : decode nCastSearch_liftLoss.2.1 37 = .ok (.ifCond .le 35, 3) := by decide +kernel
theorem dCastSearch_liftLoss_40 : decode nCastSearch_liftLoss.2.1 40 = .ok (.aload_n 0, 1) := by decide +kernel
theorem dCastSearch_liftLoss_41 : decode nCastSearch_liftLoss.2.1 41 = .ok (.getfield 15, 3) := by decide +kernel
theorem dCastSearch_liftLoss_44 : decode nCastSearch_liftLoss.2.1 44 = .ok (.aload_n 0, 1) := by decide +kernel
theorem dCastSearch_liftLoss_45 : decode nCastSearch_liftLoss.2.1 45 = .ok (.getfield 38, 3) := by decide +kernel
theorem dCastSearch_liftLoss_48 : decode nCastSearch_liftLoss.2.1 48 = .ok (.iload_n 1, 1) := by decide +kernel
theorem dCastSearch_liftLoss_49 : decode nCastSearch_liftLoss.2.1 49 = .ok (.iaload, 1) := by decide +kernel
theorem dCastSearch_liftLoss_50 : decode nCastSearch_liftLoss.2.1 50 = .ok (.iload_n 1, 1) := by decide +kernel
theorem dCastSearch_liftLoss_51 : decode nCastSearch_liftLoss.2.1 51 = .ok (.aload_n 0, 1) := by decide +kernel
theorem dCastSearch_liftLoss_52 : decode nCastSearch_liftLoss.2.1 52 = .ok (.getfield 38, 3) := by decide +kernel
theorem dCastSearch_liftLoss_55 : decode nCastSearch_liftLoss.2.1 55 = .ok (.iload_n 3, 1) := by decide +kernel
theorem dCastSearch_liftLoss_56 : decode nCastSearch_liftLoss.2.1 56 = .ok (.iaload, 1) := by decide +kernel
theorem dCastSearch_liftLoss_57 : decode nCastSearch_liftLoss.2.1 57 = .ok (.iload_n 3, 1) := by decide +kernel
theorem dCastSearch_liftLoss_58 : decode nCastSearch_liftLoss.2.1 58 = .ok (.invokevirtual 161, 3) := by decide +kernel
theorem dCastSearch_liftLoss_61 : decode nCastSearch_liftLoss.2.1 61 = .ok (.ifCond .ne 11, 3) := by decide +kernel
theorem dCastSearch_liftLoss_64 : decode nCastSearch_liftLoss.2.1 64 = .ok (.iload_n 2, 1) := by decide +kernel
theorem dCastSearch_liftLoss_65 : decode nCastSearch_liftLoss.2.1 65 = .ok (.iload 4, 2) := by decide +kernel
theorem dCastSearch_liftLoss_67 : decode nCastSearch_liftLoss.2.1 67 = .ok (.bipush 6, 2) := by decide +kernel
theorem dCastSearch_liftLoss_69 : decode nCastSearch_liftLoss.2.1 69 = .ok (.imul, 1) := by decide +kernel
theorem dCastSearch_liftLoss_70 : decode nCastSearch_liftLoss.2.1 70 = .ok (.iadd, 1) := by decide +kernel
theorem dCastSearch_liftLoss_71 : decode nCastSearch_liftLoss.2.1 71 = .ok (.istore_n 2, 1) := by decide +kernel
theorem dCastSearch_liftLoss_72 : decode nCastSearch_liftLoss.2.1 72 = .ok (.iload 5, 2) := by decide +kernel
theorem dCastSearch_liftLoss_74 : decode nCastSearch_liftLoss.2.1 74 = .ok (.ifCond .le 35, 3) := by decide +kernel
theorem dCastSearch_liftLoss_77 : decode nCastSearch_liftLoss.2.1 77 = .ok (.aload_n 0, 1) := by decide +kernel
theorem dCastSearch_liftLoss_78 : decode nCastSearch_liftLoss.2.1 78 = .ok (.getfield 15, 3) := by decide +kernel
theorem dCastSearch_liftLoss_81 : decode nCastSearch_liftLoss.2.1 81 = .ok (.aload_n 0, 1) := by decide +kernel
theorem dCastSearch_liftLoss_82 : decode nCastSearch_liftLoss.2.1 82 = .ok (.getfield 38, 3) := by decide +kernel
theorem dCastSearch_liftLoss_85 : decode nCastSearch_liftLoss.2.1 85 = .ok (.iload_n 3, 1) := by decide +kernel
theorem dCastSearch_liftLoss_86 : decode nCastSearch_liftLoss.2.1 86 = .ok (.iaload, 1) := by decide +kernel
theorem dCastSearch_liftLoss_87 : decode nCastSearch_liftLoss.2.1 87 = .ok (.iload_n 3, 1) := by decide +kernel
theorem dCastSearch_liftLoss_88 : decode nCastSearch_liftLoss.2.1 88 = .ok (.aload_n 0, 1) := by decide +kernel
theorem dCastSearch_liftLoss_89 : decode nCastSearch_liftLoss.2.1 89 = .ok (.getfield 38, 3) := by decide +kernel
theorem dCastSearch_liftLoss_92 : decode nCastSearch_liftLoss.2.1 92 = .ok (.iload_n 1, 1) := by decide +kernel
theorem dCastSearch_liftLoss_93 : decode nCastSearch_liftLoss.2.1 93 = .ok (.iaload, 1) := by decide +kernel
theorem dCastSearch_liftLoss_94 : decode nCastSearch_liftLoss.2.1 94 = .ok (.iload_n 1, 1) := by decide +kernel
theorem dCastSearch_liftLoss_95 : decode nCastSearch_liftLoss.2.1 95 = .ok (.invokevirtual 161, 3) := by decide +kernel
theorem dCastSearch_liftLoss_98 : decode nCastSearch_liftLoss.2.1 98 = .ok (.ifCond .ne 11, 3) := by decide +kernel
theorem dCastSearch_liftLoss_101 : decode nCastSearch_liftLoss.2.1 101 = .ok (.iload_n 2, 1) := by decide +kernel
theorem dCastSearch_liftLoss_102 : decode nCastSearch_liftLoss.2.1 102 = .ok (.iload 5, 2) := by decide +kernel
theorem dCastSearch_liftLoss_104 : decode nCastSearch_liftLoss.2.1 104 = .ok (.bipush 6, 2) := by decide +kernel
theorem dCastSearch_liftLoss_106 : decode nCastSearch_liftLoss.2.1 106 = .ok (.imul, 1) := by decide +kernel
theorem dCastSearch_liftLoss_107 : decode nCastSearch_liftLoss.2.1 107 = .ok (.iadd, 1) := by decide +kernel
theorem dCastSearch_liftLoss_108 : decode nCastSearch_liftLoss.2.1 108 = .ok (.istore_n 2, 1) := by decide +kernel
theorem dCastSearch_liftLoss_109 : decode nCastSearch_liftLoss.2.1 109 = .ok (.iinc 3 1, 3) := by decide +kernel
theorem dCastSearch_liftLoss_112 : decode nCastSearch_liftLoss.2.1 112 = .ok (.goto (-108), 3) := by decide +kernel
theorem dCastSearch_liftLoss_115 : decode nCastSearch_liftLoss.2.1 115 = .ok (.iload_n 2, 1) := by decide +kernel
theorem dCastSearch_liftLoss_116 : decode nCastSearch_liftLoss.2.1 116 = .ok (.ireturn, 1) := by decide +kernel
theorem dCompany_init_0 : decode nCompany_init.2.1 0 = .ok (.aload_n 0, 1) := by decide +kernel
theorem dCompany_init_1 : decode nCompany_init.2.1 1 = .ok (.invokespecial 3, 3) := by decide +kernel
theorem dCompany_init_4 : decode nCompany_init.2.1 4 = .ok (.aload_n 0, 1) := by decide +kernel
theorem dCompany_init_5 : decode nCompany_init.2.1 5 = .ok (.iconst 0, 1) := by decide +kernel
theorem dCompany_init_6 : decode nCompany_init.2.1 6 = .ok (.putfield 9, 3) := by decide +kernel
theorem dCompany_init_9 : decode nCompany_init.2.1 9 = .ok (.aload_n 0, 1) := by decide +kernel
theorem dCompany_init_10 : decode nCompany_init.2.1 10 = .ok (.iconst 0, 1) := by decide +kernel
theorem dCompany_init_11 : decode nCompany_init.2.1 11 = .ok (.putfield 15, 3) := by decide +kernel
theorem dCompany_init_14 : decode nCompany_init.2.1 14 = .ok (.aload_n 0, 1) := by decide +kernel
theorem dCompany_init_15 : decode nCompany_init.2.1 15 = .ok (.bipush 10, 2) := by decide +kernel
theorem dCompany_init_17 : decode nCompany_init.2.1 17 = .ok (.newarray .int, 2) := by decide +kernel
theorem dCompany_init_19 : decode nCompany_init.2.1 19 = .ok (.putfield 18, 3) := by decide +kernel
theorem dCompany_init_22 : decode nCompany_init.2.1 22 = .ok (.aload_n 0, 1) := by decide +kernel
theorem dCompany_init_23 : decode nCompany_init.2.1 23 = .ok (.bipush 10, 2) := by decide +kernel
theorem dCompany_init_25 : decode nCompany_init.2.1 25 = .ok (.newarray .int, 2) := by decide +kernel
theorem dCompany_init_27 : decode nCompany_init.2.1 27 = .ok (.putfield 22, 3) := by decide +kernel
theorem dCompany_init_30 : decode nCompany_init.2.1 30 = .ok (.aload_n 0, 1) := by decide +kernel
theorem dCompany_init_31 : decode nCompany_init.2.1 31 = .ok (.bipush 10, 2) := by decide +kernel
theorem dCompany_init_33 : decode nCompany_init.2.1 33 = .ok (.newarray .int, 2) := by decide +kernel
theorem dCompany_init_35 : decode nCompany_init.2.1 35 = .ok (.putfield 25, 3) := by decide +kernel
theorem dCompany_init_38 : decode nCompany_init.2.1 38 = .ok (.aload_n 0, 1) := by decide +kernel
theorem dCompany_init_39 : decode nCompany_init.2.1 39 = .ok (.bipush 80, 2) := by decide +kernel
theorem dCompany_init_41 : decode nCompany_init.2.1 41 = .ok (.newarray .int, 2) := by decide +kernel
theorem dCompany_init_43 : decode nCompany_init.2.1 43 = .ok (.putfield 28, 3) := by decide +kernel
theorem dCompany_init_46 : decode nCompany_init.2.1 46 = .ok (.aload_n 0, 1) := by decide +kernel
theorem dCompany_init_47 : decode nCompany_init.2.1 47 = .ok (.bipush 100, 2) := by decide +kernel
theorem dCompany_init_49 : decode nCompany_init.2.1 49 = .ok (.newarray .int, 2) := by decide +kernel
theorem dCompany_init_51 : decode nCompany_init.2.1 51 = .ok (.putfield 31, 3) := by decide +kernel
theorem dCompany_init_54 : decode nCompany_init.2.1 54 = .ok (.aload_n 0, 1) := by decide +kernel
theorem dCompany_init_55 : decode nCompany_init.2.1 55 = .ok (.bipush 10, 2) := by decide +kernel
theorem dCompany_init_57 : decode nCompany_init.2.1 57 = .ok (.newarray .int, 2) := by decide +kernel
theorem dCompany_init_59 : decode nCompany_init.2.1 59 = .ok (.putfield 34, 3) := by decide +kernel
theorem dCompany_init_62 : decode nCompany_init.2.1 62 = .ok (.aload_n 0, 1) := by decide +kernel
theorem dCompany_init_63 : decode nCompany_init.2.1 63 = .ok (.bipush 10, 2) := by decide +kernel
theorem dCompany_init_65 : decode nCompany_init.2.1 65 = .ok (.newarray .int, 2) := by decide +kernel
theorem dCompany_init_67 : decode nCompany_init.2.1 67 = .ok (.putfield 37, 3) := by decide +kernel
theorem dCompany_init_70 : decode nCompany_init.2.1 70 = .ok (.aload_n 0, 1) := by decide +kernel
theorem dCompany_init_71 : decode nCompany_init.2.1 71 = .ok (.getfield 25, 3) := by decide +kernel
theorem dCompany_init_74 : decode nCompany_init.2.1 74 = .ok (.ldc 40, 2) := by decide +kernel
theorem dCompany_init_76 : decode nCompany_init.2.1 76 = .ok (.invokestatic 41, 3) := by decide +kernel
theorem dCompany_init_79 : decode nCompany_init.2.1 79 = .ok (.aload_n 0, 1) := by decide +kernel
theorem dCompany_init_80 : decode nCompany_init.2.1 80 = .ok (.getfield 28, 3) := by decide +kernel
theorem dCompany_init_83 : decode nCompany_init.2.1 83 = .ok (.iconst (-1), 1) := by decide +kernel
theorem dCompany_init_84 : decode nCompany_init.2.1 84 = .ok (.invokestatic 41, 3) := by decide +kernel
theorem dCompany_init_87 : decode nCompany_init.2.1 87 = .ok (.aload_n 0, 1) := by decide +kernel
theorem dCompany_init_88 : decode nCompany_init.2.1 88 = .ok (.getfield 31, 3) := by decide +kernel
theorem dCompany_init_91 : decode nCompany_init.2.1 91 = .ok (.iconst (-1), 1) := by decide +kernel
theorem dCompany_init_92 : decode nCompany_init.2.1 92 = .ok (.invokestatic 41, 3) := by decide +kernel
theorem dCompany_init_95 : decode nCompany_init.2.1 95 = .ok (.aload_n 0, 1) := by decide +kernel
theorem dCompany_init_96 : decode nCompany_init.2.1 96 = .ok (.getfield 37, 3) := by decide +kernel
theorem dCompany_init_99 : decode nCompany_init.2.1 99 = .ok (.bipush 30, 2) := by decide +kernel
theorem dCompany_init_101 : decode nCompany_init.2.1 101 = .ok (.invokestatic 41, 3) := by decide +kernel
theorem dCompany_init_104 : decode nCompany_init.2.1 104 = .ok (.return_, 1) := by decide +kernel
theorem dCompany_addPerson_0 : decode nCompany_addPerson.2.1 0 = .ok (.aload_n 0, 1) := by decide +kernel
theorem dCompany_addPerson_1 : decode nCompany_addPerson.2.1 1 = .ok (.getfield 9, 3) := by decide +kernel
theorem dCompany_addPerson_4 : decode nCompany_addPerson.2.1 4 = .ok (.bipush 10, 2) := by decide +kernel
theorem dCompany_addPerson_6 : decode nCompany_addPerson.2.1 6 = .ok (.if_icmp .lt 6, 3) := by decide +kernel
theorem dCompany_addPerson_9 : decode nCompany_addPerson.2.1 9 = .ok (.ldc 47, 2) := by decide +kernel
theorem dCompany_addPerson_11 : decode nCompany_addPerson.2.1 11 = .ok (.ireturn, 1) := by decide +kernel
theorem dCompany_addPerson_12 : decode nCompany_addPerson.2.1 12 = .ok (.aload_n 0, 1) := by decide +kernel
theorem dCompany_addPerson_13 : decode nCompany_addPerson.2.1 13 = .ok (.getfield 18, 3) := by decide +kernel
theorem dCompany_addPerson_16 : decode nCompany_addPerson.2.1 16 = .ok (.aload_n 0, 1) := by decide +kernel
theorem dCompany_addPerson_17 : decode nCompany_addPerson.2.1 17 = .ok (.getfield 9, 3) := by decide +kernel
theorem dCompany_addPerson_20 : decode nCompany_addPerson.2.1 20 = .ok (.iload_n 1, 1) := by decide +kernel
theorem dCompany_addPerson_21 : decode nCompany_addPerson.2.1 21 = .ok (.iastore, 1) := by decide +kernel
theorem dCompany_addPerson_22 : decode nCompany_addPerson.2.1 22 = .ok (.aload_n 0, 1) := by decide +kernel
theorem dCompany_addPerson_23 : decode nCompany_addPerson.2.1 23 = .ok (.getfield 22, 3) := by decide +kernel
theorem dCompany_addPerson_26 : decode nCompany_addPerson.2.1 26 = .ok (.aload_n 0, 1) := by decide +kernel
theorem dCompany_addPerson_27 : decode nCompany_addPerson.2.1 27 = .ok (.getfield 9, 3) := by decide +kernel
theorem dCompany_addPerson_30 : decode nCompany_addPerson.2.1 30 = .ok (.iload_n 2, 1) := by decide +kernel
theorem dCompany_addPerson_31 : decode nCompany_addPerson.2.1 31 = .ok (.iastore, 1) := by decide +kernel
theorem dCompany_addPerson_32 : decode nCompany_addPerson.2.1 32 = .ok (.aload_n 0, 1) := by decide +kernel
theorem dCompany_addPerson_33 : decode nCompany_addPerson.2.1 33 = .ok (.dup, 1) := by decide +kernel
theorem dCompany_addPerson_34 : decode nCompany_addPerson.2.1 34 = .ok (.getfield 9, 3) := by decide +kernel
theorem dCompany_addPerson_37 : decode nCompany_addPerson.2.1 37 = .ok (.iconst 1, 1) := by decide +kernel
theorem dCompany_addPerson_38 : decode nCompany_addPerson.2.1 38 = .ok (.iadd, 1) := by decide +kernel
theorem dCompany_addPerson_39 : decode nCompany_addPerson.2.1 39 = .ok (.putfield 9, 3) := by decide +kernel
theorem dCompany_addPerson_42 : decode nCompany_addPerson.2.1 42 = .ok (.aload_n 0, 1) := by decide +kernel
theorem dCompany_addPerson_43 : decode nCompany_addPerson.2.1 43 = .ok (.getfield 9, 3) := by decide +kernel
theorem dCompany_addPerson_46 : decode nCompany_addPerson.2.1 46 = .ok (.iconst 1, 1) := by decide +kernel
theorem dCompany_addPerson_47 : decode nCompany_addPerson.2.1 47 = .ok (.isub, 1) := by decide +kernel
theorem dCompany_addPerson_48 : decode nCompany_addPerson.2.1 48 = .ok (.ireturn, 1) := by decide +kernel
theorem dCompany_people_0 : decode nCompany_people.2.1 0 = .ok (.aload_n 0, 1) := by decide +kernel
theorem dCompany_people_1 : decode nCompany_people.2.1 1 = .ok (.getfield 9, 3) := by decide +kernel
theorem dCompany_people_4 : decode nCompany_people.2.1 4 = .ok (.ireturn, 1) := by decide +kernel
theorem dCompany_isPerson_0 : decode nCompany_isPerson.2.1 0 = .ok (.iload_n 1, 1) := by decide +kernel
theorem dCompany_isPerson_1 : decode nCompany_isPerson.2.1 1 = .ok (.ifCond .lt 15, 3) := by decide +kernel
theorem dCompany_isPerson_4 : decode nCompany_isPerson.2.1 4 = .ok (.iload_n 1, 1) := by decide +kernel
theorem dCompany_isPerson_5 : decode nCompany_isPerson.2.1 5 = .ok (.aload_n 0, 1) := by decide +kernel
theorem dCompany_isPerson_6 : decode nCompany_isPerson.2.1 6 = .ok (.getfield 9, 3) := by decide +kernel
theorem dCompany_isPerson_9 : decode nCompany_isPerson.2.1 9 = .ok (.if_icmp .ge 7, 3) := by decide +kernel
theorem dCompany_isPerson_12 : decode nCompany_isPerson.2.1 12 = .ok (.iconst 1, 1) := by decide +kernel
theorem dCompany_isPerson_13 : decode nCompany_isPerson.2.1 13 = .ok (.goto 4, 3) := by decide +kernel
theorem dCompany_isPerson_16 : decode nCompany_isPerson.2.1 16 = .ok (.iconst 0, 1) := by decide +kernel
theorem dCompany_isPerson_17 : decode nCompany_isPerson.2.1 17 = .ok (.ireturn, 1) := by decide +kernel
theorem dCompany_areTwo_0 : decode nCompany_areTwo.2.1 0 = .ok (.aload_n 0, 1) := by decide +kernel
theorem dCompany_areTwo_1 : decode nCompany_areTwo.2.1 1 = .ok (.iload_n 1, 1) := by decide +kernel
theorem dCompany_areTwo_2 : decode nCompany_areTwo.2.1 2 = .ok (.invokevirtual 48, 3) := by decide +kernel
theorem dCompany_areTwo_5 : decode nCompany_areTwo.2.1 5 = .ok (.ifCond .eq 20, 3) := by decide +kernel
theorem dCompany_areTwo_8 : decode nCompany_areTwo.2.1 8 = .ok (.aload_n 0, 1) := by decide +kernel
theorem dCompany_areTwo_9 : decode nCompany_areTwo.2.1 9 = .ok (.iload_n 2, 1) := by decide +kernel
theorem dCompany_areTwo_10 : decode nCompany_areTwo.2.1 10 = .ok (.invokevirtual 48, 3) := by decide +kernel
theorem dCompany_areTwo_13 : decode nCompany_areTwo.2.1 13 = .ok (.ifCond .eq 12, 3) := by decide +kernel
theorem dCompany_areTwo_16 : decode nCompany_areTwo.2.1 16 = .ok (.iload_n 1, 1) := by decide +kernel
theorem dCompany_areTwo_17 : decode nCompany_areTwo.2.1 17 = .ok (.iload_n 2, 1) := by decide +kernel
theorem dCompany_areTwo_18 : decode nCompany_areTwo.2.1 18 = .ok (.if_icmp .eq 7, 3) := by decide +kernel
theorem dCompany_areTwo_21 : decode nCompany_areTwo.2.1 21 = .ok (.iconst 1, 1) := by decide +kernel
theorem dCompany_areTwo_22 : decode nCompany_areTwo.2.1 22 = .ok (.goto 4, 3) := by decide +kernel
theorem dCompany_areTwo_25 : decode nCompany_areTwo.2.1 25 = .ok (.iconst 0, 1) := by decide +kernel
theorem dCompany_areTwo_26 : decode nCompany_areTwo.2.1 26 = .ok (.ireturn, 1) := by decide +kernel
theorem dCompany_isOfKind_0 : decode nCompany_isOfKind.2.1 0 = .ok (.aload_n 0, 1) := by decide +kernel
theorem dCompany_isOfKind_1 : decode nCompany_isOfKind.2.1 1 = .ok (.iload_n 1, 1) := by decide +kernel
theorem dCompany_isOfKind_2 : decode nCompany_isOfKind.2.1 2 = .ok (.invokevirtual 48, 3) := by decide +kernel
theorem dCompany_isOfKind_5 : decode nCompany_isOfKind.2.1 5 = .ok (.ifCond .ne 5, 3) := by decide +kernel
theorem dCompany_isOfKind_8 : decode nCompany_isOfKind.2.1 8 = .ok (.iconst 0, 1) := by decide +kernel
theorem dCompany_isOfKind_9 : decode nCompany_isOfKind.2.1 9 = .ok (.ireturn, 1) := by decide +kernel
theorem dCompany_isOfKind_10 : decode nCompany_isOfKind.2.1 10 = .ok (.iload_n 2, 1) := by decide +kernel
theorem dCompany_isOfKind_11 : decode nCompany_isOfKind.2.1 11 = .ok (.ifCond .eq 28, 3) := by decide +kernel
theorem dCompany_isOfKind_14 : decode nCompany_isOfKind.2.1 14 = .ok (.aload_n 0, 1) := by decide +kernel
theorem dCompany_isOfKind_15 : decode nCompany_isOfKind.2.1 15 = .ok (.getfield 18, 3) := by decide +kernel
theorem dCompany_isOfKind_18 : decode nCompany_isOfKind.2.1 18 = .ok (.iload_n 1, 1) := by decide +kernel
theorem dCompany_isOfKind_19 : decode nCompany_isOfKind.2.1 19 = .ok (.iaload, 1) := by decide +kernel
theorem dCompany_isOfKind_20 : decode nCompany_isOfKind.2.1 20 = .ok (.iload_n 2, 1) := by decide +kernel
theorem dCompany_isOfKind_21 : decode nCompany_isOfKind.2.1 21 = .ok (.if_icmp .eq 18, 3) := by decide +kernel
theorem dCompany_isOfKind_24 : decode nCompany_isOfKind.2.1 24 = .ok (.iload_n 2, 1) := by decide +kernel
theorem dCompany_isOfKind_25 : decode nCompany_isOfKind.2.1 25 = .ok (.iconst 2, 1) := by decide +kernel
theorem dCompany_isOfKind_26 : decode nCompany_isOfKind.2.1 26 = .ok (.if_icmp .ne 17, 3) := by decide +kernel
theorem dCompany_isOfKind_29 : decode nCompany_isOfKind.2.1 29 = .ok (.aload_n 0, 1) := by decide +kernel
theorem dCompany_isOfKind_30 : decode nCompany_isOfKind.2.1 30 = .ok (.getfield 18, 3) := by decide +kernel
theorem dCompany_isOfKind_33 : decode nCompany_isOfKind.2.1 33 = .ok (.iload_n 1, 1) := by decide +kernel
theorem dCompany_isOfKind_34 : decode nCompany_isOfKind.2.1 34 = .ok (.iaload, 1) := by decide +kernel
theorem dCompany_isOfKind_35 : decode nCompany_isOfKind.2.1 35 = .ok (.iconst 3, 1) := by decide +kernel
theorem dCompany_isOfKind_36 : decode nCompany_isOfKind.2.1 36 = .ok (.if_icmp .ne 7, 3) := by decide +kernel
theorem dCompany_isOfKind_39 : decode nCompany_isOfKind.2.1 39 = .ok (.iconst 1, 1) := by decide +kernel
theorem dCompany_isOfKind_40 : decode nCompany_isOfKind.2.1 40 = .ok (.goto 4, 3) := by decide +kernel
theorem dCompany_isOfKind_43 : decode nCompany_isOfKind.2.1 43 = .ok (.iconst 0, 1) := by decide +kernel
theorem dCompany_isOfKind_44 : decode nCompany_isOfKind.2.1 44 = .ok (.ireturn, 1) := by decide +kernel
theorem dCompany_fitsDress_0 : decode nCompany_fitsDress.2.1 0 = .ok (.aload_n 0, 1) := by decide +kernel
theorem dCompany_fitsDress_1 : decode nCompany_fitsDress.2.1 1 = .ok (.iload_n 1, 1) := by decide +kernel
theorem dCompany_fitsDress_2 : decode nCompany_fitsDress.2.1 2 = .ok (.invokevirtual 48, 3) := by decide +kernel
theorem dCompany_fitsDress_5 : decode nCompany_fitsDress.2.1 5 = .ok (.ifCond .eq 22, 3) := by decide +kernel
theorem dCompany_fitsDress_8 : decode nCompany_fitsDress.2.1 8 = .ok (.aload_n 0, 1) := by decide +kernel
theorem dCompany_fitsDress_9 : decode nCompany_fitsDress.2.1 9 = .ok (.getfield 22, 3) := by decide +kernel
theorem dCompany_fitsDress_12 : decode nCompany_fitsDress.2.1 12 = .ok (.iload_n 1, 1) := by decide +kernel
theorem dCompany_fitsDress_13 : decode nCompany_fitsDress.2.1 13 = .ok (.iaload, 1) := by decide +kernel
theorem dCompany_fitsDress_14 : decode nCompany_fitsDress.2.1 14 = .ok (.iload_n 2, 1) := by decide +kernel
theorem dCompany_fitsDress_15 : decode nCompany_fitsDress.2.1 15 = .ok (.isub, 1) := by decide +kernel
theorem dCompany_fitsDress_16 : decode nCompany_fitsDress.2.1 16 = .ok (.invokestatic 52, 3) := by decide +kernel
theorem dCompany_fitsDress_19 : decode nCompany_fitsDress.2.1 19 = .ok (.iconst 1, 1) := by decide +kernel
theorem dCompany_fitsDress_20 : decode nCompany_fitsDress.2.1 20 = .ok (.if_icmp .gt 7, 3) := by decide +kernel
theorem dCompany_fitsDress_23 : decode nCompany_fitsDress.2.1 23 = .ok (.iconst 1, 1) := by decide +kernel
theorem dCompany_fitsDress_24 : decode nCompany_fitsDress.2.1 24 = .ok (.goto 4, 3) := by decide +kernel
theorem dCompany_fitsDress_27 : decode nCompany_fitsDress.2.1 27 = .ok (.iconst 0, 1) := by decide +kernel
theorem dCompany_fitsDress_28 : decode nCompany_fitsDress.2.1 28 = .ok (.ireturn, 1) := by decide +kernel
theorem dCompany_ownedBy_0 : decode nCompany_ownedBy.2.1 0 = .ok (.aload_n 0, 1) := by decide +kernel
theorem dCompany_ownedBy_1 : decode nCompany_ownedBy.2.1 1 = .ok (.iload_n 1, 1) := by decide +kernel
theorem dCompany_ownedBy_2 : decode nCompany_ownedBy.2.1 2 = .ok (.invokevirtual 48, 3) := by decide +kernel
theorem dCompany_ownedBy_5 : decode nCompany_ownedBy.2.1 5 = .ok (.ifCond .eq 12, 3) := by decide +kernel
theorem dCompany_ownedBy_8 : decode nCompany_ownedBy.2.1 8 = .ok (.aload_n 0, 1) := by decide +kernel
theorem dCompany_ownedBy_9 : decode nCompany_ownedBy.2.1 9 = .ok (.getfield 25, 3) := by decide +kernel
theorem dCompany_ownedBy_12 : decode nCompany_ownedBy.2.1 12 = .ok (.iload_n 1, 1) := by decide +kernel
theorem dCompany_ownedBy_13 : decode nCompany_ownedBy.2.1 13 = .ok (.iaload, 1) := by decide +kernel
theorem dCompany_ownedBy_14 : decode nCompany_ownedBy.2.1 14 = .ok (.goto 5, 3) := by decide +kernel
theorem dCompany_ownedBy_17 : decode nCompany_ownedBy.2.1 17 = .ok (.ldc 40, 2) := by decide +kernel
theorem dCompany_ownedBy_19 : decode nCompany_ownedBy.2.1 19 = .ok (.ireturn, 1) := by decide +kernel
theorem dCompany_owns_0 : decode nCompany_owns.2.1 0 = .ok (.aload_n 0, 1) := by decide +kernel
theorem dCompany_owns_1 : decode nCompany_owns.2.1 1 = .ok (.iload_n 1, 1) := by decide +kernel
theorem dCompany_owns_2 : decode nCompany_owns.2.1 2 = .ok (.invokevirtual 48, 3) := by decide +kernel
theorem dCompany_owns_5 : decode nCompany_owns.2.1 5 = .ok (.ifCond .eq 23, 3) := by decide +kernel
theorem dCompany_owns_8 : decode nCompany_owns.2.1 8 = .ok (.iload_n 2, 1) := by decide +kernel
theorem dCompany_owns_9 : decode nCompany_owns.2.1 9 = .ok (.ldc 40, 2) := by decide +kernel
theorem dCompany_owns_11 : decode nCompany_owns.2.1 11 = .ok (.if_icmp .eq 17, 3) := by decide +kernel
theorem dCompany_owns_14 : decode nCompany_owns.2.1 14 = .ok (.aload_n 0, 1) := by decide +kernel
theorem dCompany_owns_15 : decode nCompany_owns.2.1 15 = .ok (.getfield 25, 3) := by decide +kernel
theorem dCompany_owns_18 : decode nCompany_owns.2.1 18 = .ok (.iload_n 1, 1) := by decide +kernel
theorem dCompany_owns_19 : decode nCompany_owns.2.1 19 = .ok (.iaload, 1) := by decide +kernel
theorem dCompany_owns_20 : decode nCompany_owns.2.1 20 = .ok (.iload_n 2, 1) := by decide +kernel
theorem dCompany_owns_21 : decode nCompany_owns.2.1 21 = .ok (.if_icmp .ne 7, 3) := by decide +kernel
theorem dCompany_owns_24 : decode nCompany_owns.2.1 24 = .ok (.iconst 1, 1) := by decide +kernel
theorem dCompany_owns_25 : decode nCompany_owns.2.1 25 = .ok (.goto 4, 3) := by decide +kernel
theorem dCompany_owns_28 : decode nCompany_owns.2.1 28 = .ok (.iconst 0, 1) := by decide +kernel
theorem dCompany_owns_29 : decode nCompany_owns.2.1 29 = .ok (.ireturn, 1) := by decide +kernel
theorem dCompany_ownerOf_0 : decode nCompany_ownerOf.2.1 0 = .ok (.iconst 0, 1) := by decide +kernel
theorem dCompany_ownerOf_1 : decode nCompany_ownerOf.2.1 1 = .ok (.istore_n 2, 1) := by decide +kernel
theorem dCompany_ownerOf_2 : decode nCompany_ownerOf.2.1 2 = .ok (.iload_n 2, 1) := by decide +kernel
theorem dCompany_ownerOf_3 : decode nCompany_ownerOf.2.1 3 = .ok (.aload_n 0, 1) := by decide +kernel
theorem dCompany_ownerOf_4 : decode nCompany_ownerOf.2.1 4 = .ok (.getfield 9, 3) := by decide +kernel
theorem dCompany_ownerOf_7 : decode nCompany_ownerOf.2.1 7 = .ok (.if_icmp .ge 20, 3) := by decide +kernel
theorem dCompany_ownerOf_10 : decode nCompany_ownerOf.2.1 10 = .ok (.aload_n 0, 1) := by decide +kernel
theorem dCompany_ownerOf_11 : decode nCompany_ownerOf.2.1 11 = .ok (.iload_n 2, 1) := by decide +kernel
theorem dCompany_ownerOf_12 : decode nCompany_ownerOf.2.1 12 = .ok (.iload_n 1, 1) := by decide +kernel
theorem dCompany_ownerOf_13 : decode nCompany_ownerOf.2.1 13 = .ok (.invokevirtual 58, 3) := by decide +kernel
theorem dCompany_ownerOf_16 : decode nCompany_ownerOf.2.1 16 = .ok (.ifCond .eq 5, 3) := by decide +kernel
theorem dCompany_ownerOf_19 : decode nCompany_ownerOf.2.1 19 = .ok (.iload_n 2, 1) := by decide +kernel
theorem dCompany_ownerOf_20 : decode nCompany_ownerOf.2.1 20 = .ok (.ireturn, 1) := by decide +kernel
theorem dCompany_ownerOf_21 : decode nCompany_ownerOf.2.1 21 = .ok (.iinc 2 1, 3) := by decide +kernel
theorem dCompany_ownerOf_24 : decode nCompany_ownerOf.2.1 24 = .ok (.goto (-22), 3) := by decide +kernel
theorem dCompany_ownerOf_27 : decode nCompany_ownerOf.2.1 27 = .ok (.ldc 40, 2) := by decide +kernel
theorem dCompany_ownerOf_29 : decode nCompany_ownerOf.2.1 29 = .ok (.ireturn, 1) := by decide +kernel
theorem dCompany_setOwned_0 : decode nCompany_setOwned.2.1 0 = .ok (.aload_n 0, 1) := by decide +kernel
theorem dCompany_setOwned_1 : decode nCompany_setOwned.2.1 1 = .ok (.iload_n 1, 1) := by decide +kernel
theorem dCompany_setOwned_2 : decode nCompany_setOwned.2.1 2 = .ok (.invokevirtual 48, 3) := by decide +kernel
theorem dCompany_setOwned_5 : decode nCompany_setOwned.2.1 5 = .ok (.ifCond .eq 10, 3) := by decide +kernel
theorem dCompany_setOwned_8 : decode nCompany_setOwned.2.1 8 = .ok (.aload_n 0, 1) := by decide +kernel
theorem dCompany_setOwned_9 : decode nCompany_setOwned.2.1 9 = .ok (.getfield 25, 3) := by decide +kernel
theorem dCompany_setOwned_12 : decode nCompany_setOwned.2.1 12 = .ok (.iload_n 1, 1) := by decide +kernel
theorem dCompany_setOwned_13 : decode nCompany_setOwned.2.1 13 = .ok (.iload_n 2, 1) := by decide +kernel
theorem dCompany_setOwned_14 : decode nCompany_setOwned.2.1 14 = .ok (.iastore, 1) := by decide +kernel
theorem dCompany_setOwned_15 : decode nCompany_setOwned.2.1 15 = .ok (.return_, 1) := by decide +kernel
theorem dCompany_today_0 : decode nCompany_today.2.1 0 = .ok (.aload_n 0, 1) := by decide +kernel
theorem dCompany_today_1 : decode nCompany_today.2.1 1 = .ok (.getfield 15, 3) := by decide +kernel
theorem dCompany_today_4 : decode nCompany_today.2.1 4 = .ok (.ireturn, 1) := by decide +kernel
theorem dCompany_passDays_0 : decode nCompany_passDays.2.1 0 = .ok (.aload_n 0, 1) := by decide +kernel
theorem dCompany_passDays_1 : decode nCompany_passDays.2.1 1 = .ok (.dup, 1) := by decide +kernel
theorem dCompany_passDays_2 : decode nCompany_passDays.2.1 2 = .ok (.getfield 15, 3) := by decide +kernel
theorem dCompany_passDays_5 : decode nCompany_passDays.2.1 5 = .ok (.iload_n 1, 1) := by decide +kernel
theorem dCompany_passDays_6 : decode nCompany_passDays.2.1 6 = .ok (.iadd, 1) := by decide +kernel
theorem dCompany_passDays_7 : decode nCompany_passDays.2.1 7 = .ok (.putfield 15, 3) := by decide +kernel
theorem dCompany_passDays_10 : decode nCompany_passDays.2.1 10 = .ok (.aload_n 0, 1) := by decide +kernel
theorem dCompany_passDays_11 : decode nCompany_passDays.2.1 11 = .ok (.getfield 37, 3) := by decide +kernel
theorem dCompany_passDays_14 : decode nCompany_passDays.2.1 14 = .ok (.bipush 30, 2) := by decide +kernel
theorem dCompany_passDays_16 : decode nCompany_passDays.2.1 16 = .ok (.invokestatic 41, 3) := by decide +kernel
theorem dCompany_passDays_19 : decode nCompany_passDays.2.1 19 = .ok (.return_, 1) := by decide +kernel
theorem dCompany_sinceDay_0 : decode nCompany_sinceDay.2.1 0 = .ok (.iload_n 1, 1) := by decide +kernel
theorem dCompany_sinceDay_1 : decode nCompany_sinceDay.2.1 1 = .ok (.iconst (-1), 1) := by decide +kernel
theorem dCompany_sinceDay_2 : decode nCompany_sinceDay.2.1 2 = .ok (.if_icmp .ne 8, 3) := by decide +kernel
theorem dCompany_sinceDay_5 : decode nCompany_sinceDay.2.1 5 = .ok (.ldc 40, 2) := by decide +kernel
theorem dCompany_sinceDay_7 : decode nCompany_sinceDay.2.1 7 = .ok (.goto 9, 3) := by decide +kernel
theorem dCompany_sinceDay_10 : decode nCompany_sinceDay.2.1 10 = .ok (.aload_n 0, 1) := by decide +kernel
theorem dCompany_sinceDay_11 : decode nCompany_sinceDay.2.1 11 = .ok (.getfield 15, 3) := by decide +kernel
theorem dCompany_sinceDay_14 : decode nCompany_sinceDay.2.1 14 = .ok (.iload_n 1, 1) := by decide +kernel
theorem dCompany_sinceDay_15 : decode nCompany_sinceDay.2.1 15 = .ok (.isub, 1) := by decide +kernel
theorem dCompany_sinceDay_16 : decode nCompany_sinceDay.2.1 16 = .ok (.ireturn, 1) := by decide +kernel
theorem dCompany_daysSinceDid_0 : decode nCompany_daysSinceDid.2.1 0 = .ok (.aload_n 0, 1) := by decide +kernel
theorem dCompany_daysSinceDid_1 : decode nCompany_daysSinceDid.2.1 1 = .ok (.iload_n 1, 1) := by decide +kernel
theorem dCompany_daysSinceDid_2 : decode nCompany_daysSinceDid.2.1 2 = .ok (.invokevirtual 48, 3) := by decide +kernel
theorem dCompany_daysSinceDid_5 : decode nCompany_daysSinceDid.2.1 5 = .ok (.ifCond .eq 17, 3) := by decide +kernel
theorem dCompany_daysSinceDid_8 : decode nCompany_daysSinceDid.2.1 8 = .ok (.iload_n 2, 1) := by decide +kernel
theorem dCompany_daysSinceDid_9 : decode nCompany_daysSinceDid.2.1 9 = .ok (.iconst 0, 1) := by decide +kernel
theorem dCompany_daysSinceDid_10 : decode nCompany_daysSinceDid.2.1 10 = .ok (.bipush 7, 2) := by decide +kernel
theorem dCompany_daysSinceDid_12 : decode nCompany_daysSinceDid.2.1 12 = .ok (.invokestatic 62, 3) := by decide +kernel
theorem dCompany_daysSinceDid_15 : decode nCompany_daysSinceDid.2.1 15 = .ok (.ifCond .eq 7, 3) := by decide +kernel
theorem dCompany_daysSinceDid_18 : decode nCompany_daysSinceDid.2.1 18 = .ok (.iconst 1, 1) := by decide +kernel
theorem dCompany_daysSinceDid_19 : decode nCompany_daysSinceDid.2.1 19 = .ok (.goto 4, 3) := by decide +kernel
theorem dCompany_daysSinceDid_22 : decode nCompany_daysSinceDid.2.1 22 = .ok (.iconst 0, 1) := by decide +kernel
theorem dCompany_daysSinceDid_23 : decode nCompany_daysSinceDid.2.1 23 = .ok (.istore_n 3, 1) := by decide +kernel
theorem dCompany_daysSinceDid_24 : decode nCompany_daysSinceDid.2.1 24 = .ok (.iload_n 3, 1) := by decide +kernel
theorem dCompany_daysSinceDid_25 : decode nCompany_daysSinceDid.2.1 25 = .ok (.ifCond .eq 21, 3) := by decide +kernel
theorem dCompany_daysSinceDid_28 : decode nCompany_daysSinceDid.2.1 28 = .ok (.aload_n 0, 1) := by decide +kernel
theorem dCompany_daysSinceDid_29 : decode nCompany_daysSinceDid.2.1 29 = .ok (.aload_n 0, 1) := by decide +kernel
theorem dCompany_daysSinceDid_30 : decode nCompany_daysSinceDid.2.1 30 = .ok (.getfield 28, 3) := by decide +kernel
theorem dCompany_daysSinceDid_33 : decode nCompany_daysSinceDid.2.1 33 = .ok (.iload_n 1, 1) := by decide +kernel
theorem dCompany_daysSinceDid_34 : decode nCompany_daysSinceDid.2.1 34 = .ok (.bipush 8, 2) := by decide +kernel
theorem dCompany_daysSinceDid_36 : decode nCompany_daysSinceDid.2.1 36 = .ok (.imul, 1) := by decide +kernel
theorem dCompany_daysSinceDid_37 : decode nCompany_daysSinceDid.2.1 37 = .ok (.iload_n 2, 1) := by decide +kernel
theorem dCompany_daysSinceDid_38 : decode nCompany_daysSinceDid.2.1 38 = .ok (.iadd, 1) := by decide +kernel
theorem dCompany_daysSinceDid_39 : decode nCompany_daysSinceDid.2.1 39 = .ok (.iaload, 1) := by decide +kernel
theorem dCompany_daysSinceDid_40 : decode nCompany_daysSinceDid.2.1 40 = .ok (.invokevirtual 66, 3) := by decide +kernel
theorem dCompany_daysSinceDid_43 : decode nCompany_daysSinceDid.2.1 43 = .ok (.goto 5, 3) := by decide +kernel
theorem dCompany_daysSinceDid_46 : decode nCompany_daysSinceDid.2.1 46 = .ok (.ldc 40, 2) := by decide +kernel
theorem dCompany_daysSinceDid_48 : decode nCompany_daysSinceDid.2.1 48 = .ok (.ireturn, 1) := by decide +kernel
theorem dCompany_setDidToday_0 : decode nCompany_setDidToday.2.1 0 = .ok (.aload_n 0, 1) := by decide +kernel
theorem dCompany_setDidToday_1 : decode nCompany_setDidToday.2.1 1 = .ok (.iload_n 1, 1) := by decide +kernel
theorem dCompany_setDidToday_2 : decode nCompany_setDidToday.2.1 2 = .ok (.invokevirtual 48, 3) := by decide +kernel
theorem dCompany_setDidToday_5 : decode nCompany_setDidToday.2.1 5 = .ok (.ifCond .eq 28, 3) := by decide +kernel
theorem dCompany_setDidToday_8 : decode nCompany_setDidToday.2.1 8 = .ok (.iload_n 2, 1) := by decide +kernel
theorem dCompany_setDidToday_9 : decode nCompany_setDidToday.2.1 9 = .ok (.iconst 0, 1) := by decide +kernel
theorem dCompany_setDidToday_10 : decode nCompany_setDidToday.2.1 10 = .ok (.bipush 7, 2) := by decide +kernel
theorem dCompany_setDidToday_12 : decode nCompany_setDidToday.2.1 12 = .ok (.invokestatic 62, 3) := by decide +kernel
theorem dCompany_setDidToday_15 : decode nCompany_setDidToday.2.1 15 = .ok (.ifCond .eq 18, 3) := by decide +kernel
theorem dCompany_setDidToday_18 : decode nCompany_setDidToday.2.1 18 = .ok (.aload_n 0, 1) := by decide +kernel
theorem dCompany_setDidToday_19 : decode nCompany_setDidToday.2.1 19 = .ok (.getfield 28, 3) := by decide +kernel
theorem dCompany_setDidToday_22 : decode nCompany_setDidToday.2.1 22 = .ok (.iload_n 1, 1) := by decide +kernel
theorem dCompany_setDidToday_23 : decode nCompany_setDidToday.2.1 23 = .ok (.bipush 8, 2) := by decide +kernel
theorem dCompany_setDidToday_25 : decode nCompany_setDidToday.2.1 25 = .ok (.imul, 1) := by decide +kernel
theorem dCompany_setDidToday_26 : decode nCompany_setDidToday.2.1 26 = .ok (.iload_n 2, 1) := by decide +kernel
theorem dCompany_setDidToday_27 : decode nCompany_setDidToday.2.1 27 = .ok (.iadd, 1) := by decide +kernel
theorem dCompany_setDidToday_28 : decode nCompany_setDidToday.2.1 28 = .ok (.aload_n 0, 1) := by decide +kernel
theorem dCompany_setDidToday_29 : decode nCompany_setDidToday.2.1 29 = .ok (.getfield 15, 3) := by decide +kernel
theorem dCompany_setDidToday_32 : decode nCompany_setDidToday.2.1 32 = .ok (.iastore, 1) := by decide +kernel
theorem dCompany_setDidToday_33 : decode nCompany_setDidToday.2.1 33 = .ok (.return_, 1) := by decide +kernel
theorem dCompany_knows_0 : decode nCompany_knows.2.1 0 = .ok (.aload_n 0, 1) := by decide +kernel
theorem dCompany_knows_1 : decode nCompany_knows.2.1 1 = .ok (.iload_n 1, 1) := by decide +kernel
theorem dCompany_knows_2 : decode nCompany_knows.2.1 2 = .ok (.iload_n 2, 1) := by decide +kernel
theorem dCompany_knows_3 : decode nCompany_knows.2.1 3 = .ok (.invokevirtual 69, 3) := by decide +kernel
theorem dCompany_knows_6 : decode nCompany_knows.2.1 6 = .ok (.ldc 40, 2) := by decide +kernel
theorem dCompany_knows_8 : decode nCompany_knows.2.1 8 = .ok (.if_icmp .eq 7, 3) := by decide +kernel
theorem dCompany_knows_11 : decode nCompany_knows.2.1 11 = .ok (.iconst 1, 1) := by decide +kernel
theorem dCompany_knows_12 : decode nCompany_knows.2.1 12 = .ok (.goto 4, 3) := by decide +kernel
theorem dCompany_knows_15 : decode nCompany_knows.2.1 15 = .ok (.iconst 0, 1) := by decide +kernel
theorem dCompany_knows_16 : decode nCompany_knows.2.1 16 = .ok (.ireturn, 1) := by decide +kernel
theorem dCompany_isFresh_0 : decode nCompany_isFresh.2.1 0 = .ok (.aload_n 0, 1) := by decide +kernel
theorem dCompany_isFresh_1 : decode nCompany_isFresh.2.1 1 = .ok (.iload_n 1, 1) := by decide +kernel
theorem dCompany_isFresh_2 : decode nCompany_isFresh.2.1 2 = .ok (.iload_n 2, 1) := by decide +kernel
theorem dCompany_isFresh_3 : decode nCompany_isFresh.2.1 3 = .ok (.invokevirtual 69, 3) := by decide +kernel
theorem dCompany_isFresh_6 : decode nCompany_isFresh.2.1 6 = .ok (.istore_n 3, 1) := by decide +kernel
theorem dCompany_isFresh_7 : decode nCompany_isFresh.2.1 7 = .ok (.iload_n 3, 1) := by decide +kernel
theorem dCompany_isFresh_8 : decode nCompany_isFresh.2.1 8 = .ok (.ldc 40, 2) := by decide +kernel
theorem dCompany_isFresh_10 : decode nCompany_isFresh.2.1 10 = .ok (.if_icmp .eq 27, 3) := by decide +kernel
theorem dCompany_isFresh_13 : decode nCompany_isFresh.2.1 13 = .ok (.iload_n 3, 1) := by decide +kernel
theorem dCompany_isFresh_14 : decode nCompany_isFresh.2.1 14 = .ok (.aload_n 0, 1) := by decide +kernel
theorem dCompany_isFresh_15 : decode nCompany_isFresh.2.1 15 = .ok (.iload_n 1, 1) := by decide +kernel
theorem dCompany_isFresh_16 : decode nCompany_isFresh.2.1 16 = .ok (.iconst 2, 1) := by decide +kernel
theorem dCompany_isFresh_17 : decode nCompany_isFresh.2.1 17 = .ok (.invokevirtual 73, 3) := by decide +kernel
theorem dCompany_isFresh_20 : decode nCompany_isFresh.2.1 20 = .ok (.ifCond .eq 8, 3) := by decide +kernel
theorem dCompany_isFresh_23 : decode nCompany_isFresh.2.1 23 = .ok (.bipush 60, 2) := by decide +kernel
theorem dCompany_isFresh_25 : decode nCompany_isFresh.2.1 25 = .ok (.goto 5, 3) := by decide +kernel
theorem dCompany_isFresh_28 : decode nCompany_isFresh.2.1 28 = .ok (.bipush 30, 2) := by decide +kernel
theorem dCompany_isFresh_30 : decode nCompany_isFresh.2.1 30 = .ok (.if_icmp .ge 7, 3) := by decide +kernel
theorem dCompany_isFresh_33 : decode nCompany_isFresh.2.1 33 = .ok (.iconst 1, 1) := by decide +kernel
theorem dCompany_isFresh_34 : decode nCompany_isFresh.2.1 34 = .ok (.goto 4, 3) := by decide +kernel
theorem dCompany_isFresh_37 : decode nCompany_isFresh.2.1 37 = .ok (.iconst 0, 1) := by decide +kernel
theorem dCompany_isFresh_38 : decode nCompany_isFresh.2.1 38 = .ok (.ireturn, 1) := by decide +kernel
theorem dCompany_canPlay_0 : decode nCompany_canPlay.2.1 0 = .ok (.aload_n 0, 1) := by decide +kernel
theorem dCompany_canPlay_1 : decode nCompany_canPlay.2.1 1 = .ok (.iload_n 1, 1) := by decide +kernel
theorem dCompany_canPlay_2 : decode nCompany_canPlay.2.1 2 = .ok (.iload_n 2, 1) := by decide +kernel
theorem dCompany_canPlay_3 : decode nCompany_canPlay.2.1 3 = .ok (.invokevirtual 58, 3) := by decide +kernel
theorem dCompany_canPlay_6 : decode nCompany_canPlay.2.1 6 = .ok (.ifCond .ne 12, 3) := by decide +kernel
theorem dCompany_canPlay_9 : decode nCompany_canPlay.2.1 9 = .ok (.aload_n 0, 1) := by decide +kernel
theorem dCompany_canPlay_10 : decode nCompany_canPlay.2.1 10 = .ok (.iload_n 1, 1) := by decide +kernel
theorem dCompany_canPlay_11 : decode nCompany_canPlay.2.1 11 = .ok (.iload_n 2, 1) := by decide +kernel
theorem dCompany_canPlay_12 : decode nCompany_canPlay.2.1 12 = .ok (.invokevirtual 76, 3) := by decide +kernel
theorem dCompany_canPlay_15 : decode nCompany_canPlay.2.1 15 = .ok (.ifCond .eq 16, 3) := by decide +kernel
theorem dCompany_canPlay_18 : decode nCompany_canPlay.2.1 18 = .ok (.aload_n 0, 1) := by decide +kernel
theorem dCompany_canPlay_19 : decode nCompany_canPlay.2.1 19 = .ok (.iload_n 1, 1) := by decide +kernel
theorem dCompany_canPlay_20 : decode nCompany_canPlay.2.1 20 = .ok (.iload_n 3, 1) := by decide +kernel
theorem dCompany_canPlay_21 : decode nCompany_canPlay.2.1 21 = .ok (.invokevirtual 79, 3) := by decide +kernel
theorem dCompany_canPlay_24 : decode nCompany_canPlay.2.1 24 = .ok (.ifCond .eq 7, 3) := by decide +kernel
theorem dCompany_canPlay_27 : decode nCompany_canPlay.2.1 27 = .ok (.iconst 1, 1) := by decide +kernel
theorem dCompany_canPlay_28 : decode nCompany_canPlay.2.1 28 = .ok (.goto 4, 3) := by decide +kernel
theorem dCompany_canPlay_31 : decode nCompany_canPlay.2.1 31 = .ok (.iconst 0, 1) := by decide +kernel
theorem dCompany_canPlay_32 : decode nCompany_canPlay.2.1 32 = .ok (.ireturn, 1) := by decide +kernel
theorem dCompany_daysSinceRehearsed_0 : decode nCompany_daysSinceRehearsed.2.1 0 = .ok (.aload_n 0, 1) := by decide +kernel
theorem dCompany_daysSinceRehearsed_1 : decode nCompany_daysSinceRehearsed.2.1 1 = .ok (.iload_n 1, 1) := by decide +kernel
theorem dCompany_daysSinceRehearsed_2 : decode nCompany_daysSinceRehearsed.2.1 2 = .ok (.invokevirtual 48, 3) := by decide +kernel
theorem dCompany_daysSinceRehearsed_5 : decode nCompany_daysSinceRehearsed.2.1 5 = .ok (.ifCond .eq 15, 3) := by decide +kernel
theorem dCompany_daysSinceRehearsed_8 : decode nCompany_daysSinceRehearsed.2.1 8 = .ok (.aload_n 0, 1) := by decide +kernel
theorem dCompany_daysSinceRehearsed_9 : decode nCompany_daysSinceRehearsed.2.1 9 = .ok (.iload_n 2, 1) := by decide +kernel
theorem dCompany_daysSinceRehearsed_10 : decode nCompany_daysSinceRehearsed.2.1 10 = .ok (.invokevirtual 48, 3) := by decide +kernel
theorem dCompany_daysSinceRehearsed_13 : decode nCompany_daysSinceRehearsed.2.1 13 = .ok (.ifCond .eq 7, 3) := by decide +kernel
theorem dCompany_daysSinceRehearsed_16 : decode nCompany_daysSinceRehearsed.2.1 16 = .ok (.iconst 1, 1) := by decide +kernel
theorem dCompany_daysSinceRehearsed_17 : decode nCompany_daysSinceRehearsed.2.1 17 = .ok (.goto 4, 3) := by decide +kernel
theorem dCompany_daysSinceRehearsed_20 : decode nCompany_daysSinceRehearsed.2.1 20 = .ok (.iconst 0, 1) := by decide +kernel
theorem dCompany_daysSinceRehearsed_21 : decode nCompany_daysSinceRehearsed.2.1 21 = .ok (.istore_n 3, 1) := by decide +kernel
theorem dCompany_daysSinceRehearsed_22 : decode nCompany_daysSinceRehearsed.2.1 22 = .ok (.iload_n 3, 1) := by decide +kernel
theorem dCompany_daysSinceRehearsed_23 : decode nCompany_daysSinceRehearsed.2.1 23 = .ok (.ifCond .eq 21, 3) := by decide +kernel
theorem dCompany_daysSinceRehearsed_26 : decode nCompany_daysSinceRehearsed.2.1 26 = .ok (.aload_n 0, 1) := by decide +kernel
theorem dCompany_daysSinceRehearsed_27 : decode nCompany_daysSinceRehearsed.2.1 27 = .ok (.aload_n 0, 1) := by decide +kernel
theorem dCompany_daysSinceRehearsed_28 : decode nCompany_daysSinceRehearsed.2.1 28 = .ok (.getfield 31, 3) := by decide +kernel
theorem dCompany_daysSinceRehearsed_31 : decode nCompany_daysSinceRehearsed.2.1 31 = .ok (.iload_n 1, 1) := by decide +kernel
theorem dCompany_daysSinceRehearsed_32 : decode nCompany_daysSinceRehearsed.2.1 32 = .ok (.bipush 10, 2) := by decide +kernel
theorem dCompany_daysSinceRehearsed_34 : decode nCompany_daysSinceRehearsed.2.1 34 = .ok (.imul, 1) := by decide +kernel
theorem dCompany_daysSinceRehearsed_35 : decode nCompany_daysSinceRehearsed.2.1 35 = .ok (.iload_n 2, 1) := by decide +kernel
theorem dCompany_daysSinceRehearsed_36 : decode nCompany_daysSinceRehearsed.2.1 36 = .ok (.iadd, 1) := by decide +kernel
theorem dCompany_daysSinceRehearsed_37 : decode nCompany_daysSinceRehearsed.2.1 37 = .ok (.iaload, 1) := by decide +kernel
theorem dCompany_daysSinceRehearsed_38 : decode nCompany_daysSinceRehearsed.2.1 38 = .ok (.invokevirtual 66, 3) := by decide +kernel
theorem dCompany_daysSinceRehearsed_41 : decode nCompany_daysSinceRehearsed.2.1 41 = .ok (.goto 5, 3) := by decide +kernel
theorem dCompany_daysSinceRehearsed_44 : decode nCompany_daysSinceRehearsed.2.1 44 = .ok (.ldc 40, 2) := by decide +kernel
theorem dCompany_daysSinceRehearsed_46 : decode nCompany_daysSinceRehearsed.2.1 46 = .ok (.ireturn, 1) := by decide +kernel
theorem dCompany_setRehearsedToday_0 : decode nCompany_setRehearsedToday.2.1 0 = .ok (.aload_n 0, 1) := by decide +kernel
theorem dCompany_setRehearsedToday_1 : decode nCompany_setRehearsedToday.2.1 1 = .ok (.iload_n 1, 1) := by decide +kernel
theorem dCompany_setRehearsedToday_2 : decode nCompany_setRehearsedToday.2.1 2 = .ok (.iload_n 2, 1) := by decide +kernel
theorem dCompany_setRehearsedToday_3 : decode nCompany_setRehearsedToday.2.1 3 = .ok (.invokevirtual 82, 3) := by decide +kernel
theorem dCompany_setRehearsedToday_6 : decode nCompany_setRehearsedToday.2.1 6 = .ok (.ifCond .eq 18, 3) := by decide +kernel
theorem dCompany_setRehearsedToday_9 : decode nCompany_setRehearsedToday.2.1 9 = .ok (.aload_n 0, 1) := by decide +kernel
theorem dCompany_setRehearsedToday_10 : decode nCompany_setRehearsedToday.2.1 10 = .ok (.getfield 31, 3) := by decide +kernel
theorem dCompany_setRehearsedToday_13 : decode nCompany_setRehearsedToday.2.1 13 = .ok (.iload_n 1, 1) := by decide +kernel
theorem dCompany_setRehearsedToday_14 : decode nCompany_setRehearsedToday.2.1 14 = .ok (.bipush 10, 2) := by decide +kernel
theorem dCompany_setRehearsedToday_16 : decode nCompany_setRehearsedToday.2.1 16 = .ok (.imul, 1) := by decide +kernel
theorem dCompany_setRehearsedToday_17 : decode nCompany_setRehearsedToday.2.1 17 = .ok (.iload_n 2, 1) := by decide +kernel
theorem dCompany_setRehearsedToday_18 : decode nCompany_setRehearsedToday.2.1 18 = .ok (.iadd, 1) := by decide +kernel
theorem dCompany_setRehearsedToday_19 : decode nCompany_setRehearsedToday.2.1 19 = .ok (.aload_n 0, 1) := by decide +kernel
theorem dCompany_setRehearsedToday_20 : decode nCompany_setRehearsedToday.2.1 20 = .ok (.getfield 15, 3) := by decide +kernel
theorem dCompany_setRehearsedToday_23 : decode nCompany_setRehearsedToday.2.1 23 = .ok (.iastore, 1) := by decide +kernel
theorem dCompany_setRehearsedToday_24 : decode nCompany_setRehearsedToday.2.1 24 = .ok (.return_, 1) := by decide +kernel
theorem dCompany_isFreshPair_0 : decode nCompany_isFreshPair.2.1 0 = .ok (.aload_n 0, 1) := by decide +kernel
theorem dCompany_isFreshPair_1 : decode nCompany_isFreshPair.2.1 1 = .ok (.iload_n 1, 1) := by decide +kernel
theorem dCompany_isFreshPair_2 : decode nCompany_isFreshPair.2.1 2 = .ok (.invokevirtual 48, 3) := by decide +kernel
theorem dCompany_isFreshPair_5 : decode nCompany_isFreshPair.2.1 5 = .ok (.ifCond .eq 11, 3) := by decide +kernel
theorem dCompany_isFreshPair_8 : decode nCompany_isFreshPair.2.1 8 = .ok (.aload_n 0, 1) := by decide +kernel
theorem dCompany_isFreshPair_9 : decode nCompany_isFreshPair.2.1 9 = .ok (.iload_n 2, 1) := by decide +kernel
theorem dCompany_isFreshPair_10 : decode nCompany_isFreshPair.2.1 10 = .ok (.invokevirtual 48, 3) := by decide +kernel
theorem dCompany_isFreshPair_13 : decode nCompany_isFreshPair.2.1 13 = .ok (.ifCond .ne 5, 3) := by decide +kernel
theorem dCompany_isFreshPair_16 : decode nCompany_isFreshPair.2.1 16 = .ok (.iconst 0, 1) := by decide +kernel
theorem dCompany_isFreshPair_17 : decode nCompany_isFreshPair.2.1 17 = .ok (.ireturn, 1) := by decide +kernel
theorem dCompany_isFreshPair_18 : decode nCompany_isFreshPair.2.1 18 = .ok (.aload_n 0, 1) := by decide +kernel
theorem dCompany_isFreshPair_19 : decode nCompany_isFreshPair.2.1 19 = .ok (.getfield 31, 3) := by decide +kernel
theorem dCompany_isFreshPair_22 : decode nCompany_isFreshPair.2.1 22 = .ok (.iload_n 1, 1) := by decide +kernel
theorem dCompany_isFreshPair_23 : decode nCompany_isFreshPair.2.1 23 = .ok (.bipush 10, 2) := by decide +kernel
theorem dCompany_isFreshPair_25 : decode nCompany_isFreshPair.2.1 25 = .ok (.imul, 1) := by decide +kernel
theorem dCompany_isFreshPair_26 : decode nCompany_isFreshPair.2.1 26 = .ok (.iload_n 2, 1) := by decide +kernel
theorem dCompany_isFreshPair_27 : decode nCompany_isFreshPair.2.1 27 = .ok (.iadd, 1) := by decide +kernel
theorem dCompany_isFreshPair_28 : decode nCompany_isFreshPair.2.1 28 = .ok (.iaload, 1) := by decide +kernel
theorem dCompany_isFreshPair_29 : decode nCompany_isFreshPair.2.1 29 = .ok (.istore_n 3, 1) := by decide +kernel
theorem dCompany_isFreshPair_30 : decode nCompany_isFreshPair.2.1 30 = .ok (.iload_n 3, 1) := by decide +kernel
theorem dCompany_isFreshPair_31 : decode nCompany_isFreshPair.2.1 31 = .ok (.iconst (-1), 1) := by decide +kernel
theorem dCompany_isFreshPair_32 : decode nCompany_isFreshPair.2.1 32 = .ok (.if_icmp .eq 18, 3) := by decide +kernel
theorem dCompany_isFreshPair_35 : decode nCompany_isFreshPair.2.1 35 = .ok (.aload_n 0, 1) := by decide +kernel
theorem dCompany_isFreshPair_36 : decode nCompany_isFreshPair.2.1 36 = .ok (.getfield 15, 3) := by decide +kernel
theorem dCompany_isFreshPair_39 : decode nCompany_isFreshPair.2.1 39 = .ok (.iload_n 3, 1) := by decide +kernel
theorem dCompany_isFreshPair_40 : decode nCompany_isFreshPair.2.1 40 = .ok (.isub, 1) := by decide +kernel
theorem dCompany_isFreshPair_41 : decode nCompany_isFreshPair.2.1 41 = .ok (.bipush 30, 2) := by decide +kernel
theorem dCompany_isFreshPair_43 : decode nCompany_isFreshPair.2.1 43 = .ok (.if_icmp .ge 7, 3) := by decide +kernel
theorem dCompany_isFreshPair_46 : decode nCompany_isFreshPair.2.1 46 = .ok (.iconst 1, 1) := by decide +kernel
theorem dCompany_isFreshPair_47 : decode nCompany_isFreshPair.2.1 47 = .ok (.goto 4, 3) := by decide +kernel
theorem dCompany_isFreshPair_50 : decode nCompany_isFreshPair.2.1 50 = .ok (.iconst 0, 1) := by decide +kernel
theorem dCompany_isFreshPair_51 : decode nCompany_isFreshPair.2.1 51 = .ok (.ireturn, 1) := by decide +kernel
theorem dCompany_doLift_0 : decode nCompany_doLift.2.1 0 = .ok (.aload_n 0, 1) := by decide +kernel
theorem dCompany_doLift_1 : decode nCompany_doLift.2.1 1 = .ok (.iload_n 1, 1) := by decide +kernel
theorem dCompany_doLift_2 : decode nCompany_doLift.2.1 2 = .ok (.iload_n 2, 1) := by decide +kernel
theorem dCompany_doLift_3 : decode nCompany_doLift.2.1 3 = .ok (.invokevirtual 58, 3) := by decide +kernel
theorem dCompany_doLift_6 : decode nCompany_doLift.2.1 6 = .ok (.ifCond .eq 13, 3) := by decide +kernel
theorem dCompany_doLift_9 : decode nCompany_doLift.2.1 9 = .ok (.aload_n 0, 1) := by decide +kernel
theorem dCompany_doLift_10 : decode nCompany_doLift.2.1 10 = .ok (.iload_n 3, 1) := by decide +kernel
theorem dCompany_doLift_11 : decode nCompany_doLift.2.1 11 = .ok (.iload 4, 2) := by decide +kernel
theorem dCompany_doLift_13 : decode nCompany_doLift.2.1 13 = .ok (.invokevirtual 58, 3) := by decide +kernel
theorem dCompany_doLift_16 : decode nCompany_doLift.2.1 16 = .ok (.ifCond .ne 12, 3) := by decide +kernel
theorem dCompany_doLift_19 : decode nCompany_doLift.2.1 19 = .ok (.aload_n 0, 1) := by decide +kernel
theorem dCompany_doLift_20 : decode nCompany_doLift.2.1 20 = .ok (.iload_n 1, 1) := by decide +kernel
theorem dCompany_doLift_21 : decode nCompany_doLift.2.1 21 = .ok (.iload_n 3, 1) := by decide +kernel
theorem dCompany_doLift_22 : decode nCompany_doLift.2.1 22 = .ok (.invokevirtual 85, 3) := by decide +kernel
theorem dCompany_doLift_25 : decode nCompany_doLift.2.1 25 = .ok (.ifCond .eq 7, 3) := by decide +kernel
theorem dCompany_doLift_28 : decode nCompany_doLift.2.1 28 = .ok (.iconst 1, 1) := by decide +kernel
theorem dCompany_doLift_29 : decode nCompany_doLift.2.1 29 = .ok (.goto 4, 3) := by decide +kernel
theorem dCompany_doLift_32 : decode nCompany_doLift.2.1 32 = .ok (.iconst 0, 1) := by decide +kernel
theorem dCompany_doLift_33 : decode nCompany_doLift.2.1 33 = .ok (.ireturn, 1) := by decide +kernel
theorem dCompany_foesOf_0 : decode nCompany_foesOf.2.1 0 = .ok (.aload_n 0, 1) := by decide +kernel
theorem dCompany_foesOf_1 : decode nCompany_foesOf.2.1 1 = .ok (.iload_n 1, 1) := by decide +kernel
theorem dCompany_foesOf_2 : decode nCompany_foesOf.2.1 2 = .ok (.invokevirtual 48, 3) := by decide +kernel
theorem dCompany_foesOf_5 : decode nCompany_foesOf.2.1 5 = .ok (.ifCond .eq 12, 3) := by decide +kernel
theorem dCompany_foesOf_8 : decode nCompany_foesOf.2.1 8 = .ok (.aload_n 0, 1) := by decide +kernel
theorem dCompany_foesOf_9 : decode nCompany_foesOf.2.1 9 = .ok (.getfield 34, 3) := by decide +kernel
theorem dCompany_foesOf_12 : decode nCompany_foesOf.2.1 12 = .ok (.iload_n 1, 1) := by decide +kernel
theorem dCompany_foesOf_13 : decode nCompany_foesOf.2.1 13 = .ok (.iaload, 1) := by decide +kernel
theorem dCompany_foesOf_14 : decode nCompany_foesOf.2.1 14 = .ok (.goto 4, 3) := by decide +kernel
theorem dCompany_foesOf_17 : decode nCompany_foesOf.2.1 17 = .ok (.iconst 0, 1) := by decide +kernel
theorem dCompany_foesOf_18 : decode nCompany_foesOf.2.1 18 = .ok (.ireturn, 1) := by decide +kernel
theorem dCompany_areFoes_0 : decode nCompany_areFoes.2.1 0 = .ok (.aload_n 0, 1) := by decide +kernel
theorem dCompany_areFoes_1 : decode nCompany_areFoes.2.1 1 = .ok (.iload_n 2, 1) := by decide +kernel
theorem dCompany_areFoes_2 : decode nCompany_areFoes.2.1 2 = .ok (.invokevirtual 48, 3) := by decide +kernel
theorem dCompany_areFoes_5 : decode nCompany_areFoes.2.1 5 = .ok (.ifCond .eq 20, 3) := by decide +kernel
theorem dCompany_areFoes_8 : decode nCompany_areFoes.2.1 8 = .ok (.aload_n 0, 1) := by decide +kernel
theorem dCompany_areFoes_9 : decode nCompany_areFoes.2.1 9 = .ok (.iload_n 1, 1) := by decide +kernel
theorem dCompany_areFoes_10 : decode nCompany_areFoes.2.1 10 = .ok (.invokevirtual 88, 3) := by decide +kernel
theorem dCompany_areFoes_13 : decode nCompany_areFoes.2.1 13 = .ok (.iload_n 2, 1) := by decide +kernel
theorem dCompany_areFoes_14 : decode nCompany_areFoes.2.1 14 = .ok (.ishr, 1) := by decide +kernel
theorem dCompany_areFoes_15 : decode nCompany_areFoes.2.1 15 = .ok (.iconst 1, 1) := by decide +kernel
theorem dCompany_areFoes_16 : decode nCompany_areFoes.2.1 16 = .ok (.iand, 1) := by decide +kernel
theorem dCompany_areFoes_17 : decode nCompany_areFoes.2.1 17 = .ok (.iconst 1, 1) := by decide +kernel
theorem dCompany_areFoes_18 : decode nCompany_areFoes.2.1 18 = .ok (.if_icmp .ne 7, 3) := by decide +kernel
theorem dCompany_areFoes_21 : decode nCompany_areFoes.2.1 21 = .ok (.iconst 1, 1) := by decide +kernel
theorem dCompany_areFoes_22 : decode nCompany_areFoes.2.1 22 = .ok (.goto 4, 3) := by decide +kernel
theorem dCompany_areFoes_25 : decode nCompany_areFoes.2.1 25 = .ok (.iconst 0, 1) := by decide +kernel
theorem dCompany_areFoes_26 : decode nCompany_areFoes.2.1 26 = .ok (.ireturn, 1) := by decide +kernel
theorem dCompany_setFoes_0 : decode nCompany_setFoes.2.1 0 = .ok (.aload_n 0, 1) := by decide +kernel
theorem dCompany_setFoes_1 : decode nCompany_setFoes.2.1 1 = .ok (.iload_n 1, 1) := by decide +kernel
theorem dCompany_setFoes_2 : decode nCompany_setFoes.2.1 2 = .ok (.iload_n 2, 1) := by decide +kernel
theorem dCompany_setFoes_3 : decode nCompany_setFoes.2.1 3 = .ok (.invokevirtual 82, 3) := by decide +kernel
theorem dCompany_setFoes_6 : decode nCompany_setFoes.2.1 6 = .ok (.ifCond .eq 73, 3) := by decide +kernel
theorem dCompany_setFoes_9 : decode nCompany_setFoes.2.1 9 = .ok (.aload_n 0, 1) := by decide +kernel
theorem dCompany_setFoes_10 : decode nCompany_setFoes.2.1 10 = .ok (.getfield 34, 3) := by decide +kernel
theorem dCompany_setFoes_13 : decode nCompany_setFoes.2.1 13 = .ok (.iload_n 1, 1) := by decide +kernel
theorem dCompany_setFoes_14 : decode nCompany_setFoes.2.1 14 = .ok (.iload_n 3, 1) := by decide +kernel
theorem dCompany_setFoes_15 : decode nCompany_setFoes.2.1 15 = .ok (.ifCond .eq 16, 3) := by decide +kernel
theorem dCompany_setFoes_18 : decode nCompany_setFoes.2.1 18 = .ok (.aload_n 0, 1) := by decide +kernel
theorem dCompany_setFoes_19 : decode nCompany_setFoes.2.1 19 = .ok (.getfield 34, 3) := by decide +kernel
theorem dCompany_setFoes_22 : decode nCompany_setFoes.2.1 22 = .ok (.iload_n 1, 1) := by decide +kernel
theorem dCompany_setFoes_23 : decode nCompany_setFoes.2.1 23 = .ok (.iaload, 1) := by decide +kernel
theorem dCompany_setFoes_24 : decode nCompany_setFoes.2.1 24 = .ok (.iconst 1, 1) := by decide +kernel
theorem dCompany_setFoes_25 : decode nCompany_setFoes.2.1 25 = .ok (.iload_n 2, 1) := by decide +kernel
theorem dCompany_setFoes_26 : decode nCompany_setFoes.2.1 26 = .ok (.ishl, 1) := by decide +kernel
theorem dCompany_setFoes_27 : decode nCompany_setFoes.2.1 27 = .ok (.ior, 1) := by decide +kernel
theorem dCompany_setFoes_28 : decode nCompany_setFoes.2.1 28 = .ok (.goto 15, 3) := by decide +kernel
theorem dCompany_setFoes_31 : decode nCompany_setFoes.2.1 31 = .ok (.aload_n 0, 1) := by decide +kernel
theorem dCompany_setFoes_32 : decode nCompany_setFoes.2.1 32 = .ok (.getfield 34, 3) := by decide +kernel
theorem dCompany_setFoes_35 : decode nCompany_setFoes.2.1 35 = .ok (.iload_n 1, 1) := by decide +kernel
theorem dCompany_setFoes_36 : decode nCompany_setFoes.2.1 36 = .ok (.iaload, 1) := by decide +kernel
theorem dCompany_setFoes_37 : decode nCompany_setFoes.2.1 37 = .ok (.iconst 1, 1) := by decide +kernel
theorem dCompany_setFoes_38 : decode nCompany_setFoes.2.1 38 = .ok (.iload_n 2, 1) := by decide +kernel
theorem dCompany_setFoes_39 : decode nCompany_setFoes.2.1 39 = .ok (.ishl, 1) := by decide +kernel
theorem dCompany_setFoes_40 : decode nCompany_setFoes.2.1 40 = .ok (.iconst (-1), 1) := by decide +kernel
theorem dCompany_setFoes_41 : decode nCompany_setFoes.2.1 41 = .ok (.ixor, 1) := by decide +kernel
theorem dCompany_setFoes_42 : decode nCompany_setFoes.2.1 42 = .ok (.iand, 1) := by decide +kernel
theorem dCompany_setFoes_43 : decode nCompany_setFoes.2.1 43 = .ok (.iastore, 1) := by decide +kernel
theorem dCompany_setFoes_44 : decode nCompany_setFoes.2.1 44 = .ok (.aload_n 0, 1) := by decide +kernel
theorem dCompany_setFoes_45 : decode nCompany_setFoes.2.1 45 = .ok (.getfield 34, 3) := by decide +kernel
theorem dCompany_setFoes_48 : decode nCompany_setFoes.2.1 48 = .ok (.iload_n 2, 1) := by decide +kernel
theorem dCompany_setFoes_49 : decode nCompany_setFoes.2.1 49 = .ok (.iload_n 3, 1) := by decide +kernel
theorem dCompany_setFoes_50 : decode nCompany_setFoes.2.1 50 = .ok (.ifCond .eq 16, 3) := by decide +kernel
theorem dCompany_setFoes_53 : decode nCompany_setFoes.2.1 53 = .ok (.aload_n 0, 1) := by decide +kernel
theorem dCompany_setFoes_54 : decode nCompany_setFoes.2.1 54 = .ok (.getfield 34, 3) := by decide +kernel
theorem dCompany_setFoes_57 : decode nCompany_setFoes.2.1 57 = .ok (.iload_n 2, 1) := by decide +kernel
theorem dCompany_setFoes_58 : decode nCompany_setFoes.2.1 58 = .ok (.iaload, 1) := by decide +kernel
theorem dCompany_setFoes_59 : decode nCompany_setFoes.2.1 59 = .ok (.iconst 1, 1) := by decide +kernel
theorem dCompany_setFoes_60 : decode nCompany_setFoes.2.1 60 = .ok (.iload_n 1, 1) := by decide +kernel
theorem dCompany_setFoes_61 : decode nCompany_setFoes.2.1 61 = .ok (.ishl, 1) := by decide +kernel
theorem dCompany_setFoes_62 : decode nCompany_setFoes.2.1 62 = .ok (.ior, 1) := by decide +kernel
theorem dCompany_setFoes_63 : decode nCompany_setFoes.2.1 63 = .ok (.goto 15, 3) := by decide +kernel
theorem dCompany_setFoes_66 : decode nCompany_setFoes.2.1 66 = .ok (.aload_n 0, 1) := by decide +kernel
theorem dCompany_setFoes_67 : decode nCompany_setFoes.2.1 67 = .ok (.getfield 34, 3) := by decide +kernel
theorem dCompany_setFoes_70 : decode nCompany_setFoes.2.1 70 = .ok (.iload_n 2, 1) := by decide +kernel
theorem dCompany_setFoes_71 : decode nCompany_setFoes.2.1 71 = .ok (.iaload, 1) := by decide +kernel
theorem dCompany_setFoes_72 : decode nCompany_setFoes.2.1 72 = .ok (.iconst 1, 1) := by decide +kernel
theorem dCompany_setFoes_73 : decode nCompany_setFoes.2.1 73 = .ok (.iload_n 1, 1) := by decide +kernel
theorem dCompany_setFoes_74 : decode nCompany_setFoes.2.1 74 = .ok (.ishl, 1) := by decide +kernel
theorem dCompany_setFoes_75 : decode nCompany_setFoes.2.1 75 = .ok (.iconst (-1), 1) := by decide +kernel
theorem dCompany_setFoes_76 : decode nCompany_setFoes.2.1 76 = .ok (.ixor, 1) := by decide +kernel
theorem dCompany_setFoes_77 : decode nCompany_setFoes.2.1 77 = .ok (.iand, 1) := by decide +kernel
theorem dCompany_setFoes_78 : decode nCompany_setFoes.2.1 78 = .ok (.iastore, 1) := by decide +kernel
theorem dCompany_setFoes_79 : decode nCompany_setFoes.2.1 79 = .ok (.return_, 1) := by decide +kernel
theorem dCompany_outFrom_0 : decode nCompany_outFrom.2.1 0 = .ok (.aload_n 0, 1) := by decide +kernel
theorem dCompany_outFrom_1 : decode nCompany_outFrom.2.1 1 = .ok (.iload_n 1, 1) := by decide +kernel
theorem dCompany_outFrom_2 : decode nCompany_outFrom.2.1 2 = .ok (.invokevirtual 48, 3) := by decide +kernel
theorem dCompany_outFrom_5 : decode nCompany_outFrom.2.1 5 = .ok (.ifCond .eq 12, 3) := by decide +kernel
theorem dCompany_outFrom_8 : decode nCompany_outFrom.2.1 8 = .ok (.aload_n 0, 1) := by decide +kernel
theorem dCompany_outFrom_9 : decode nCompany_outFrom.2.1 9 = .ok (.getfield 37, 3) := by decide +kernel
theorem dCompany_outFrom_12 : decode nCompany_outFrom.2.1 12 = .ok (.iload_n 1, 1) := by decide +kernel
theorem dCompany_outFrom_13 : decode nCompany_outFrom.2.1 13 = .ok (.iaload, 1) := by decide +kernel
theorem dCompany_outFrom_14 : decode nCompany_outFrom.2.1 14 = .ok (.goto 5, 3) := by decide +kernel
theorem dCompany_outFrom_17 : decode nCompany_outFrom.2.1 17 = .ok (.bipush 30, 2) := by decide +kernel
theorem dCompany_outFrom_19 : decode nCompany_outFrom.2.1 19 = .ok (.ireturn, 1) := by decide +kernel
theorem dCompany_setOutFrom_0 : decode nCompany_setOutFrom.2.1 0 = .ok (.aload_n 0, 1) := by decide +kernel
theorem dCompany_setOutFrom_1 : decode nCompany_setOutFrom.2.1 1 = .ok (.iload_n 1, 1) := by decide +kernel
theorem dCompany_setOutFrom_2 : decode nCompany_setOutFrom.2.1 2 = .ok (.invokevirtual 48, 3) := by decide +kernel
theorem dCompany_setOutFrom_5 : decode nCompany_setOutFrom.2.1 5 = .ok (.ifCond .eq 10, 3) := by decide +kernel
theorem dCompany_setOutFrom_8 : decode nCompany_setOutFrom.2.1 8 = .ok (.aload_n 0, 1) := by decide +kernel
theorem dCompany_setOutFrom_9 : decode nCompany_setOutFrom.2.1 9 = .ok (.getfield 37, 3) := by decide +kernel
theorem dCompany_setOutFrom_12 : decode nCompany_setOutFrom.2.1 12 = .ok (.iload_n 1, 1) := by decide +kernel
theorem dCompany_setOutFrom_13 : decode nCompany_setOutFrom.2.1 13 = .ok (.iload_n 2, 1) := by decide +kernel
theorem dCompany_setOutFrom_14 : decode nCompany_setOutFrom.2.1 14 = .ok (.iastore, 1) := by decide +kernel
theorem dCompany_setOutFrom_15 : decode nCompany_setOutFrom.2.1 15 = .ok (.return_, 1) := by decide +kernel
theorem dCompany_isOut_0 : decode nCompany_isOut.2.1 0 = .ok (.aload_n 0, 1) := by decide +kernel
theorem dCompany_isOut_1 : decode nCompany_isOut.2.1 1 = .ok (.iload_n 1, 1) := by decide +kernel
theorem dCompany_isOut_2 : decode nCompany_isOut.2.1 2 = .ok (.invokevirtual 91, 3) := by decide +kernel
theorem dCompany_isOut_5 : decode nCompany_isOut.2.1 5 = .ok (.bipush 30, 2) := by decide +kernel
theorem dCompany_isOut_7 : decode nCompany_isOut.2.1 7 = .ok (.if_icmp .ge 7, 3) := by decide +kernel
theorem dCompany_isOut_10 : decode nCompany_isOut.2.1 10 = .ok (.iconst 1, 1) := by decide +kernel
theorem dCompany_isOut_11 : decode nCompany_isOut.2.1 11 = .ok (.goto 4, 3) := by decide +kernel
theorem dCompany_isOut_14 : decode nCompany_isOut.2.1 14 = .ok (.iconst 0, 1) := by decide +kernel
theorem dCompany_isOut_15 : decode nCompany_isOut.2.1 15 = .ok (.ireturn, 1) := by decide +kernel
theorem dCompany_countOut_0 : decode nCompany_countOut.2.1 0 = .ok (.iconst 0, 1) := by decide +kernel
theorem dCompany_countOut_1 : decode nCompany_countOut.2.1 1 = .ok (.istore_n 1, 1) := by decide +kernel
theorem dCompany_countOut_2 : decode nCompany_countOut.2.1 2 = .ok (.iconst 0, 1) := by decide +kernel
theorem dCompany_countOut_3 : decode nCompany_countOut.2.1 3 = .ok (.istore_n 2, 1) := by decide +kernel
theorem dCompany_countOut_4 : decode nCompany_countOut.2.1 4 = .ok (.iload_n 2, 1) := by decide +kernel
theorem dCompany_countOut_5 : decode nCompany_countOut.2.1 5 = .ok (.aload_n 0, 1) := by decide +kernel
theorem dCompany_countOut_6 : decode nCompany_countOut.2.1 6 = .ok (.getfield 9, 3) := by decide +kernel
theorem dCompany_countOut_9 : decode nCompany_countOut.2.1 9 = .ok (.if_icmp .ge 25, 3) := by decide +kernel
theorem dCompany_countOut_12 : decode nCompany_countOut.2.1 12 = .ok (.iload_n 1, 1) := by decide +kernel
theorem dCompany_countOut_13 : decode nCompany_countOut.2.1 13 = .ok (.aload_n 0, 1) := by decide +kernel
theorem dCompany_countOut_14 : decode nCompany_countOut.2.1 14 = .ok (.iload_n 2, 1) := by decide +kernel
theorem dCompany_countOut_15 : decode nCompany_countOut.2.1 15 = .ok (.invokevirtual 93, 3) := by decide +kernel
theorem dCompany_countOut_18 : decode nCompany_countOut.2.1 18 = .ok (.ifCond .eq 7, 3) := by decide +kernel
theorem dCompany_countOut_21 : decode nCompany_countOut.2.1 21 = .ok (.iconst 1, 1) := by decide +kernel
theorem dCompany_countOut_22 : decode nCompany_countOut.2.1 22 = .ok (.goto 4, 3) := by decide +kernel
theorem dCompany_countOut_25 : decode nCompany_countOut.2.1 25 = .ok (.iconst 0, 1) := by decide +kernel
theorem dCompany_countOut_26 : decode nCompany_countOut.2.1 26 = .ok (.iadd, 1) := by decide +kernel
theorem dCompany_countOut_27 : decode nCompany_countOut.2.1 27 = .ok (.istore_n 1, 1) := by decide +kernel
theorem dCompany_countOut_28 : decode nCompany_countOut.2.1 28 = .ok (.iinc 2 1, 3) := by decide +kernel
theorem dCompany_countOut_31 : decode nCompany_countOut.2.1 31 = .ok (.goto (-27), 3) := by decide +kernel
theorem dCompany_countOut_34 : decode nCompany_countOut.2.1 34 = .ok (.iload_n 1, 1) := by decide +kernel
theorem dCompany_countOut_35 : decode nCompany_countOut.2.1 35 = .ok (.ireturn, 1) := by decide +kernel
theorem dCompany_countOwned_0 : decode nCompany_countOwned.2.1 0 = .ok (.iconst 0, 1) := by decide +kernel
theorem dCompany_countOwned_1 : decode nCompany_countOwned.2.1 1 = .ok (.istore_n 1, 1) := by decide +kernel
theorem dCompany_countOwned_2 : decode nCompany_countOwned.2.1 2 = .ok (.iconst 0, 1) := by decide +kernel
theorem dCompany_countOwned_3 : decode nCompany_countOwned.2.1 3 = .ok (.istore_n 2, 1) := by decide +kernel
theorem dCompany_countOwned_4 : decode nCompany_countOwned.2.1 4 = .ok (.iload_n 2, 1) := by decide +kernel
theorem dCompany_countOwned_5 : decode nCompany_countOwned.2.1 5 = .ok (.aload_n 0, 1) := by decide +kernel
theorem dCompany_countOwned_6 : decode nCompany_countOwned.2.1 6 = .ok (.getfield 9, 3) := by decide +kernel
theorem dCompany_countOwned_9 : decode nCompany_countOwned.2.1 9 = .ok (.if_icmp .ge 27, 3) := by decide +kernel
theorem dCompany_countOwned_12 : decode nCompany_countOwned.2.1 12 = .ok (.iload_n 1, 1) := by decide +kernel
theorem dCompany_countOwned_13 : decode nCompany_countOwned.2.1 13 = .ok (.aload_n 0, 1) := by decide +kernel
theorem dCompany_countOwned_14 : decode nCompany_countOwned.2.1 14 = .ok (.iload_n 2, 1) := by decide +kernel
theorem dCompany_countOwned_15 : decode nCompany_countOwned.2.1 15 = .ok (.invokevirtual 96, 3) := by decide +kernel
theorem dCompany_countOwned_18 : decode nCompany_countOwned.2.1 18 = .ok (.ldc 40, 2) := by decide +kernel
theorem dCompany_countOwned_20 : decode nCompany_countOwned.2.1 20 = .ok (.if_icmp .eq 7, 3) := by decide +kernel
theorem dCompany_countOwned_23 : decode nCompany_countOwned.2.1 23 = .ok (.iconst 1, 1) := by decide +kernel
theorem dCompany_countOwned_24 : decode nCompany_countOwned.2.1 24 = .ok (.goto 4, 3) := by decide +kernel
theorem dCompany_countOwned_27 : decode nCompany_countOwned.2.1 27 = .ok (.iconst 0, 1) := by decide +kernel
theorem dCompany_countOwned_28 : decode nCompany_countOwned.2.1 28 = .ok (.iadd, 1) := by decide +kernel
theorem dCompany_countOwned_29 : decode nCompany_countOwned.2.1 29 = .ok (.istore_n 1, 1) := by decide +kernel
theorem dCompany_countOwned_30 : decode nCompany_countOwned.2.1 30 = .ok (.iinc 2 1, 3) := by decide +kernel
theorem dCompany_countOwned_33 : decode nCompany_countOwned.2.1 33 = .ok (.goto (-29), 3) := by decide +kernel
theorem dCompany_countOwned_36 : decode nCompany_countOwned.2.1 36 = .ok (.iload_n 1, 1) := by decide +kernel
theorem dCompany_countOwned_37 : decode nCompany_countOwned.2.1 37 = .ok (.ireturn, 1) := by decide +kernel
theorem dCompany_countFeuds_0 : decode nCompany_countFeuds.2.1 0 = .ok (.iconst 0, 1) := by decide +kernel
theorem dCompany_countFeuds_1 : decode nCompany_countFeuds.2.1 1 = .ok (.istore_n 1, 1) := by decide +kernel
theorem dCompany_countFeuds_2 : decode nCompany_countFeuds.2.1 2 = .ok (.iconst 0, 1) := by decide +kernel
theorem dCompany_countFeuds_3 : decode nCompany_countFeuds.2.1 3 = .ok (.istore_n 2, 1) := by decide +kernel
theorem dCompany_countFeuds_4 : decode nCompany_countFeuds.2.1 4 = .ok (.iload_n 2, 1) := by decide +kernel
theorem dCompany_countFeuds_5 : decode nCompany_countFeuds.2.1 5 = .ok (.aload_n 0, 1) := by decide +kernel
theorem dCompany_countFeuds_6 : decode nCompany_countFeuds.2.1 6 = .ok (.getfield 9, 3) := by decide +kernel
theorem dCompany_countFeuds_9 : decode nCompany_countFeuds.2.1 9 = .ok (.if_icmp .ge 20, 3) := by decide +kernel
theorem dCompany_countFeuds_12 : decode nCompany_countFeuds.2.1 12 = .ok (.iload_n 1, 1) := by decide +kernel
theorem dCompany_countFeuds_13 : decode nCompany_countFeuds.2.1 13 = .ok (.aload_n 0, 1) := by decide +kernel
theorem dCompany_countFeuds_14 : decode nCompany_countFeuds.2.1 14 = .ok (.iload_n 2, 1) := by decide +kernel
theorem dCompany_countFeuds_15 : decode nCompany_countFeuds.2.1 15 = .ok (.invokevirtual 88, 3) := by decide +kernel
theorem dCompany_countFeuds_18 : decode nCompany_countFeuds.2.1 18 = .ok (.invokestatic 99, 3) := by decide +kernel
theorem dCompany_countFeuds_21 : decode nCompany_countFeuds.2.1 21 = .ok (.iadd, 1) := by decide +kernel
theorem dCompany_countFeuds_22 : decode nCompany_countFeuds.2.1 22 = .ok (.istore_n 1, 1) := by decide +kernel
theorem dCompany_countFeuds_23 : decode nCompany_countFeuds.2.1 23 = .ok (.iinc 2 1, 3) := by decide +kernel
theorem dCompany_countFeuds_26 : decode nCompany_countFeuds.2.1 26 = .ok (.goto (-22), 3) := by decide +kernel
theorem dCompany_countFeuds_29 : decode nCompany_countFeuds.2.1 29 = .ok (.iload_n 1, 1) := by decide +kernel
theorem dCompany_countFeuds_30 : decode nCompany_countFeuds.2.1 30 = .ok (.iconst 2, 1) := by decide +kernel
theorem dCompany_countFeuds_31 : decode nCompany_countFeuds.2.1 31 = .ok (.idiv, 1) := by decide +kernel
theorem dCompany_countFeuds_32 : decode nCompany_countFeuds.2.1 32 = .ok (.ireturn, 1) := by decide +kernel
theorem dCompany_countFreshPairs_0 : decode nCompany_countFreshPairs.2.1 0 = .ok (.iconst 0, 1) := by decide +kernel
theorem dCompany_countFreshPairs_1 : decode nCompany_countFreshPairs.2.1 1 = .ok (.istore_n 1, 1) := by decide +kernel
theorem dCompany_countFreshPairs_2 : decode nCompany_countFreshPairs.2.1 2 = .ok (.iconst 0, 1) := by decide +kernel
theorem dCompany_countFreshPairs_3 : decode nCompany_countFreshPairs.2.1 3 = .ok (.istore_n 2, 1) := by decide +kernel
theorem dCompany_countFreshPairs_4 : decode nCompany_countFreshPairs.2.1 4 = .ok (.iload_n 2, 1) := by decide +kernel
theorem dCompany_countFreshPairs_5 : decode nCompany_countFreshPairs.2.1 5 = .ok (.aload_n 0, 1) := by decide +kernel
theorem dCompany_countFreshPairs_6 : decode nCompany_countFreshPairs.2.1 6 = .ok (.getfield 9, 3) := by decide +kernel
theorem dCompany_countFreshPairs_9 : decode nCompany_countFreshPairs.2.1 9 = .ok (.if_icmp .ge 42, 3) := by decide +kernel
theorem dCompany_countFreshPairs_12 : decode nCompany_countFreshPairs.2.1 12 = .ok (.iconst 0, 1) := by decide +kernel
theorem dCompany_countFreshPairs_13 : decode nCompany_countFreshPairs.2.1 13 = .ok (.istore_n 3, 1) := by decide +kernel
theorem dCompany_countFreshPairs_14 : decode nCompany_countFreshPairs.2.1 14 = .ok (.iload_n 3, 1) := by decide +kernel
theorem dCompany_countFreshPairs_15 : decode nCompany_countFreshPairs.2.1 15 = .ok (.aload_n 0, 1) := by decide +kernel
theorem dCompany_countFreshPairs_16 : decode nCompany_countFreshPairs.2.1 16 = .ok (.getfield 9, 3) := by decide +kernel
theorem dCompany_countFreshPairs_19 : decode nCompany_countFreshPairs.2.1 19 = .ok (.if_icmp .ge 26, 3) := by decide +kernel
theorem dCompany_countFreshPairs_22 : decode nCompany_countFreshPairs.2.1 22 = .ok (.iload_n 1, 1) := by decide +kernel
theorem dCompany_countFreshPairs_23 : decode nCompany_countFreshPairs.2.1 23 = .ok (.aload_n 0, 1) := by decide +kernel
theorem dCompany_countFreshPairs_24 : decode nCompany_countFreshPairs.2.1 24 = .ok (.iload_n 2, 1) := by decide +kernel
theorem dCompany_countFreshPairs_25 : decode nCompany_countFreshPairs.2.1 25 = .ok (.iload_n 3, 1) := by decide +kernel
theorem dCompany_countFreshPairs_26 : decode nCompany_countFreshPairs.2.1 26 = .ok (.invokevirtual 85, 3) := by decide +kernel
theorem dCompany_countFreshPairs_29 : decode nCompany_countFreshPairs.2.1 29 = .ok (.ifCond .eq 7, 3) := by decide +kernel
theorem dCompany_countFreshPairs_32 : decode nCompany_countFreshPairs.2.1 32 = .ok (.iconst 1, 1) := by decide +kernel
theorem dCompany_countFreshPairs_33 : decode nCompany_countFreshPairs.2.1 33 = .ok (.goto 4, 3) := by decide +kernel
theorem dCompany_countFreshPairs_36 : decode nCompany_countFreshPairs.2.1 36 = .ok (.iconst 0, 1) := by decide +kernel
theorem dCompany_countFreshPairs_37 : decode nCompany_countFreshPairs.2.1 37 = .ok (.iadd, 1) := by decide +kernel
theorem dCompany_countFreshPairs_38 : decode nCompany_countFreshPairs.2.1 38 = .ok (.istore_n 1, 1) := by decide +kernel
theorem dCompany_countFreshPairs_39 : decode nCompany_countFreshPairs.2.1 39 = .ok (.iinc 3 1, 3) := by decide +kernel
theorem dCompany_countFreshPairs_42 : decode nCompany_countFreshPairs.2.1 42 = .ok (.goto (-28), 3) := by decide +kernel
theorem dCompany_countFreshPairs_45 : decode nCompany_countFreshPairs.2.1 45 = .ok (.iinc 2 1, 3) := by decide +kernel
theorem dCompany_countFreshPairs_48 : decode nCompany_countFreshPairs.2.1 48 = .ok (.goto (-44), 3) := by decide +kernel
theorem dCompany_countFreshPairs_51 : decode nCompany_countFreshPairs.2.1 51 = .ok (.iload_n 1, 1) := by decide +kernel
theorem dCompany_countFreshPairs_52 : decode nCompany_countFreshPairs.2.1 52 = .ok (.ireturn, 1) := by decide +kernel
theorem dNight_init_0 : decode nNight_init.2.1 0 = .ok (.aload_n 0, 1) := by decide +kernel
theorem dNight_init_1 : decode nNight_init.2.1 1 = .ok (.invokespecial 3, 3) := by decide +kernel
theorem dNight_init_4 : decode nNight_init.2.1 4 = .ok (.aload_n 0, 1) := by decide +kernel
theorem dNight_init_5 : decode nNight_init.2.1 5 = .ok (.aload_n 1, 1) := by decide +kernel
theorem dNight_init_6 : decode nNight_init.2.1 6 = .ok (.putfield 9, 3) := by decide +kernel
theorem dNight_init_9 : decode nNight_init.2.1 9 = .ok (.aload_n 0, 1) := by decide +kernel
theorem dNight_init_10 : decode nNight_init.2.1 10 = .ok (.aload_n 2, 1) := by decide +kernel
theorem dNight_init_11 : decode nNight_init.2.1 11 = .ok (.putfield 15, 3) := by decide +kernel
theorem dNight_init_14 : decode nNight_init.2.1 14 = .ok (.aload_n 0, 1) := by decide +kernel
theorem dNight_init_15 : decode nNight_init.2.1 15 = .ok (.iconst 0, 1) := by decide +kernel
theorem dNight_init_16 : decode nNight_init.2.1 16 = .ok (.putfield 19, 3) := by decide +kernel
theorem dNight_init_19 : decode nNight_init.2.1 19 = .ok (.aload_n 0, 1) := by decide +kernel
theorem dNight_init_20 : decode nNight_init.2.1 20 = .ok (.bipush 8, 2) := by decide +kernel
theorem dNight_init_22 : decode nNight_init.2.1 22 = .ok (.newarray .int, 2) := by decide +kernel
theorem dNight_init_24 : decode nNight_init.2.1 24 = .ok (.putfield 23, 3) := by decide +kernel
theorem dNight_init_27 : decode nNight_init.2.1 27 = .ok (.aload_n 0, 1) := by decide +kernel
theorem dNight_init_28 : decode nNight_init.2.1 28 = .ok (.sipush 240, 3) := by decide +kernel
theorem dNight_init_31 : decode nNight_init.2.1 31 = .ok (.newarray .int, 2) := by decide +kernel
theorem dNight_init_33 : decode nNight_init.2.1 33 = .ok (.putfield 27, 3) := by decide +kernel
theorem dNight_init_36 : decode nNight_init.2.1 36 = .ok (.aload_n 0, 1) := by decide +kernel
theorem dNight_init_37 : decode nNight_init.2.1 37 = .ok (.getfield 23, 3) := by decide +kernel
theorem dNight_init_40 : decode nNight_init.2.1 40 = .ok (.ldc 30, 2) := by decide +kernel
theorem dNight_init_42 : decode nNight_init.2.1 42 = .ok (.invokestatic 31, 3) := by decide +kernel
theorem dNight_init_45 : decode nNight_init.2.1 45 = .ok (.aload_n 0, 1) := by decide +kernel
theorem dNight_init_46 : decode nNight_init.2.1 46 = .ok (.getfield 27, 3) := by decide +kernel
theorem dNight_init_49 : decode nNight_init.2.1 49 = .ok (.ldc 30, 2) := by decide +kernel
theorem dNight_init_51 : decode nNight_init.2.1 51 = .ok (.invokestatic 31, 3) := by decide +kernel
theorem dNight_init_54 : decode nNight_init.2.1 54 = .ok (.return_, 1) := by decide +kernel
theorem dNight_clear_0 : decode nNight_clear.2.1 0 = .ok (.aload_n 0, 1) := by decide +kernel
theorem dNight_clear_1 : decode nNight_clear.2.1 1 = .ok (.iconst 0, 1) := by decide +kernel
theorem dNight_clear_2 : decode nNight_clear.2.1 2 = .ok (.putfield 19, 3) := by decide +kernel
theorem dNight_clear_5 : decode nNight_clear.2.1 5 = .ok (.aload_n 0, 1) := by decide +kernel
theorem dNight_clear_6 : decode nNight_clear.2.1 6 = .ok (.getfield 23, 3) := by decide +kernel
theorem dNight_clear_9 : decode nNight_clear.2.1 9 = .ok (.ldc 30, 2) := by decide +kernel
theorem dNight_clear_11 : decode nNight_clear.2.1 11 = .ok (.invokestatic 31, 3) := by decide +kernel
theorem dNight_clear_14 : decode nNight_clear.2.1 14 = .ok (.aload_n 0, 1) := by decide +kernel
theorem dNight_clear_15 : decode nNight_clear.2.1 15 = .ok (.getfield 27, 3) := by decide +kernel
theorem dNight_clear_18 : decode nNight_clear.2.1 18 = .ok (.ldc 30, 2) := by decide +kernel
theorem dNight_clear_20 : decode nNight_clear.2.1 20 = .ok (.invokestatic 31, 3) := by decide +kernel
theorem dNight_clear_23 : decode nNight_clear.2.1 23 = .ok (.return_, 1) := by decide +kernel
theorem dNight_begin_0 : decode nNight_begin.2.1 0 = .ok (.aload_n 0, 1) := by decide +kernel
theorem dNight_begin_1 : decode nNight_begin.2.1 1 = .ok (.invokevirtual 37, 3) := by decide +kernel
theorem dNight_begin_4 : decode nNight_begin.2.1 4 = .ok (.aload_n 0, 1) := by decide +kernel
theorem dNight_begin_5 : decode nNight_begin.2.1 5 = .ok (.iconst 1, 1) := by decide +kernel
theorem dNight_begin_6 : decode nNight_begin.2.1 6 = .ok (.putfield 19, 3) := by decide +kernel
theorem dNight_begin_9 : decode nNight_begin.2.1 9 = .ok (.iconst 0, 1) := by decide +kernel
theorem dNight_begin_10 : decode nNight_begin.2.1 10 = .ok (.istore_n 2, 1) := by decide +kernel
theorem dNight_begin_11 : decode nNight_begin.2.1 11 = .ok (.iload_n 2, 1) := by decide +kernel
theorem dNight_begin_12 : decode nNight_begin.2.1 12 = .ok (.aload_n 0, 1) := by decide +kernel
theorem dNight_begin_13 : decode nNight_begin.2.1 13 = .ok (.getfield 9, 3) := by decide +kernel
theorem dNight_begin_16 : decode nNight_begin.2.1 16 = .ok (.invokevirtual 40, 3) := by decide +kernel
theorem dNight_begin_19 : decode nNight_begin.2.1 19 = .ok (.if_icmp .ge 29, 3) := by decide +kernel
theorem dNight_begin_22 : decode nNight_begin.2.1 22 = .ok (.aload_n 1, 1) := by decide +kernel
theorem dNight_begin_23 : decode nNight_begin.2.1 23 = .ok (.iload_n 2, 1) := by decide +kernel
theorem dNight_begin_24 : decode nNight_begin.2.1 24 = .ok (.invokevirtual 46, 3) := by decide +kernel
theorem dNight_begin_27 : decode nNight_begin.2.1 27 = .ok (.istore_n 3, 1) := by decide +kernel
theorem dNight_begin_28 : decode nNight_begin.2.1 28 = .ok (.aload_n 0, 1) := by decide +kernel
theorem dNight_begin_29 : decode nNight_begin.2.1 29 = .ok (.getfield 23, 3) := by decide +kernel
theorem dNight_begin_32 : decode nNight_begin.2.1 32 = .ok (.iload_n 2, 1) := by decide +kernel
theorem dNight_begin_33 : decode nNight_begin.2.1 33 = .ok (.iload_n 3, 1) := by decide +kernel
theorem dNight_begin_34 : decode nNight_begin.2.1 34 = .ok (.iastore, 1) := by decide +kernel
theorem dNight_begin_35 : decode nNight_begin.2.1 35 = .ok (.aload_n 0, 1) := by decide +kernel
theorem dNight_begin_36 : decode nNight_begin.2.1 36 = .ok (.iload_n 2, 1) := by decide +kernel
theorem dNight_begin_37 : decode nNight_begin.2.1 37 = .ok (.iconst 0, 1) := by decide +kernel
theorem dNight_begin_38 : decode nNight_begin.2.1 38 = .ok (.iload_n 3, 1) := by decide +kernel
theorem dNight_begin_39 : decode nNight_begin.2.1 39 = .ok (.invokevirtual 52, 3) := by decide +kernel
theorem dNight_begin_42 : decode nNight_begin.2.1 42 = .ok (.iinc 2 1, 3) := by decide +kernel
theorem dNight_begin_45 : decode nNight_begin.2.1 45 = .ok (.goto (-34), 3) := by decide +kernel
theorem dNight_begin_48 : decode nNight_begin.2.1 48 = .ok (.return_, 1) := by decide +kernel
theorem dNight_hasCast_0 : decode nNight_hasCast.2.1 0 = .ok (.aload_n 0, 1) := by decide +kernel
theorem dNight_hasCast_1 : decode nNight_hasCast.2.1 1 = .ok (.getfield 19, 3) := by decide +kernel
theorem dNight_hasCast_4 : decode nNight_hasCast.2.1 4 = .ok (.ireturn, 1) := by decide +kernel
theorem dNight_castAt_0 : decode nNight_castAt.2.1 0 = .ok (.aload_n 0, 1) := by decide +kernel
theorem dNight_castAt_1 : decode nNight_castAt.2.1 1 = .ok (.getfield 9, 3) := by decide +kernel
theorem dNight_castAt_4 : decode nNight_castAt.2.1 4 = .ok (.iload_n 1, 1) := by decide +kernel
theorem dNight_castAt_5 : decode nNight_castAt.2.1 5 = .ok (.invokevirtual 56, 3) := by decide +kernel
theorem dNight_castAt_8 : decode nNight_castAt.2.1 8 = .ok (.ifCond .eq 12, 3) := by decide +kernel
theorem dNight_castAt_11 : decode nNight_castAt.2.1 11 = .ok (.aload_n 0, 1) := by decide +kernel
theorem dNight_castAt_12 : decode nNight_castAt.2.1 12 = .ok (.getfield 23, 3) := by decide +kernel
theorem dNight_castAt_15 : decode nNight_castAt.2.1 15 = .ok (.iload_n 1, 1) := by decide +kernel
theorem dNight_castAt_16 : decode nNight_castAt.2.1 16 = .ok (.iaload, 1) := by decide +kernel
theorem dNight_castAt_17 : decode nNight_castAt.2.1 17 = .ok (.goto 5, 3) := by decide +kernel
theorem dNight_castAt_20 : decode nNight_castAt.2.1 20 = .ok (.ldc 30, 2) := by decide +kernel
theorem dNight_castAt_22 : decode nNight_castAt.2.1 22 = .ok (.ireturn, 1) := by decide +kernel
theorem dNight_holderAt_0 : decode nNight_holderAt.2.1 0 = .ok (.aload_n 0, 1) := by decide +kernel
theorem dNight_holderAt_1 : decode nNight_holderAt.2.1 1 = .ok (.getfield 9, 3) := by decide +kernel
theorem dNight_holderAt_4 : decode nNight_holderAt.2.1 4 = .ok (.iload_n 1, 1) := by decide +kernel
theorem dNight_holderAt_5 : decode nNight_holderAt.2.1 5 = .ok (.invokevirtual 56, 3) := by decide +kernel
theorem dNight_holderAt_8 : decode nNight_holderAt.2.1 8 = .ok (.ifCond .eq 24, 3) := by decide +kernel
theorem dNight_holderAt_11 : decode nNight_holderAt.2.1 11 = .ok (.iload_n 2, 1) := by decide +kernel
theorem dNight_holderAt_12 : decode nNight_holderAt.2.1 12 = .ok (.invokestatic 60, 3) := by decide +kernel
theorem dNight_holderAt_15 : decode nNight_holderAt.2.1 15 = .ok (.ifCond .eq 17, 3) := by decide +kernel
theorem dNight_holderAt_18 : decode nNight_holderAt.2.1 18 = .ok (.aload_n 0, 1) := by decide +kernel
theorem dNight_holderAt_19 : decode nNight_holderAt.2.1 19 = .ok (.getfield 27, 3) := by decide +kernel
theorem dNight_holderAt_22 : decode nNight_holderAt.2.1 22 = .ok (.iload_n 1, 1) := by decide +kernel
theorem dNight_holderAt_23 : decode nNight_holderAt.2.1 23 = .ok (.bipush 30, 2) := by decide +kernel
theorem dNight_holderAt_25 : decode nNight_holderAt.2.1 25 = .ok (.imul, 1) := by decide +kernel
theorem dNight_holderAt_26 : decode nNight_holderAt.2.1 26 = .ok (.iload_n 2, 1) := by decide +kernel
theorem dNight_holderAt_27 : decode nNight_holderAt.2.1 27 = .ok (.iadd, 1) := by decide +kernel
theorem dNight_holderAt_28 : decode nNight_holderAt.2.1 28 = .ok (.iaload, 1) := by decide +kernel
theorem dNight_holderAt_29 : decode nNight_holderAt.2.1 29 = .ok (.goto 5, 3) := by decide +kernel
theorem dNight_holderAt_32 : decode nNight_holderAt.2.1 32 = .ok (.ldc 30, 2) := by decide +kernel
theorem dNight_holderAt_34 : decode nNight_holderAt.2.1 34 = .ok (.ireturn, 1) := by decide +kernel
theorem dNight_holdFrom_0 : decode nNight_holdFrom.2.1 0 = .ok (.iload_n 2, 1) := by decide +kernel
theorem dNight_holdFrom_1 : decode nNight_holdFrom.2.1 1 = .ok (.istore 4, 2) := by decide +kernel
theorem dNight_holdFrom_3 : decode nNight_holdFrom.2.1 3 = .ok (.iload 4, 2) := by decide +kernel
theorem dNight_holdFrom_5 : decode nNight_holdFrom.2.1 5 = .ok (.bipush 30, 2) := by decide +kernel
theorem dNight_holdFrom_7 : decode nNight_holdFrom.2.1 7 = .ok (.if_icmp .ge 41, 3) := by decide +kernel
theorem dNight_holdFrom_10 : decode nNight_holdFrom.2.1 10 = .ok (.aload_n 0, 1) := by decide +kernel
theorem dNight_holdFrom_11 : decode nNight_holdFrom.2.1 11 = .ok (.getfield 9, 3) := by decide +kernel
theorem dNight_holdFrom_14 : decode nNight_holdFrom.2.1 14 = .ok (.iload_n 1, 1) := by decide +kernel
theorem dNight_holdFrom_15 : decode nNight_holdFrom.2.1 15 = .ok (.invokevirtual 56, 3) := by decide +kernel
theorem dNight_holdFrom_18 : decode nNight_holdFrom.2.1 18 = .ok (.ifCond .eq 24, 3) := by decide +kernel
theorem dNight_holdFrom_21 : decode nNight_holdFrom.2.1 21 = .ok (.iload 4, 2) := by decide +kernel
theorem dNight_holdFrom_23 : decode nNight_holdFrom.2.1 23 = .ok (.invokestatic 60, 3) := by decide +kernel
theorem dNight_holdFrom_26 : decode nNight_holdFrom.2.1 26 = .ok (.ifCond .eq 16, 3) := by decide +kernel
theorem dNight_holdFrom_29 : decode nNight_holdFrom.2.1 29 = .ok (.aload_n 0, 1) := by decide +kernel
theorem dNight_holdFrom_30 : decode nNight_holdFrom.2.1 30 = .ok (.getfield 27, 3) := by decide +kernel
theorem dNight_holdFrom_33 : decode nNight_holdFrom.2.1 33 = .ok (.iload_n 1, 1) := by decide +kernel
theorem dNight_holdFrom_34 : decode nNight_holdFrom.2.1 34 = .ok (.bipush 30, 2) := by decide +kernel
theorem dNight_holdFrom_36 : decode nNight_holdFrom.2.1 36 = .ok (.imul, 1) := by decide +kernel
theorem dNight_holdFrom_37 : decode nNight_holdFrom.2.1 37 = .ok (.iload 4, 2) := by decide +kernel
theorem dNight_holdFrom_39 : decode nNight_holdFrom.2.1 39 = .ok (.iadd, 1) := by decide +kernel
theorem dNight_holdFrom_40 : decode nNight_holdFrom.2.1 40 = .ok (.iload_n 3, 1) := by decide +kernel
theorem dNight_holdFrom_41 : decode nNight_holdFrom.2.1 41 = .ok (.iastore, 1) := by decide +kernel
theorem dNight_holdFrom_42 : decode nNight_holdFrom.2.1 42 = .ok (.iinc 4 1, 3) := by decide +kernel
theorem dNight_holdFrom_45 : decode nNight_holdFrom.2.1 45 = .ok (.goto (-42), 3) := by decide +kernel
theorem dNight_holdFrom_48 : decode nNight_holdFrom.2.1 48 = .ok (.return_, 1) := by decide +kernel
theorem dNight_holdersIn_0 : decode nNight_holdersIn.2.1 0 = .ok (.iconst 0, 1) := by decide +kernel
theorem dNight_holdersIn_1 : decode nNight_holdersIn.2.1 1 = .ok (.istore_n 2, 1) := by decide +kernel
theorem dNight_holdersIn_2 : decode nNight_holdersIn.2.1 2 = .ok (.iconst 0, 1) := by decide +kernel
theorem dNight_holdersIn_3 : decode nNight_holdersIn.2.1 3 = .ok (.istore_n 3, 1) := by decide +kernel
theorem dNight_holdersIn_4 : decode nNight_holdersIn.2.1 4 = .ok (.iload_n 3, 1) := by decide +kernel
theorem dNight_holdersIn_5 : decode nNight_holdersIn.2.1 5 = .ok (.aload_n 0, 1) := by decide +kernel
theorem dNight_holdersIn_6 : decode nNight_holdersIn.2.1 6 = .ok (.getfield 9, 3) := by decide +kernel
theorem dNight_holdersIn_9 : decode nNight_holdersIn.2.1 9 = .ok (.invokevirtual 40, 3) := by decide +kernel
theorem dNight_holdersIn_12 : decode nNight_holdersIn.2.1 12 = .ok (.if_icmp .ge 43, 3) := by decide +kernel
theorem dNight_holdersIn_15 : decode nNight_holdersIn.2.1 15 = .ok (.aload_n 0, 1) := by decide +kernel
theorem dNight_holdersIn_16 : decode nNight_holdersIn.2.1 16 = .ok (.iload_n 3, 1) := by decide +kernel
theorem dNight_holdersIn_17 : decode nNight_holdersIn.2.1 17 = .ok (.iload_n 1, 1) := by decide +kernel
theorem dNight_holdersIn_18 : decode nNight_holdersIn.2.1 18 = .ok (.invokevirtual 63, 3) := by decide +kernel
theorem dNight_holdersIn_21 : decode nNight_holdersIn.2.1 21 = .ok (.istore 4, 2) := by decide +kernel
theorem dNight_holdersIn_23 : decode nNight_holdersIn.2.1 23 = .ok (.aload_n 0, 1) := by decide +kernel
theorem dNight_holdersIn_24 : decode nNight_holdersIn.2.1 24 = .ok (.getfield 9, 3) := by decide +kernel
theorem dNight_holdersIn_27 : decode nNight_holdersIn.2.1 27 = .ok (.iload_n 3, 1) := by decide +kernel
theorem dNight_holdersIn_28 : decode nNight_holdersIn.2.1 28 = .ok (.iload_n 1, 1) := by decide +kernel
theorem dNight_holdersIn_29 : decode nNight_holdersIn.2.1 29 = .ok (.invokevirtual 67, 3) := by decide +kernel
theorem dNight_holdersIn_32 : decode nNight_holdersIn.2.1 32 = .ok (.ifCond .eq 17, 3) := by decide +kernel
theorem dNight_holdersIn_35 : decode nNight_holdersIn.2.1 35 = .ok (.iload 4, 2) := by decide +kernel
theorem dNight_holdersIn_37 : decode nNight_holdersIn.2.1 37 = .ok (.ldc 30, 2) := by decide +kernel
theorem dNight_holdersIn_39 : decode nNight_holdersIn.2.1 39 = .ok (.if_icmp .eq 10, 3) := by decide +kernel
theorem dNight_holdersIn_42 : decode nNight_holdersIn.2.1 42 = .ok (.iload_n 2, 1) := by decide +kernel
theorem dNight_holdersIn_43 : decode nNight_holdersIn.2.1 43 = .ok (.iconst 1, 1) := by decide +kernel
theorem dNight_holdersIn_44 : decode nNight_holdersIn.2.1 44 = .ok (.iload 4, 2) := by decide +kernel
theorem dNight_holdersIn_46 : decode nNight_holdersIn.2.1 46 = .ok (.ishl, 1) := by decide +kernel
theorem dNight_holdersIn_47 : decode nNight_holdersIn.2.1 47 = .ok (.ior, 1) := by decide +kernel
theorem dNight_holdersIn_48 : decode nNight_holdersIn.2.1 48 = .ok (.istore_n 2, 1) := by decide +kernel
theorem dNight_holdersIn_49 : decode nNight_holdersIn.2.1 49 = .ok (.iinc 3 1, 3) := by decide +kernel
theorem dNight_holdersIn_52 : decode nNight_holdersIn.2.1 52 = .ok (.goto (-48), 3) := by decide +kernel
theorem dNight_holdersIn_55 : decode nNight_holdersIn.2.1 55 = .ok (.iload_n 2, 1) := by decide +kernel
theorem dNight_holdersIn_56 : decode nNight_holdersIn.2.1 56 = .ok (.ireturn, 1) := by decide +kernel
theorem dNight_isLiftDone_0 : decode nNight_isLiftDone.2.1 0 = .ok (.aload_n 0, 1) := by decide +kernel
theorem dNight_isLiftDone_1 : decode nNight_isLiftDone.2.1 1 = .ok (.getfield 9, 3) := by decide +kernel
theorem dNight_isLiftDone_4 : decode nNight_isLiftDone.2.1 4 = .ok (.iload_n 1, 1) := by decide +kernel
theorem dNight_isLiftDone_5 : decode nNight_isLiftDone.2.1 5 = .ok (.invokevirtual 71, 3) := by decide +kernel
theorem dNight_isLiftDone_8 : decode nNight_isLiftDone.2.1 8 = .ok (.istore_n 2, 1) := by decide +kernel
theorem dNight_isLiftDone_9 : decode nNight_isLiftDone.2.1 9 = .ok (.aload_n 0, 1) := by decide +kernel
theorem dNight_isLiftDone_10 : decode nNight_isLiftDone.2.1 10 = .ok (.getfield 9, 3) := by decide +kernel
theorem dNight_isLiftDone_13 : decode nNight_isLiftDone.2.1 13 = .ok (.iload_n 1, 1) := by decide +kernel
theorem dNight_isLiftDone_14 : decode nNight_isLiftDone.2.1 14 = .ok (.invokevirtual 74, 3) := by decide +kernel
theorem dNight_isLiftDone_17 : decode nNight_isLiftDone.2.1 17 = .ok (.istore_n 3, 1) := by decide +kernel
theorem dNight_isLiftDone_18 : decode nNight_isLiftDone.2.1 18 = .ok (.aload_n 0, 1) := by decide +kernel
theorem dNight_isLiftDone_19 : decode nNight_isLiftDone.2.1 19 = .ok (.getfield 15, 3) := by decide +kernel
theorem dNight_isLiftDone_22 : decode nNight_isLiftDone.2.1 22 = .ok (.aload_n 0, 1) := by decide +kernel
theorem dNight_isLiftDone_23 : decode nNight_isLiftDone.2.1 23 = .ok (.iload_n 2, 1) := by decide +kernel
theorem dNight_isLiftDone_24 : decode nNight_isLiftDone.2.1 24 = .ok (.invokevirtual 77, 3) := by decide +kernel
theorem dNight_isLiftDone_27 : decode nNight_isLiftDone.2.1 27 = .ok (.iload_n 2, 1) := by decide +kernel
theorem dNight_isLiftDone_28 : decode nNight_isLiftDone.2.1 28 = .ok (.aload_n 0, 1) := by decide +kernel
theorem dNight_isLiftDone_29 : decode nNight_isLiftDone.2.1 29 = .ok (.iload_n 3, 1) := by decide +kernel
theorem dNight_isLiftDone_30 : decode nNight_isLiftDone.2.1 30 = .ok (.invokevirtual 77, 3) := by decide +kernel
theorem dNight_isLiftDone_33 : decode nNight_isLiftDone.2.1 33 = .ok (.iload_n 3, 1) := by decide +kernel
theorem dNight_isLiftDone_34 : decode nNight_isLiftDone.2.1 34 = .ok (.invokevirtual 80, 3) := by decide +kernel
theorem dNight_isLiftDone_37 : decode nNight_isLiftDone.2.1 37 = .ok (.ireturn, 1) := by decide +kernel
theorem dNight_replace_0 : decode nNight_replace.2.1 0 = .ok (.iconst 0, 1) := by decide +kernel
theorem dNight_replace_1 : decode nNight_replace.2.1 1 = .ok (.istore_n 3, 1) := by decide +kernel
theorem dNight_replace_2 : decode nNight_replace.2.1 2 = .ok (.iconst 0, 1) := by decide +kernel
theorem dNight_replace_3 : decode nNight_replace.2.1 3 = .ok (.istore 4, 2) := by decide +kernel
theorem dNight_replace_5 : decode nNight_replace.2.1 5 = .ok (.iload 4, 2) := by decide +kernel
theorem dNight_replace_7 : decode nNight_replace.2.1 7 = .ok (.aload_n 0, 1) := by decide +kernel
theorem dNight_replace_8 : decode nNight_replace.2.1 8 = .ok (.getfield 9, 3) := by decide +kernel
theorem dNight_replace_11 : decode nNight_replace.2.1 11 = .ok (.invokevirtual 40, 3) := by decide +kernel
theorem dNight_replace_14 : decode nNight_replace.2.1 14 = .ok (.if_icmp .ge 45, 3) := by decide +kernel
theorem dNight_replace_17 : decode nNight_replace.2.1 17 = .ok (.aload_n 0, 1) := by decide +kernel
theorem dNight_replace_18 : decode nNight_replace.2.1 18 = .ok (.iload 4, 2) := by decide +kernel
theorem dNight_replace_20 : decode nNight_replace.2.1 20 = .ok (.iload_n 1, 1) := by decide +kernel
theorem dNight_replace_21 : decode nNight_replace.2.1 21 = .ok (.iload_n 2, 1) := by decide +kernel
theorem dNight_replace_22 : decode nNight_replace.2.1 22 = .ok (.invokevirtual 86, 3) := by decide +kernel
theorem dNight_replace_25 : decode nNight_replace.2.1 25 = .ok (.istore 5, 2) := by decide +kernel
theorem dNight_replace_27 : decode nNight_replace.2.1 27 = .ok (.iload 5, 2) := by decide +kernel
theorem dNight_replace_29 : decode nNight_replace.2.1 29 = .ok (.ldc 30, 2) := by decide +kernel
theorem dNight_replace_31 : decode nNight_replace.2.1 31 = .ok (.if_icmp .eq 22, 3) := by decide +kernel
theorem dNight_replace_34 : decode nNight_replace.2.1 34 = .ok (.iload_n 3, 1) := by decide +kernel
theorem dNight_replace_35 : decode nNight_replace.2.1 35 = .ok (.aload_n 0, 1) := by decide +kernel
theorem dNight_replace_36 : decode nNight_replace.2.1 36 = .ok (.iload 4, 2) := by decide +kernel
theorem dNight_replace_38 : decode nNight_replace.2.1 38 = .ok (.iload 5, 2) := by decide +kernel
theorem dNight_replace_40 : decode nNight_replace.2.1 40 = .ok (.invokevirtual 90, 3) := by decide +kernel
theorem dNight_replace_43 : decode nNight_replace.2.1 43 = .ok (.ifCond .eq 7, 3) := by decide +kernel
theorem dNight_replace_46 : decode nNight_replace.2.1 46 = .ok (.iconst 1, 1) := by decide +kernel
theorem dNight_replace_47 : decode nNight_replace.2.1 47 = .ok (.goto 4, 3) := by decide +kernel
theorem dNight_replace_50 : decode nNight_replace.2.1 50 = .ok (.iconst 0, 1) := by decide +kernel
theorem dNight_replace_51 : decode nNight_replace.2.1 51 = .ok (.iadd, 1) := by decide +kernel
theorem dNight_replace_52 : decode nNight_replace.2.1 52 = .ok (.istore_n 3, 1) := by decide +kernel
theorem dNight_replace_53 : decode nNight_replace.2.1 53 = .ok (.iinc 4 1, 3) := by decide +kernel
theorem dNight_replace_56 : decode nNight_replace.2.1 56 = .ok (.goto (-51), 3) := by decide +kernel
theorem dNight_replace_59 : decode nNight_replace.2.1 59 = .ok (.iload_n 3, 1) := by decide +kernel
theorem dNight_replace_60 : decode nNight_replace.2.1 60 = .ok (.ireturn, 1) := by decide +kernel
theorem dNight_firstHeld_0 : decode nNight_firstHeld.2.1 0 = .ok (.iload_n 3, 1) := by decide +kernel
theorem dNight_firstHeld_1 : decode nNight_firstHeld.2.1 1 = .ok (.istore 4, 2) := by decide +kernel
theorem dNight_firstHeld_3 : decode nNight_firstHeld.2.1 3 = .ok (.iload 4, 2) := by decide +kernel
theorem dNight_firstHeld_5 : decode nNight_firstHeld.2.1 5 = .ok (.bipush 30, 2) := by decide +kernel
theorem dNight_firstHeld_7 : decode nNight_firstHeld.2.1 7 = .ok (.if_icmp .ge 23, 3) := by decide +kernel
theorem dNight_firstHeld_10 : decode nNight_firstHeld.2.1 10 = .ok (.aload_n 0, 1) := by decide +kernel
theorem dNight_firstHeld_11 : decode nNight_firstHeld.2.1 11 = .ok (.iload_n 1, 1) := by decide +kernel
theorem dNight_firstHeld_12 : decode nNight_firstHeld.2.1 12 = .ok (.iload 4, 2) := by decide +kernel
theorem dNight_firstHeld_14 : decode nNight_firstHeld.2.1 14 = .ok (.invokevirtual 63, 3) := by decide +kernel
theorem dNight_firstHeld_17 : decode nNight_firstHeld.2.1 17 = .ok (.iload_n 2, 1) := by decide +kernel
theorem dNight_firstHeld_18 : decode nNight_firstHeld.2.1 18 = .ok (.if_icmp .ne 6, 3) := by decide +kernel
theorem dNight_firstHeld_21 : decode nNight_firstHeld.2.1 21 = .ok (.iload 4, 2) := by decide +kernel
theorem dNight_firstHeld_23 : decode nNight_firstHeld.2.1 23 = .ok (.ireturn, 1) := by decide +kernel
theorem dNight_firstHeld_24 : decode nNight_firstHeld.2.1 24 = .ok (.iinc 4 1, 3) := by decide +kernel
theorem dNight_firstHeld_27 : decode nNight_firstHeld.2.1 27 = .ok (.goto (-24), 3) := by decide +kernel
theorem dNight_firstHeld_30 : decode nNight_firstHeld.2.1 30 = .ok (.ldc 30, 2) := by decide +kernel
theorem dNight_firstHeld_32 : decode nNight_firstHeld.2.1 32 = .ok (.ireturn, 1) := by decide +kernel
theorem dNight_handOn_0 : decode nNight_handOn.2.1 0 = .ok (.aload_n 0, 1) := by decide +kernel
theorem dNight_handOn_1 : decode nNight_handOn.2.1 1 = .ok (.iload_n 1, 1) := by decide +kernel
theorem dNight_handOn_2 : decode nNight_handOn.2.1 2 = .ok (.iload_n 2, 1) := by decide +kernel
theorem dNight_handOn_3 : decode nNight_handOn.2.1 3 = .ok (.ldc 30, 2) := by decide +kernel
theorem dNight_handOn_5 : decode nNight_handOn.2.1 5 = .ok (.invokevirtual 52, 3) := by decide +kernel
theorem dNight_handOn_8 : decode nNight_handOn.2.1 8 = .ok (.aload_n 0, 1) := by decide +kernel
theorem dNight_handOn_9 : decode nNight_handOn.2.1 9 = .ok (.getfield 9, 3) := by decide +kernel
theorem dNight_handOn_12 : decode nNight_handOn.2.1 12 = .ok (.iload_n 1, 1) := by decide +kernel
theorem dNight_handOn_13 : decode nNight_handOn.2.1 13 = .ok (.invokevirtual 93, 3) := by decide +kernel
theorem dNight_handOn_16 : decode nNight_handOn.2.1 16 = .ok (.iload_n 2, 1) := by decide +kernel
theorem dNight_handOn_17 : decode nNight_handOn.2.1 17 = .ok (.if_icmp .ge 5, 3) := by decide +kernel
theorem dNight_handOn_20 : decode nNight_handOn.2.1 20 = .ok (.iconst 0, 1) := by decide +kernel
theorem dNight_handOn_21 : decode nNight_handOn.2.1 21 = .ok (.ireturn, 1) := by decide +kernel
theorem dNight_handOn_22 : decode nNight_handOn.2.1 22 = .ok (.aload_n 0, 1) := by decide +kernel
theorem dNight_handOn_23 : decode nNight_handOn.2.1 23 = .ok (.iload_n 1, 1) := by decide +kernel
theorem dNight_handOn_24 : decode nNight_handOn.2.1 24 = .ok (.iload_n 2, 1) := by decide +kernel
theorem dNight_handOn_25 : decode nNight_handOn.2.1 25 = .ok (.invokevirtual 96, 3) := by decide +kernel
theorem dNight_handOn_28 : decode nNight_handOn.2.1 28 = .ok (.istore_n 3, 1) := by decide +kernel
theorem dNight_handOn_29 : decode nNight_handOn.2.1 29 = .ok (.iconst 0, 1) := by decide +kernel
theorem dNight_handOn_30 : decode nNight_handOn.2.1 30 = .ok (.istore 4, 2) := by decide +kernel
theorem dNight_handOn_32 : decode nNight_handOn.2.1 32 = .ok (.iload 4, 2) := by decide +kernel
theorem dNight_handOn_34 : decode nNight_handOn.2.1 34 = .ok (.aload_n 0, 1) := by decide +kernel
theorem dNight_handOn_35 : decode nNight_handOn.2.1 35 = .ok (.getfield 15, 3) := by decide +kernel
theorem dNight_handOn_38 : decode nNight_handOn.2.1 38 = .ok (.invokevirtual 99, 3) := by decide +kernel
theorem dNight_handOn_41 : decode nNight_handOn.2.1 41 = .ok (.if_icmp .ge 73, 3) := by decide +kernel
theorem dNight_handOn_44 : decode nNight_handOn.2.1 44 = .ok (.aload_n 0, 1) := by decide +kernel
theorem dNight_handOn_45 : decode nNight_handOn.2.1 45 = .ok (.getfield 15, 3) := by decide +kernel
theorem dNight_handOn_48 : decode nNight_handOn.2.1 48 = .ok (.iload 4, 2) := by decide +kernel
theorem dNight_handOn_50 : decode nNight_handOn.2.1 50 = .ok (.invokevirtual 102, 3) := by decide +kernel
theorem dNight_handOn_53 : decode nNight_handOn.2.1 53 = .ok (.ifCond .ne 16, 3) := by decide +kernel
theorem dNight_handOn_56 : decode nNight_handOn.2.1 56 = .ok (.iload_n 3, 1) := by decide +kernel
theorem dNight_handOn_57 : decode nNight_handOn.2.1 57 = .ok (.iload 4, 2) := by decide +kernel
theorem dNight_handOn_59 : decode nNight_handOn.2.1 59 = .ok (.ishr, 1) := by decide +kernel
theorem dNight_handOn_60 : decode nNight_handOn.2.1 60 = .ok (.iconst 1, 1) := by decide +kernel
theorem dNight_handOn_61 : decode nNight_handOn.2.1 61 = .ok (.iand, 1) := by decide +kernel
theorem dNight_handOn_62 : decode nNight_handOn.2.1 62 = .ok (.ifCond .ne 7, 3) := by decide +kernel
theorem dNight_handOn_65 : decode nNight_handOn.2.1 65 = .ok (.iconst 1, 1) := by decide +kernel
theorem dNight_handOn_66 : decode nNight_handOn.2.1 66 = .ok (.goto 4, 3) := by decide +kernel
theorem dNight_handOn_69 : decode nNight_handOn.2.1 69 = .ok (.iconst 0, 1) := by decide +kernel
theorem dNight_handOn_70 : decode nNight_handOn.2.1 70 = .ok (.istore 5, 2) := by decide +kernel
theorem dNight_handOn_72 : decode nNight_handOn.2.1 72 = .ok (.iload 5, 2) := by decide +kernel
theorem dNight_handOn_74 : decode nNight_handOn.2.1 74 = .ok (.ifCond .eq 34, 3) := by decide +kernel
theorem dNight_handOn_77 : decode nNight_handOn.2.1 77 = .ok (.aload_n 0, 1) := by decide +kernel
theorem dNight_handOn_78 : decode nNight_handOn.2.1 78 = .ok (.getfield 15, 3) := by decide +kernel
theorem dNight_handOn_81 : decode nNight_handOn.2.1 81 = .ok (.iload 4, 2) := by decide +kernel
theorem dNight_handOn_83 : decode nNight_handOn.2.1 83 = .ok (.iload_n 1, 1) := by decide +kernel
theorem dNight_handOn_84 : decode nNight_handOn.2.1 84 = .ok (.aload_n 0, 1) := by decide +kernel
theorem dNight_handOn_85 : decode nNight_handOn.2.1 85 = .ok (.getfield 9, 3) := by decide +kernel
theorem dNight_handOn_88 : decode nNight_handOn.2.1 88 = .ok (.iload_n 1, 1) := by decide +kernel
theorem dNight_handOn_89 : decode nNight_handOn.2.1 89 = .ok (.invokevirtual 105, 3) := by decide +kernel
theorem dNight_handOn_92 : decode nNight_handOn.2.1 92 = .ok (.invokevirtual 108, 3) := by decide +kernel
theorem dNight_handOn_95 : decode nNight_handOn.2.1 95 = .ok (.ifCond .eq 13, 3) := by decide +kernel
theorem dNight_handOn_98 : decode nNight_handOn.2.1 98 = .ok (.aload_n 0, 1) := by decide +kernel
theorem dNight_handOn_99 : decode nNight_handOn.2.1 99 = .ok (.iload_n 1, 1) := by decide +kernel
theorem dNight_handOn_100 : decode nNight_handOn.2.1 100 = .ok (.iload_n 2, 1) := by decide +kernel
theorem dNight_handOn_101 : decode nNight_handOn.2.1 101 = .ok (.iload 4, 2) := by decide +kernel
theorem dNight_handOn_103 : decode nNight_handOn.2.1 103 = .ok (.invokevirtual 52, 3) := by decide +kernel
theorem dNight_handOn_106 : decode nNight_handOn.2.1 106 = .ok (.iconst 1, 1) := by decide +kernel
theorem dNight_handOn_107 : decode nNight_handOn.2.1 107 = .ok (.ireturn, 1) := by decide +kernel
theorem dNight_handOn_108 : decode nNight_handOn.2.1 108 = .ok (.iinc 4 1, 3) := by decide +kernel
theorem dNight_handOn_111 : decode nNight_handOn.2.1 111 = .ok (.goto (-79), 3) := by decide +kernel
theorem dNight_handOn_114 : decode nNight_handOn.2.1 114 = .ok (.iconst 0, 1) := by decide +kernel
theorem dNight_handOn_115 : decode nNight_handOn.2.1 115 = .ok (.ireturn, 1) := by decide +kernel
theorem dNight_busyFrom_0 : decode nNight_busyFrom.2.1 0 = .ok (.iconst 0, 1) := by decide +kernel
theorem dNight_busyFrom_1 : decode nNight_busyFrom.2.1 1 = .ok (.istore_n 3, 1) := by decide +kernel
theorem dNight_busyFrom_2 : decode nNight_busyFrom.2.1 2 = .ok (.iload_n 2, 1) := by decide +kernel
theorem dNight_busyFrom_3 : decode nNight_busyFrom.2.1 3 = .ok (.istore 4, 2) := by decide +kernel
theorem dNight_busyFrom_5 : decode nNight_busyFrom.2.1 5 = .ok (.iload 4, 2) := by decide +kernel
theorem dNight_busyFrom_7 : decode nNight_busyFrom.2.1 7 = .ok (.bipush 30, 2) := by decide +kernel
theorem dNight_busyFrom_9 : decode nNight_busyFrom.2.1 9 = .ok (.if_icmp .ge 35, 3) := by decide +kernel
theorem dNight_busyFrom_12 : decode nNight_busyFrom.2.1 12 = .ok (.iload_n 3, 1) := by decide +kernel
theorem dNight_busyFrom_13 : decode nNight_busyFrom.2.1 13 = .ok (.aload_n 0, 1) := by decide +kernel
theorem dNight_busyFrom_14 : decode nNight_busyFrom.2.1 14 = .ok (.getfield 9, 3) := by decide +kernel
theorem dNight_busyFrom_17 : decode nNight_busyFrom.2.1 17 = .ok (.iload_n 1, 1) := by decide +kernel
theorem dNight_busyFrom_18 : decode nNight_busyFrom.2.1 18 = .ok (.iload 4, 2) := by decide +kernel
theorem dNight_busyFrom_20 : decode nNight_busyFrom.2.1 20 = .ok (.invokevirtual 67, 3) := by decide +kernel
theorem dNight_busyFrom_23 : decode nNight_busyFrom.2.1 23 = .ok (.ifCond .eq 12, 3) := by decide +kernel
theorem dNight_busyFrom_26 : decode nNight_busyFrom.2.1 26 = .ok (.aload_n 0, 1) := by decide +kernel
theorem dNight_busyFrom_27 : decode nNight_busyFrom.2.1 27 = .ok (.iload 4, 2) := by decide +kernel
theorem dNight_busyFrom_29 : decode nNight_busyFrom.2.1 29 = .ok (.invokevirtual 112, 3) := by decide +kernel
theorem dNight_busyFrom_32 : decode nNight_busyFrom.2.1 32 = .ok (.goto 4, 3) := by decide +kernel
theorem dNight_busyFrom_35 : decode nNight_busyFrom.2.1 35 = .ok (.iconst 0, 1) := by decide +kernel
theorem dNight_busyFrom_36 : decode nNight_busyFrom.2.1 36 = .ok (.ior, 1) := by decide +kernel
theorem dNight_busyFrom_37 : decode nNight_busyFrom.2.1 37 = .ok (.istore_n 3, 1) := by decide +kernel
theorem dNight_busyFrom_38 : decode nNight_busyFrom.2.1 38 = .ok (.iinc 4 1, 3) := by decide +kernel
theorem dNight_busyFrom_41 : decode nNight_busyFrom.2.1 41 = .ok (.goto (-36), 3) := by decide +kernel
theorem dNight_busyFrom_44 : decode nNight_busyFrom.2.1 44 = .ok (.iload_n 3, 1) := by decide +kernel
theorem dNight_busyFrom_45 : decode nNight_busyFrom.2.1 45 = .ok (.ireturn, 1) := by decide +kernel
theorem dPutIns_init_0 : decode nPutIns_init.2.1 0 = .ok (.aload_n 0, 1) := by decide +kernel
theorem dPutIns_init_1 : decode nPutIns_init.2.1 1 = .ok (.invokespecial 5, 3) := by decide +kernel
theorem dPutIns_init_4 : decode nPutIns_init.2.1 4 = .ok (.aload_n 0, 1) := by decide +kernel
theorem dPutIns_init_5 : decode nPutIns_init.2.1 5 = .ok (.aload_n 1, 1) := by decide +kernel
theorem dPutIns_init_6 : decode nPutIns_init.2.1 6 = .ok (.putfield 11, 3) := by decide +kernel
theorem dPutIns_init_9 : decode nPutIns_init.2.1 9 = .ok (.aload_n 0, 1) := by decide +kernel
theorem dPutIns_init_10 : decode nPutIns_init.2.1 10 = .ok (.aload_n 2, 1) := by decide +kernel
theorem dPutIns_init_11 : decode nPutIns_init.2.1 11 = .ok (.putfield 15, 3) := by decide +kernel
theorem dPutIns_init_14 : decode nPutIns_init.2.1 14 = .ok (.aload_n 0, 1) := by decide +kernel
theorem dPutIns_init_15 : decode nPutIns_init.2.1 15 = .ok (.bipush 8, 2) := by decide +kernel
theorem dPutIns_init_17 : decode nPutIns_init.2.1 17 = .ok (.newarray .int, 2) := by decide +kernel
theorem dPutIns_init_19 : decode nPutIns_init.2.1 19 = .ok (.putfield 19, 3) := by decide +kernel
theorem dPutIns_init_22 : decode nPutIns_init.2.1 22 = .ok (.aload_n 0, 1) := by decide +kernel
theorem dPutIns_init_23 : decode nPutIns_init.2.1 23 = .ok (.bipush 8, 2) := by decide +kernel
theorem dPutIns_init_25 : decode nPutIns_init.2.1 25 = .ok (.newarray .int, 2) := by decide +kernel
theorem dPutIns_init_27 : decode nPutIns_init.2.1 27 = .ok (.putfield 23, 3) := by decide +kernel
theorem dPutIns_init_30 : decode nPutIns_init.2.1 30 = .ok (.aload_n 0, 1) := by decide +kernel
theorem dPutIns_init_31 : decode nPutIns_init.2.1 31 = .ok (.bipush 8, 2) := by decide +kernel
theorem dPutIns_init_33 : decode nPutIns_init.2.1 33 = .ok (.newarray .int, 2) := by decide +kernel
theorem dPutIns_init_35 : decode nPutIns_init.2.1 35 = .ok (.putfield 26, 3) := by decide +kernel
theorem dPutIns_init_38 : decode nPutIns_init.2.1 38 = .ok (.aload_n 0, 1) := by decide +kernel
theorem dPutIns_init_39 : decode nPutIns_init.2.1 39 = .ok (.sipush 576, 3) := by decide +kernel
theorem dPutIns_init_42 : decode nPutIns_init.2.1 42 = .ok (.newarray .long, 2) := by decide +kernel
theorem dPutIns_init_44 : decode nPutIns_init.2.1 44 = .ok (.putfield 29, 3) := by decide +kernel
theorem dPutIns_init_47 : decode nPutIns_init.2.1 47 = .ok (.aload_n 0, 1) := by decide +kernel
theorem dPutIns_init_48 : decode nPutIns_init.2.1 48 = .ok (.iconst 0, 1) := by decide +kernel
theorem dPutIns_init_49 : decode nPutIns_init.2.1 49 = .ok (.putfield 33, 3) := by decide +kernel
theorem dPutIns_init_52 : decode nPutIns_init.2.1 52 = .ok (.return_, 1) := by decide +kernel
theorem dPutIns_find_0 : decode nPutIns_find.2.1 0 = .ok (.aload_n 0, 1) := by decide +kernel
theorem dPutIns_find_1 : decode nPutIns_find.2.1 1 = .ok (.invokevirtual 37, 3) := by decide +kernel
theorem dPutIns_find_4 : decode nPutIns_find.2.1 4 = .ok (.ifCond .ne 5, 3) := by decide +kernel
theorem dPutIns_find_7 : decode nPutIns_find.2.1 7 = .ok (.iconst 0, 1) := by decide +kernel
theorem dPutIns_find_8 : decode nPutIns_find.2.1 8 = .ok (.ireturn, 1) := by decide +kernel
theorem dPutIns_find_9 : decode nPutIns_find.2.1 9 = .ok (.aload_n 0, 1) := by decide +kernel
theorem dPutIns_find_10 : decode nPutIns_find.2.1 10 = .ok (.getfield 29, 3) := by decide +kernel
theorem dPutIns_find_13 : decode nPutIns_find.2.1 13 = .ok (.ldc2_w 41, 3) := by decide +kernel
theorem dPutIns_find_16 : decode nPutIns_find.2.1 16 = .ok (.invokestatic 43, 3) := by decide +kernel
theorem dPutIns_find_19 : decode nPutIns_find.2.1 19 = .ok (.aload_n 0, 1) := by decide +kernel
theorem dPutIns_find_20 : decode nPutIns_find.2.1 20 = .ok (.getfield 29, 3) := by decide +kernel
theorem dPutIns_find_23 : decode nPutIns_find.2.1 23 = .ok (.iconst 0, 1) := by decide +kernel
theorem dPutIns_find_24 : decode nPutIns_find.2.1 24 = .ok (.lconst 0, 1) := by decide +kernel
theorem dPutIns_find_25 : decode nPutIns_find.2.1 25 = .ok (.lastore, 1) := by decide +kernel
theorem dPutIns_find_26 : decode nPutIns_find.2.1 26 = .ok (.ldc2_w 49, 3) := by decide +kernel
theorem dPutIns_find_29 : decode nPutIns_find.2.1 29 = .ok (.lstore_n 1, 1) := by decide +kernel
theorem dPutIns_find_30 : decode nPutIns_find.2.1 30 = .ok (.iconst 0, 1) := by decide +kernel
theorem dPutIns_find_31 : decode nPutIns_find.2.1 31 = .ok (.istore_n 3, 1) := by decide +kernel
theorem dPutIns_find_32 : decode nPutIns_find.2.1 32 = .ok (.iload_n 3, 1) := by decide +kernel
theorem dPutIns_find_33 : decode nPutIns_find.2.1 33 = .ok (.aload_n 0, 1) := by decide +kernel
theorem dPutIns_find_34 : decode nPutIns_find.2.1 34 = .ok (.getfield 15, 3) := by decide +kernel
theorem dPutIns_find_37 : decode nPutIns_find.2.1 37 = .ok (.invokevirtual 51, 3) := by decide +kernel
theorem dPutIns_find_40 : decode nPutIns_find.2.1 40 = .ok (.if_icmp .ge 21, 3) := by decide +kernel
theorem dPutIns_find_43 : decode nPutIns_find.2.1 43 = .ok (.aload_n 0, 1) := by decide +kernel
theorem dPutIns_find_44 : decode nPutIns_find.2.1 44 = .ok (.iload_n 3, 1) := by decide +kernel
theorem dPutIns_find_45 : decode nPutIns_find.2.1 45 = .ok (.lload_n 1, 1) := by decide +kernel
theorem dPutIns_find_46 : decode nPutIns_find.2.1 46 = .ok (.invokevirtual 57, 3) := by decide +kernel
theorem dPutIns_find_49 : decode nPutIns_find.2.1 49 = .ok (.lload_n 1, 1) := by decide +kernel
theorem dPutIns_find_50 : decode nPutIns_find.2.1 50 = .ok (.ldc2_w 61, 3) := by decide +kernel
theorem dPutIns_find_53 : decode nPutIns_find.2.1 53 = .ok (.ldiv, 1) := by decide +kernel
theorem dPutIns_find_54 : decode nPutIns_find.2.1 54 = .ok (.lstore_n 1, 1) := by decide +kernel
theorem dPutIns_find_55 : decode nPutIns_find.2.1 55 = .ok (.iinc 3 1, 3) := by decide +kernel
theorem dPutIns_find_58 : decode nPutIns_find.2.1 58 = .ok (.goto (-26), 3) := by decide +kernel
theorem dPutIns_find_61 : decode nPutIns_find.2.1 61 = .ok (.aload_n 0, 1) := by decide +kernel
theorem dPutIns_find_62 : decode nPutIns_find.2.1 62 = .ok (.invokevirtual 63, 3) := by decide +kernel
theorem dPutIns_find_65 : decode nPutIns_find.2.1 65 = .ok (.ldc2_w 41, 3) := by decide +kernel
theorem dPutIns_find_68 : decode nPutIns_find.2.1 68 = .ok (.lcmp, 1) := by decide +kernel
theorem dPutIns_find_69 : decode nPutIns_find.2.1 69 = .ok (.ifCond .eq 7, 3) := by decide +kernel
theorem dPutIns_find_72 : decode nPutIns_find.2.1 72 = .ok (.iconst 1, 1) := by decide +kernel
theorem dPutIns_find_73 : decode nPutIns_find.2.1 73 = .ok (.goto 4, 3) := by decide +kernel
theorem dPutIns_find_76 : decode nPutIns_find.2.1 76 = .ok (.iconst 0, 1) := by decide +kernel
theorem dPutIns_find_77 : decode nPutIns_find.2.1 77 = .ok (.ireturn, 1) := by decide +kernel
theorem dPutIns_hours_0 : decode nPutIns_hours.2.1 0 = .ok (.aload_n 0, 1) := by decide +kernel
theorem dPutIns_hours_1 : decode nPutIns_hours.2.1 1 = .ok (.invokevirtual 63, 3) := by decide +kernel
theorem dPutIns_hours_4 : decode nPutIns_hours.2.1 4 = .ok (.ldc2_w 67, 3) := by decide +kernel
theorem dPutIns_hours_7 : decode nPutIns_hours.2.1 7 = .ok (.ldiv, 1) := by decide +kernel
theorem dPutIns_hours_8 : decode nPutIns_hours.2.1 8 = .ok (.l2i, 1) := by decide +kernel
theorem dPutIns_hours_9 : decode nPutIns_hours.2.1 9 = .ok (.ireturn, 1) := by decide +kernel
theorem dPutIns_trackOf_0 : decode nPutIns_trackOf.2.1 0 = .ok (.aload_n 0, 1) := by decide +kernel
theorem dPutIns_trackOf_1 : decode nPutIns_trackOf.2.1 1 = .ok (.invokevirtual 63, 3) := by decide +kernel
theorem dPutIns_trackOf_4 : decode nPutIns_trackOf.2.1 4 = .ok (.ldc2_w 67, 3) := by decide +kernel
theorem dPutIns_trackOf_7 : decode nPutIns_trackOf.2.1 7 = .ok (.lrem, 1) := by decide +kernel
theorem dPutIns_trackOf_8 : decode nPutIns_trackOf.2.1 8 = .ok (.lstore_n 2, 1) := by decide +kernel
theorem dPutIns_trackOf_9 : decode nPutIns_trackOf.2.1 9 = .ok (.iload_n 1, 1) := by decide +kernel
theorem dPutIns_trackOf_10 : decode nPutIns_trackOf.2.1 10 = .ok (.iconst 1, 1) := by decide +kernel
theorem dPutIns_trackOf_11 : decode nPutIns_trackOf.2.1 11 = .ok (.iadd, 1) := by decide +kernel
theorem dPutIns_trackOf_12 : decode nPutIns_trackOf.2.1 12 = .ok (.istore 4, 2) := by decide +kernel
theorem dPutIns_trackOf_14 : decode nPutIns_trackOf.2.1 14 = .ok (.iload 4, 2) := by decide +kernel
theorem dPutIns_trackOf_16 : decode nPutIns_trackOf.2.1 16 = .ok (.bipush 10, 2) := by decide +kernel
theorem dPutIns_trackOf_18 : decode nPutIns_trackOf.2.1 18 = .ok (.if_icmp .ge 15, 3) := by decide +kernel
theorem dPutIns_trackOf_21 : decode nPutIns_trackOf.2.1 21 = .ok (.lload_n 2, 1) := by decide +kernel
theorem dPutIns_trackOf_22 : decode nPutIns_trackOf.2.1 22 = .ok (.ldc2_w 61, 3) := by decide +kernel
theorem dPutIns_trackOf_25 : decode nPutIns_trackOf.2.1 25 = .ok (.ldiv, 1) := by decide +kernel
theorem dPutIns_trackOf_26 : decode nPutIns_trackOf.2.1 26 = .ok (.lstore_n 2, 1) := by decide +kernel
theorem dPutIns_trackOf_27 : decode nPutIns_trackOf.2.1 27 = .ok (.iinc 4 1, 3) := by decide +kernel
theorem dPutIns_trackOf_30 : decode nPutIns_trackOf.2.1 30 = .ok (.goto (-16), 3) := by decide +kernel
theorem dPutIns_trackOf_33 : decode nPutIns_trackOf.2.1 33 = .ok (.lload_n 2, 1) := by decide +kernel
theorem dPutIns_trackOf_34 : decode nPutIns_trackOf.2.1 34 = .ok (.ldc2_w 61, 3) := by decide +kernel
theorem dPutIns_trackOf_37 : decode nPutIns_trackOf.2.1 37 = .ok (.lrem, 1) := by decide +kernel
theorem dPutIns_trackOf_38 : decode nPutIns_trackOf.2.1 38 = .ok (.l2i, 1) := by decide +kernel
theorem dPutIns_trackOf_39 : decode nPutIns_trackOf.2.1 39 = .ok (.istore 4, 2) := by decide +kernel
theorem dPutIns_trackOf_41 : decode nPutIns_trackOf.2.1 41 = .ok (.iload 4, 2) := by decide +kernel
theorem dPutIns_trackOf_43 : decode nPutIns_trackOf.2.1 43 = .ok (.bipush 8, 2) := by decide +kernel
theorem dPutIns_trackOf_45 : decode nPutIns_trackOf.2.1 45 = .ok (.if_icmp .ne 8, 3) := by decide +kernel
theorem dPutIns_trackOf_48 : decode nPutIns_trackOf.2.1 48 = .ok (.ldc 69, 2) := by decide +kernel
theorem dPutIns_trackOf_50 : decode nPutIns_trackOf.2.1 50 = .ok (.goto 5, 3) := by decide +kernel
theorem dPutIns_trackOf_53 : decode nPutIns_trackOf.2.1 53 = .ok (.iload 4, 2) := by decide +kernel
theorem dPutIns_trackOf_55 : decode nPutIns_trackOf.2.1 55 = .ok (.ireturn, 1) := by decide +kernel
theorem dPutIns_leastWorth_0 : decode nPutIns_leastWorth.2.1 0 = .ok (.aload_n 0, 1) := by decide +kernel
theorem dPutIns_leastWorth_1 : decode nPutIns_leastWorth.2.1 1 = .ok (.getfield 33, 3) := by decide +kernel
theorem dPutIns_leastWorth_4 : decode nPutIns_leastWorth.2.1 4 = .ok (.iconst 1, 1) := by decide +kernel
theorem dPutIns_leastWorth_5 : decode nPutIns_leastWorth.2.1 5 = .ok (.sipush 576, 3) := by decide +kernel
theorem dPutIns_leastWorth_8 : decode nPutIns_leastWorth.2.1 8 = .ok (.invokestatic 70, 3) := by decide +kernel
theorem dPutIns_leastWorth_11 : decode nPutIns_leastWorth.2.1 11 = .ok (.ifCond .eq 17, 3) := by decide +kernel
theorem dPutIns_leastWorth_14 : decode nPutIns_leastWorth.2.1 14 = .ok (.aload_n 0, 1) := by decide +kernel
theorem dPutIns_leastWorth_15 : decode nPutIns_leastWorth.2.1 15 = .ok (.getfield 29, 3) := by decide +kernel
theorem dPutIns_leastWorth_18 : decode nPutIns_leastWorth.2.1 18 = .ok (.aload_n 0, 1) := by decide +kernel
theorem dPutIns_leastWorth_19 : decode nPutIns_leastWorth.2.1 19 = .ok (.getfield 33, 3) := by decide +kernel
theorem dPutIns_leastWorth_22 : decode nPutIns_leastWorth.2.1 22 = .ok (.iconst 1, 1) := by decide +kernel
theorem dPutIns_leastWorth_23 : decode nPutIns_leastWorth.2.1 23 = .ok (.isub, 1) := by decide +kernel
theorem dPutIns_leastWorth_24 : decode nPutIns_leastWorth.2.1 24 = .ok (.laload, 1) := by decide +kernel
theorem dPutIns_leastWorth_25 : decode nPutIns_leastWorth.2.1 25 = .ok (.goto 6, 3) := by decide +kernel
theorem dPutIns_leastWorth_28 : decode nPutIns_leastWorth.2.1 28 = .ok (.ldc2_w 41, 3) := by decide +kernel
theorem dPutIns_leastWorth_31 : decode nPutIns_leastWorth.2.1 31 = .ok (.lreturn, 1) := by decide +kernel
theorem dPutIns_readNeeds_0 : decode nPutIns_readNeeds.2.1 0 = .ok (.iconst 0, 1) := by decide +kernel
theorem dPutIns_readNeeds_1 : decode nPutIns_readNeeds.2.1 1 = .ok (.istore_n 1, 1) := by decide +kernel
theorem dPutIns_readNeeds_2 : decode nPutIns_readNeeds.2.1 2 = .ok (.aload_n 0, 1) := by decide +kernel
theorem dPutIns_readNeeds_3 : decode nPutIns_readNeeds.2.1 3 = .ok (.iconst 1, 1) := by decide +kernel
theorem dPutIns_readNeeds_4 : decode nPutIns_readNeeds.2.1 4 = .ok (.putfield 33, 3) := by decide +kernel
theorem dPutIns_readNeeds_7 : decode nPutIns_readNeeds.2.1 7 = .ok (.iconst 0, 1) := by decide +kernel
theorem dPutIns_readNeeds_8 : decode nPutIns_readNeeds.2.1 8 = .ok (.istore_n 2, 1) := by decide +kernel
theorem dPutIns_readNeeds_9 : decode nPutIns_readNeeds.2.1 9 = .ok (.iload_n 2, 1) := by decide +kernel
theorem dPutIns_readNeeds_10 : decode nPutIns_readNeeds.2.1 10 = .ok (.aload_n 0, 1) := by decide +kernel
theorem dPutIns_readNeeds_11 : decode nPutIns_readNeeds.2.1 11 = .ok (.getfield 11, 3) := by decide +kernel
theorem dPutIns_readNeeds_14 : decode nPutIns_readNeeds.2.1 14 = .ok (.invokevirtual 74, 3) := by decide +kernel
theorem dPutIns_readNeeds_17 : decode nPutIns_readNeeds.2.1 17 = .ok (.if_icmp .ge 80, 3) := by decide +kernel
theorem dPutIns_readNeeds_20 : decode nPutIns_readNeeds.2.1 20 = .ok (.aload_n 0, 1) := by decide +kernel
theorem dPutIns_readNeeds_21 : decode nPutIns_readNeeds.2.1 21 = .ok (.getfield 19, 3) := by decide +kernel
theorem dPutIns_readNeeds_24 : decode nPutIns_readNeeds.2.1 24 = .ok (.iload_n 2, 1) := by decide +kernel
theorem dPutIns_readNeeds_25 : decode nPutIns_readNeeds.2.1 25 = .ok (.iconst 0, 1) := by decide +kernel
theorem dPutIns_readNeeds_26 : decode nPutIns_readNeeds.2.1 26 = .ok (.iconst 2, 1) := by decide +kernel
theorem dPutIns_readNeeds_27 : decode nPutIns_readNeeds.2.1 27 = .ok (.aload_n 0, 1) := by decide +kernel
theorem dPutIns_readNeeds_28 : decode nPutIns_readNeeds.2.1 28 = .ok (.iload_n 2, 1) := by decide +kernel
theorem dPutIns_readNeeds_29 : decode nPutIns_readNeeds.2.1 29 = .ok (.invokevirtual 79, 3) := by decide +kernel
theorem dPutIns_readNeeds_32 : decode nPutIns_readNeeds.2.1 32 = .ok (.isub, 1) := by decide +kernel
theorem dPutIns_readNeeds_33 : decode nPutIns_readNeeds.2.1 33 = .ok (.invokestatic 83, 3) := by decide +kernel
theorem dPutIns_readNeeds_36 : decode nPutIns_readNeeds.2.1 36 = .ok (.iastore, 1) := by decide +kernel
theorem dPutIns_readNeeds_37 : decode nPutIns_readNeeds.2.1 37 = .ok (.aload_n 0, 1) := by decide +kernel
theorem dPutIns_readNeeds_38 : decode nPutIns_readNeeds.2.1 38 = .ok (.getfield 26, 3) := by decide +kernel
theorem dPutIns_readNeeds_41 : decode nPutIns_readNeeds.2.1 41 = .ok (.iload_n 2, 1) := by decide +kernel
theorem dPutIns_readNeeds_42 : decode nPutIns_readNeeds.2.1 42 = .ok (.aload_n 0, 1) := by decide +kernel
theorem dPutIns_readNeeds_43 : decode nPutIns_readNeeds.2.1 43 = .ok (.getfield 11, 3) := by decide +kernel
theorem dPutIns_readNeeds_46 : decode nPutIns_readNeeds.2.1 46 = .ok (.iload_n 2, 1) := by decide +kernel
theorem dPutIns_readNeeds_47 : decode nPutIns_readNeeds.2.1 47 = .ok (.invokevirtual 89, 3) := by decide +kernel
theorem dPutIns_readNeeds_50 : decode nPutIns_readNeeds.2.1 50 = .ok (.iconst 4, 1) := by decide +kernel
theorem dPutIns_readNeeds_51 : decode nPutIns_readNeeds.2.1 51 = .ok (.idiv, 1) := by decide +kernel
theorem dPutIns_readNeeds_52 : decode nPutIns_readNeeds.2.1 52 = .ok (.iconst 1, 1) := by decide +kernel
theorem dPutIns_readNeeds_53 : decode nPutIns_readNeeds.2.1 53 = .ok (.iadd, 1) := by decide +kernel
theorem dPutIns_readNeeds_54 : decode nPutIns_readNeeds.2.1 54 = .ok (.iastore, 1) := by decide +kernel
theorem dPutIns_readNeeds_55 : decode nPutIns_readNeeds.2.1 55 = .ok (.aload_n 0, 1) := by decide +kernel
theorem dPutIns_readNeeds_56 : decode nPutIns_readNeeds.2.1 56 = .ok (.getfield 23, 3) := by decide +kernel
theorem dPutIns_readNeeds_59 : decode nPutIns_readNeeds.2.1 59 = .ok (.iload_n 2, 1) := by decide +kernel
theorem dPutIns_readNeeds_60 : decode nPutIns_readNeeds.2.1 60 = .ok (.aload_n 0, 1) := by decide +kernel
theorem dPutIns_readNeeds_61 : decode nPutIns_readNeeds.2.1 61 = .ok (.getfield 33, 3) := by decide +kernel
theorem dPutIns_readNeeds_64 : decode nPutIns_readNeeds.2.1 64 = .ok (.iastore, 1) := by decide +kernel
theorem dPutIns_readNeeds_65 : decode nPutIns_readNeeds.2.1 65 = .ok (.aload_n 0, 1) := by decide +kernel
theorem dPutIns_readNeeds_66 : decode nPutIns_readNeeds.2.1 66 = .ok (.dup, 1) := by decide +kernel
theorem dPutIns_readNeeds_67 : decode nPutIns_readNeeds.2.1 67 = .ok (.getfield 33, 3) := by decide +kernel
theorem dPutIns_readNeeds_70 : decode nPutIns_readNeeds.2.1 70 = .ok (.aload_n 0, 1) := by decide +kernel
theorem dPutIns_readNeeds_71 : decode nPutIns_readNeeds.2.1 71 = .ok (.getfield 19, 3) := by decide +kernel
theorem dPutIns_readNeeds_74 : decode nPutIns_readNeeds.2.1 74 = .ok (.iload_n 2, 1) := by decide +kernel
theorem dPutIns_readNeeds_75 : decode nPutIns_readNeeds.2.1 75 = .ok (.iaload, 1) := by decide +kernel
theorem dPutIns_readNeeds_76 : decode nPutIns_readNeeds.2.1 76 = .ok (.iconst 1, 1) := by decide +kernel
theorem dPutIns_readNeeds_77 : decode nPutIns_readNeeds.2.1 77 = .ok (.iadd, 1) := by decide +kernel
theorem dPutIns_readNeeds_78 : decode nPutIns_readNeeds.2.1 78 = .ok (.imul, 1) := by decide +kernel
theorem dPutIns_readNeeds_79 : decode nPutIns_readNeeds.2.1 79 = .ok (.putfield 33, 3) := by decide +kernel
theorem dPutIns_readNeeds_82 : decode nPutIns_readNeeds.2.1 82 = .ok (.iload_n 1, 1) := by decide +kernel
theorem dPutIns_readNeeds_83 : decode nPutIns_readNeeds.2.1 83 = .ok (.aload_n 0, 1) := by decide +kernel
theorem dPutIns_readNeeds_84 : decode nPutIns_readNeeds.2.1 84 = .ok (.getfield 19, 3) := by decide +kernel
theorem dPutIns_readNeeds_87 : decode nPutIns_readNeeds.2.1 87 = .ok (.iload_n 2, 1) := by decide +kernel
theorem dPutIns_readNeeds_88 : decode nPutIns_readNeeds.2.1 88 = .ok (.iaload, 1) := by decide +kernel
theorem dPutIns_readNeeds_89 : decode nPutIns_readNeeds.2.1 89 = .ok (.iadd, 1) := by decide +kernel
theorem dPutIns_readNeeds_90 : decode nPutIns_readNeeds.2.1 90 = .ok (.istore_n 1, 1) := by decide +kernel
theorem dPutIns_readNeeds_91 : decode nPutIns_readNeeds.2.1 91 = .ok (.iinc 2 1, 3) := by decide +kernel
theorem dPutIns_readNeeds_94 : decode nPutIns_readNeeds.2.1 94 = .ok (.goto (-85), 3) := by decide +kernel
theorem dPutIns_readNeeds_97 : decode nPutIns_readNeeds.2.1 97 = .ok (.iload_n 1, 1) := by decide +kernel
theorem dPutIns_readNeeds_98 : decode nPutIns_readNeeds.2.1 98 = .ok (.aload_n 0, 1) := by decide +kernel
theorem dPutIns_readNeeds_99 : decode nPutIns_readNeeds.2.1 99 = .ok (.getfield 15, 3) := by decide +kernel
theorem dPutIns_readNeeds_102 : decode nPutIns_readNeeds.2.1 102 = .ok (.invokevirtual 51, 3) := by decide +kernel
theorem dPutIns_readNeeds_105 : decode nPutIns_readNeeds.2.1 105 = .ok (.if_icmp .gt 17, 3) := by decide +kernel
theorem dPutIns_readNeeds_108 : decode nPutIns_readNeeds.2.1 108 = .ok (.aload_n 0, 1) := by decide +kernel
theorem dPutIns_readNeeds_109 : decode nPutIns_readNeeds.2.1 109 = .ok (.getfield 33, 3) := by decide +kernel
theorem dPutIns_readNeeds_112 : decode nPutIns_readNeeds.2.1 112 = .ok (.sipush 576, 3) := by decide +kernel
theorem dPutIns_readNeeds_115 : decode nPutIns_readNeeds.2.1 115 = .ok (.if_icmp .gt 7, 3) := by decide +kernel
theorem dPutIns_readNeeds_118 : decode nPutIns_readNeeds.2.1 118 = .ok (.iconst 1, 1) := by decide +kernel
theorem dPutIns_readNeeds_119 : decode nPutIns_readNeeds.2.1 119 = .ok (.goto 4, 3) := by decide +kernel
theorem dPutIns_readNeeds_122 : decode nPutIns_readNeeds.2.1 122 = .ok (.iconst 0, 1) := by decide +kernel
theorem dPutIns_readNeeds_123 : decode nPutIns_readNeeds.2.1 123 = .ok (.ireturn, 1) := by decide +kernel
theorem dPutIns_countFresh_0 : decode nPutIns_countFresh.2.1 0 = .ok (.iconst 0, 1) := by decide +kernel
theorem dPutIns_countFresh_1 : decode nPutIns_countFresh.2.1 1 = .ok (.istore_n 2, 1) := by decide +kernel
theorem dPutIns_countFresh_2 : decode nPutIns_countFresh.2.1 2 = .ok (.iconst 0, 1) := by decide +kernel
theorem dPutIns_countFresh_3 : decode nPutIns_countFresh.2.1 3 = .ok (.istore_n 3, 1) := by decide +kernel
theorem dPutIns_countFresh_4 : decode nPutIns_countFresh.2.1 4 = .ok (.iload_n 3, 1) := by decide +kernel
theorem dPutIns_countFresh_5 : decode nPutIns_countFresh.2.1 5 = .ok (.aload_n 0, 1) := by decide +kernel
theorem dPutIns_countFresh_6 : decode nPutIns_countFresh.2.1 6 = .ok (.getfield 15, 3) := by decide +kernel
theorem dPutIns_countFresh_9 : decode nPutIns_countFresh.2.1 9 = .ok (.invokevirtual 51, 3) := by decide +kernel
theorem dPutIns_countFresh_12 : decode nPutIns_countFresh.2.1 12 = .ok (.if_icmp .ge 29, 3) := by decide +kernel
theorem dPutIns_countFresh_15 : decode nPutIns_countFresh.2.1 15 = .ok (.iload_n 2, 1) := by decide +kernel
theorem dPutIns_countFresh_16 : decode nPutIns_countFresh.2.1 16 = .ok (.aload_n 0, 1) := by decide +kernel
theorem dPutIns_countFresh_17 : decode nPutIns_countFresh.2.1 17 = .ok (.getfield 15, 3) := by decide +kernel
theorem dPutIns_countFresh_20 : decode nPutIns_countFresh.2.1 20 = .ok (.iload_n 3, 1) := by decide +kernel
theorem dPutIns_countFresh_21 : decode nPutIns_countFresh.2.1 21 = .ok (.iload_n 1, 1) := by decide +kernel
theorem dPutIns_countFresh_22 : decode nPutIns_countFresh.2.1 22 = .ok (.invokevirtual 92, 3) := by decide +kernel
theorem dPutIns_countFresh_25 : decode nPutIns_countFresh.2.1 25 = .ok (.ifCond .eq 7, 3) := by decide +kernel
theorem dPutIns_countFresh_28 : decode nPutIns_countFresh.2.1 28 = .ok (.iconst 1, 1) := by decide +kernel
theorem dPutIns_countFresh_29 : decode nPutIns_countFresh.2.1 29 = .ok (.goto 4, 3) := by decide +kernel
theorem dPutIns_countFresh_32 : decode nPutIns_countFresh.2.1 32 = .ok (.iconst 0, 1) := by decide +kernel
theorem dPutIns_countFresh_33 : decode nPutIns_countFresh.2.1 33 = .ok (.iadd, 1) := by decide +kernel
theorem dPutIns_countFresh_34 : decode nPutIns_countFresh.2.1 34 = .ok (.istore_n 2, 1) := by decide +kernel
theorem dPutIns_countFresh_35 : decode nPutIns_countFresh.2.1 35 = .ok (.iinc 3 1, 3) := by decide +kernel
theorem dPutIns_countFresh_38 : decode nPutIns_countFresh.2.1 38 = .ok (.goto (-34), 3) := by decide +kernel
theorem dPutIns_countFresh_41 : decode nPutIns_countFresh.2.1 41 = .ok (.iload_n 2, 1) := by decide +kernel
theorem dPutIns_countFresh_42 : decode nPutIns_countFresh.2.1 42 = .ok (.ireturn, 1) := by decide +kernel
theorem dPutIns_addPerson_0 : decode nPutIns_addPerson.2.1 0 = .ok (.aload_n 0, 1) := by decide +kernel
theorem dPutIns_addPerson_1 : decode nPutIns_addPerson.2.1 1 = .ok (.iload_n 1, 1) := by decide +kernel
theorem dPutIns_addPerson_2 : decode nPutIns_addPerson.2.1 2 = .ok (.invokevirtual 96, 3) := by decide +kernel
theorem dPutIns_addPerson_5 : decode nPutIns_addPerson.2.1 5 = .ok (.istore 4, 2) := by decide +kernel
theorem dPutIns_addPerson_7 : decode nPutIns_addPerson.2.1 7 = .ok (.aload_n 0, 1) := by decide +kernel
theorem dPutIns_addPerson_8 : decode nPutIns_addPerson.2.1 8 = .ok (.getfield 33, 3) := by decide +kernel
theorem dPutIns_addPerson_11 : decode nPutIns_addPerson.2.1 11 = .ok (.iconst 1, 1) := by decide +kernel
theorem dPutIns_addPerson_12 : decode nPutIns_addPerson.2.1 12 = .ok (.isub, 1) := by decide +kernel
theorem dPutIns_addPerson_13 : decode nPutIns_addPerson.2.1 13 = .ok (.istore 5, 2) := by decide +kernel
theorem dPutIns_addPerson_15 : decode nPutIns_addPerson.2.1 15 = .ok (.iload 5, 2) := by decide +kernel
theorem dPutIns_addPerson_17 : decode nPutIns_addPerson.2.1 17 = .ok (.ifCond .lt 25, 3) := by decide +kernel
theorem dPutIns_addPerson_20 : decode nPutIns_addPerson.2.1 20 = .ok (.aload_n 0, 1) := by decide +kernel
theorem dPutIns_addPerson_21 : decode nPutIns_addPerson.2.1 21 = .ok (.getfield 29, 3) := by decide +kernel
theorem dPutIns_addPerson_24 : decode nPutIns_addPerson.2.1 24 = .ok (.iload 5, 2) := by decide +kernel
theorem dPutIns_addPerson_26 : decode nPutIns_addPerson.2.1 26 = .ok (.aload_n 0, 1) := by decide +kernel
theorem dPutIns_addPerson_27 : decode nPutIns_addPerson.2.1 27 = .ok (.iload 4, 2) := by decide +kernel
theorem dPutIns_addPerson_29 : decode nPutIns_addPerson.2.1 29 = .ok (.lload_n 2, 1) := by decide +kernel
theorem dPutIns_addPerson_30 : decode nPutIns_addPerson.2.1 30 = .ok (.iload 5, 2) := by decide +kernel
theorem dPutIns_addPerson_32 : decode nPutIns_addPerson.2.1 32 = .ok (.invokevirtual 99, 3) := by decide +kernel
theorem dPutIns_addPerson_35 : decode nPutIns_addPerson.2.1 35 = .ok (.lastore, 1) := by decide +kernel
theorem dPutIns_addPerson_36 : decode nPutIns_addPerson.2.1 36 = .ok (.iinc 5 (-1), 3) := by decide +kernel
theorem dPutIns_addPerson_39 : decode nPutIns_addPerson.2.1 39 = .ok (.goto (-24), 3) := by decide +kernel
theorem dPutIns_addPerson_42 : decode nPutIns_addPerson.2.1 42 = .ok (.return_, 1) := by decide +kernel
theorem dPutIns_staleTracks_0 : decode nPutIns_staleTracks.2.1 0 = .ok (.iconst 0, 1) := by decide +kernel
theorem dPutIns_staleTracks_1 : decode nPutIns_staleTracks.2.1 1 = .ok (.istore_n 2, 1) := by decide +kernel
theorem dPutIns_staleTracks_2 : decode nPutIns_staleTracks.2.1 2 = .ok (.iconst 0, 1) := by decide +kernel
theorem dPutIns_staleTracks_3 : decode nPutIns_staleTracks.2.1 3 = .ok (.istore_n 3, 1) := by decide +kernel
theorem dPutIns_staleTracks_4 : decode nPutIns_staleTracks.2.1 4 = .ok (.iload_n 3, 1) := by decide +kernel
theorem dPutIns_staleTracks_5 : decode nPutIns_staleTracks.2.1 5 = .ok (.aload_n 0, 1) := by decide +kernel
theorem dPutIns_staleTracks_6 : decode nPutIns_staleTracks.2.1 6 = .ok (.getfield 11, 3) := by decide +kernel
theorem dPutIns_staleTracks_9 : decode nPutIns_staleTracks.2.1 9 = .ok (.invokevirtual 74, 3) := by decide +kernel
theorem dPutIns_staleTracks_12 : decode nPutIns_staleTracks.2.1 12 = .ok (.if_icmp .ge 55, 3) := by decide +kernel
theorem dPutIns_staleTracks_15 : decode nPutIns_staleTracks.2.1 15 = .ok (.aload_n 0, 1) := by decide +kernel
theorem dPutIns_staleTracks_16 : decode nPutIns_staleTracks.2.1 16 = .ok (.getfield 15, 3) := by decide +kernel
theorem dPutIns_staleTracks_19 : decode nPutIns_staleTracks.2.1 19 = .ok (.iload_n 1, 1) := by decide +kernel
theorem dPutIns_staleTracks_20 : decode nPutIns_staleTracks.2.1 20 = .ok (.iload_n 3, 1) := by decide +kernel
theorem dPutIns_staleTracks_21 : decode nPutIns_staleTracks.2.1 21 = .ok (.invokevirtual 103, 3) := by decide +kernel
theorem dPutIns_staleTracks_24 : decode nPutIns_staleTracks.2.1 24 = .ok (.ifCond .eq 19, 3) := by decide +kernel
theorem dPutIns_staleTracks_27 : decode nPutIns_staleTracks.2.1 27 = .ok (.aload_n 0, 1) := by decide +kernel
theorem dPutIns_staleTracks_28 : decode nPutIns_staleTracks.2.1 28 = .ok (.getfield 15, 3) := by decide +kernel
theorem dPutIns_staleTracks_31 : decode nPutIns_staleTracks.2.1 31 = .ok (.iload_n 1, 1) := by decide +kernel
theorem dPutIns_staleTracks_32 : decode nPutIns_staleTracks.2.1 32 = .ok (.iload_n 3, 1) := by decide +kernel
theorem dPutIns_staleTracks_33 : decode nPutIns_staleTracks.2.1 33 = .ok (.invokevirtual 92, 3) := by decide +kernel
theorem dPutIns_staleTracks_36 : decode nPutIns_staleTracks.2.1 36 = .ok (.ifCond .ne 7, 3) := by decide +kernel
theorem dPutIns_staleTracks_39 : decode nPutIns_staleTracks.2.1 39 = .ok (.iconst 1, 1) := by decide +kernel
theorem dPutIns_staleTracks_40 : decode nPutIns_staleTracks.2.1 40 = .ok (.goto 4, 3) := by decide +kernel
theorem dPutIns_staleTracks_43 : decode nPutIns_staleTracks.2.1 43 = .ok (.iconst 0, 1) := by decide +kernel
theorem dPutIns_staleTracks_44 : decode nPutIns_staleTracks.2.1 44 = .ok (.istore 4, 2) := by decide +kernel
theorem dPutIns_staleTracks_46 : decode nPutIns_staleTracks.2.1 46 = .ok (.iload_n 2, 1) := by decide +kernel
theorem dPutIns_staleTracks_47 : decode nPutIns_staleTracks.2.1 47 = .ok (.iload 4, 2) := by decide +kernel
theorem dPutIns_staleTracks_49 : decode nPutIns_staleTracks.2.1 49 = .ok (.ifCond .eq 9, 3) := by decide +kernel
theorem dPutIns_staleTracks_52 : decode nPutIns_staleTracks.2.1 52 = .ok (.iconst 1, 1) := by decide +kernel
theorem dPutIns_staleTracks_53 : decode nPutIns_staleTracks.2.1 53 = .ok (.iload_n 3, 1) := by decide +kernel
theorem dPutIns_staleTracks_54 : decode nPutIns_staleTracks.2.1 54 = .ok (.ishl, 1) := by decide +kernel
theorem dPutIns_staleTracks_55 : decode nPutIns_staleTracks.2.1 55 = .ok (.goto 4, 3) := by decide +kernel
theorem dPutIns_staleTracks_58 : decode nPutIns_staleTracks.2.1 58 = .ok (.iconst 0, 1) := by decide +kernel
theorem dPutIns_staleTracks_59 : decode nPutIns_staleTracks.2.1 59 = .ok (.ior, 1) := by decide +kernel
theorem dPutIns_staleTracks_60 : decode nPutIns_staleTracks.2.1 60 = .ok (.istore_n 2, 1) := by decide +kernel
theorem dPutIns_staleTracks_61 : decode nPutIns_staleTracks.2.1 61 = .ok (.iinc 3 1, 3) := by decide +kernel
theorem dPutIns_staleTracks_64 : decode nPutIns_staleTracks.2.1 64 = .ok (.goto (-60), 3) := by decide +kernel
theorem dPutIns_staleTracks_67 : decode nPutIns_staleTracks.2.1 67 = .ok (.iload_n 2, 1) := by decide +kernel
theorem dPutIns_staleTracks_68 : decode nPutIns_staleTracks.2.1 68 = .ok (.ireturn, 1) := by decide +kernel
theorem dPutIns_leastWith_0 : decode nPutIns_leastWith.2.1 0 = .ok (.aload_n 0, 1) := by decide +kernel
theorem dPutIns_leastWith_1 : decode nPutIns_leastWith.2.1 1 = .ok (.getfield 29, 3) := by decide +kernel
theorem dPutIns_leastWith_4 : decode nPutIns_leastWith.2.1 4 = .ok (.iload 4, 2) := by decide +kernel
theorem dPutIns_leastWith_6 : decode nPutIns_leastWith.2.1 6 = .ok (.laload, 1) := by decide +kernel
theorem dPutIns_leastWith_7 : decode nPutIns_leastWith.2.1 7 = .ok (.ldc2_w 106, 3) := by decide +kernel
theorem dPutIns_leastWith_10 : decode nPutIns_leastWith.2.1 10 = .ok (.lload_n 2, 1) := by decide +kernel
theorem dPutIns_leastWith_11 : decode nPutIns_leastWith.2.1 11 = .ok (.lmul, 1) := by decide +kernel
theorem dPutIns_leastWith_12 : decode nPutIns_leastWith.2.1 12 = .ok (.invokestatic 108, 3) := by decide +kernel
theorem dPutIns_leastWith_15 : decode nPutIns_leastWith.2.1 15 = .ok (.lstore 5, 2) := by decide +kernel
theorem dPutIns_leastWith_17 : decode nPutIns_leastWith.2.1 17 = .ok (.iconst 0, 1) := by decide +kernel
theorem dPutIns_leastWith_18 : decode nPutIns_leastWith.2.1 18 = .ok (.istore 7, 2) := by decide +kernel
theorem dPutIns_leastWith_20 : decode nPutIns_leastWith.2.1 20 = .ok (.iload 7, 2) := by decide +kernel
theorem dPutIns_leastWith_22 : decode nPutIns_leastWith.2.1 22 = .ok (.aload_n 0, 1) := by decide +kernel
theorem dPutIns_leastWith_23 : decode nPutIns_leastWith.2.1 23 = .ok (.getfield 11, 3) := by decide +kernel
theorem dPutIns_leastWith_26 : decode nPutIns_leastWith.2.1 26 = .ok (.invokevirtual 74, 3) := by decide +kernel
theorem dPutIns_leastWith_29 : decode nPutIns_leastWith.2.1 29 = .ok (.if_icmp .ge 77, 3) := by decide +kernel
theorem dPutIns_leastWith_32 : decode nPutIns_leastWith.2.1 32 = .ok (.iload_n 1, 1) := by decide +kernel
theorem dPutIns_leastWith_33 : decode nPutIns_leastWith.2.1 33 = .ok (.iload 7, 2) := by decide +kernel
theorem dPutIns_leastWith_35 : decode nPutIns_leastWith.2.1 35 = .ok (.ishr, 1) := by decide +kernel
theorem dPutIns_leastWith_36 : decode nPutIns_leastWith.2.1 36 = .ok (.iconst 1, 1) := by decide +kernel
theorem dPutIns_leastWith_37 : decode nPutIns_leastWith.2.1 37 = .ok (.iand, 1) := by decide +kernel
theorem dPutIns_leastWith_38 : decode nPutIns_leastWith.2.1 38 = .ok (.iconst 1, 1) := by decide +kernel
theorem dPutIns_leastWith_39 : decode nPutIns_leastWith.2.1 39 = .ok (.if_icmp .ne 61, 3) := by decide +kernel
theorem dPutIns_leastWith_42 : decode nPutIns_leastWith.2.1 42 = .ok (.aload_n 0, 1) := by decide +kernel
theorem dPutIns_leastWith_43 : decode nPutIns_leastWith.2.1 43 = .ok (.iload 4, 2) := by decide +kernel
theorem dPutIns_leastWith_45 : decode nPutIns_leastWith.2.1 45 = .ok (.iload 7, 2) := by decide +kernel
theorem dPutIns_leastWith_47 : decode nPutIns_leastWith.2.1 47 = .ok (.invokevirtual 112, 3) := by decide +kernel
theorem dPutIns_leastWith_50 : decode nPutIns_leastWith.2.1 50 = .ok (.ifCond .eq 50, 3) := by decide +kernel
theorem dPutIns_leastWith_53 : decode nPutIns_leastWith.2.1 53 = .ok (.aload_n 0, 1) := by decide +kernel
theorem dPutIns_leastWith_54 : decode nPutIns_leastWith.2.1 54 = .ok (.getfield 29, 3) := by decide +kernel
theorem dPutIns_leastWith_57 : decode nPutIns_leastWith.2.1 57 = .ok (.iload 4, 2) := by decide +kernel
theorem dPutIns_leastWith_59 : decode nPutIns_leastWith.2.1 59 = .ok (.aload_n 0, 1) := by decide +kernel
theorem dPutIns_leastWith_60 : decode nPutIns_leastWith.2.1 60 = .ok (.getfield 23, 3) := by decide +kernel
theorem dPutIns_leastWith_63 : decode nPutIns_leastWith.2.1 63 = .ok (.iload 7, 2) := by decide +kernel
theorem dPutIns_leastWith_65 : decode nPutIns_leastWith.2.1 65 = .ok (.iaload, 1) := by decide +kernel
theorem dPutIns_leastWith_66 : decode nPutIns_leastWith.2.1 66 = .ok (.isub, 1) := by decide +kernel
theorem dPutIns_leastWith_67 : decode nPutIns_leastWith.2.1 67 = .ok (.laload, 1) := by decide +kernel
theorem dPutIns_leastWith_68 : decode nPutIns_leastWith.2.1 68 = .ok (.lstore 8, 2) := by decide +kernel
theorem dPutIns_leastWith_70 : decode nPutIns_leastWith.2.1 70 = .ok (.lload 5, 2) := by decide +kernel
theorem dPutIns_leastWith_72 : decode nPutIns_leastWith.2.1 72 = .ok (.lload 8, 2) := by decide +kernel
theorem dPutIns_leastWith_74 : decode nPutIns_leastWith.2.1 74 = .ok (.aload_n 0, 1) := by decide +kernel
theorem dPutIns_leastWith_75 : decode nPutIns_leastWith.2.1 75 = .ok (.getfield 26, 3) := by decide +kernel
theorem dPutIns_leastWith_78 : decode nPutIns_leastWith.2.1 78 = .ok (.iload 7, 2) := by decide +kernel
theorem dPutIns_leastWith_80 : decode nPutIns_leastWith.2.1 80 = .ok (.iaload, 1) := by decide +kernel
theorem dPutIns_leastWith_81 : decode nPutIns_leastWith.2.1 81 = .ok (.i2l, 1) := by decide +kernel
theorem dPutIns_leastWith_82 : decode nPutIns_leastWith.2.1 82 = .ok (.ldc2_w 67, 3) := by decide +kernel
theorem dPutIns_leastWith_85 : decode nPutIns_leastWith.2.1 85 = .ok (.lmul, 1) := by decide +kernel
theorem dPutIns_leastWith_86 : decode nPutIns_leastWith.2.1 86 = .ok (.iload 7, 2) := by decide +kernel
theorem dPutIns_leastWith_88 : decode nPutIns_leastWith.2.1 88 = .ok (.i2l, 1) := by decide +kernel
theorem dPutIns_leastWith_89 : decode nPutIns_leastWith.2.1 89 = .ok (.lload_n 2, 1) := by decide +kernel
theorem dPutIns_leastWith_90 : decode nPutIns_leastWith.2.1 90 = .ok (.lmul, 1) := by decide +kernel
theorem dPutIns_leastWith_91 : decode nPutIns_leastWith.2.1 91 = .ok (.ladd, 1) := by decide +kernel
theorem dPutIns_leastWith_92 : decode nPutIns_leastWith.2.1 92 = .ok (.invokestatic 108, 3) := by decide +kernel
theorem dPutIns_leastWith_95 : decode nPutIns_leastWith.2.1 95 = .ok (.invokestatic 115, 3) := by decide +kernel
theorem dPutIns_leastWith_98 : decode nPutIns_leastWith.2.1 98 = .ok (.lstore 5, 2) := by decide +kernel
theorem dPutIns_leastWith_100 : decode nPutIns_leastWith.2.1 100 = .ok (.iinc 7 1, 3) := by decide +kernel
theorem dPutIns_leastWith_103 : decode nPutIns_leastWith.2.1 103 = .ok (.goto (-83), 3) := by decide +kernel
theorem dPutIns_leastWith_106 : decode nPutIns_leastWith.2.1 106 = .ok (.lload 5, 2) := by decide +kernel
theorem dPutIns_leastWith_108 : decode nPutIns_leastWith.2.1 108 = .ok (.lreturn, 1) := by decide +kernel
theorem dPutIns_plus_0 : decode nPutIns_plus.2.1 0 = .ok (.lload_n 0, 1) := by decide +kernel
theorem dPutIns_plus_1 : decode nPutIns_plus.2.1 1 = .ok (.ldc2_w 41, 3) := by decide +kernel
theorem dPutIns_plus_4 : decode nPutIns_plus.2.1 4 = .ok (.lcmp, 1) := by decide +kernel
theorem dPutIns_plus_5 : decode nPutIns_plus.2.1 5 = .ok (.ifCond .ne 9, 3) := by decide +kernel
theorem dPutIns_plus_8 : decode nPutIns_plus.2.1 8 = .ok (.ldc2_w 41, 3) := by decide +kernel
theorem dPutIns_plus_11 : decode nPutIns_plus.2.1 11 = .ok (.goto 6, 3) := by decide +kernel
theorem dPutIns_plus_14 : decode nPutIns_plus.2.1 14 = .ok (.lload_n 0, 1) := by decide +kernel
theorem dPutIns_plus_15 : decode nPutIns_plus.2.1 15 = .ok (.lload_n 2, 1) := by decide +kernel
theorem dPutIns_plus_16 : decode nPutIns_plus.2.1 16 = .ok (.ladd, 1) := by decide +kernel
theorem dPutIns_plus_17 : decode nPutIns_plus.2.1 17 = .ok (.lreturn, 1) := by decide +kernel
theorem dPutIns_hasPutIn_0 : decode nPutIns_hasPutIn.2.1 0 = .ok (.aload_n 0, 1) := by decide +kernel
theorem dPutIns_hasPutIn_1 : decode nPutIns_hasPutIn.2.1 1 = .ok (.getfield 23, 3) := by decide +kernel
theorem dPutIns_hasPutIn_4 : decode nPutIns_hasPutIn.2.1 4 = .ok (.iload_n 2, 1) := by decide +kernel
theorem dPutIns_hasPutIn_5 : decode nPutIns_hasPutIn.2.1 5 = .ok (.iaload, 1) := by decide +kernel
theorem dPutIns_hasPutIn_6 : decode nPutIns_hasPutIn.2.1 6 = .ok (.istore_n 3, 1) := by decide +kernel
theorem dPutIns_hasPutIn_7 : decode nPutIns_hasPutIn.2.1 7 = .ok (.aload_n 0, 1) := by decide +kernel
theorem dPutIns_hasPutIn_8 : decode nPutIns_hasPutIn.2.1 8 = .ok (.getfield 19, 3) := by decide +kernel
theorem dPutIns_hasPutIn_11 : decode nPutIns_hasPutIn.2.1 11 = .ok (.iload_n 2, 1) := by decide +kernel
theorem dPutIns_hasPutIn_12 : decode nPutIns_hasPutIn.2.1 12 = .ok (.iaload, 1) := by decide +kernel
theorem dPutIns_hasPutIn_13 : decode nPutIns_hasPutIn.2.1 13 = .ok (.iconst 1, 1) := by decide +kernel
theorem dPutIns_hasPutIn_14 : decode nPutIns_hasPutIn.2.1 14 = .ok (.iadd, 1) := by decide +kernel
theorem dPutIns_hasPutIn_15 : decode nPutIns_hasPutIn.2.1 15 = .ok (.istore 4, 2) := by decide +kernel
theorem dPutIns_hasPutIn_17 : decode nPutIns_hasPutIn.2.1 17 = .ok (.iload_n 3, 1) := by decide +kernel
theorem dPutIns_hasPutIn_18 : decode nPutIns_hasPutIn.2.1 18 = .ok (.ifCond .le 26, 3) := by decide +kernel
theorem dPutIns_hasPutIn_21 : decode nPutIns_hasPutIn.2.1 21 = .ok (.iload 4, 2) := by decide +kernel
theorem dPutIns_hasPutIn_23 : decode nPutIns_hasPutIn.2.1 23 = .ok (.ifCond .le 21, 3) := by decide +kernel
theorem dPutIns_hasPutIn_26 : decode nPutIns_hasPutIn.2.1 26 = .ok (.iload_n 3, 1) := by decide +kernel
theorem dPutIns_hasPutIn_27 : decode nPutIns_hasPutIn.2.1 27 = .ok (.iload_n 1, 1) := by decide +kernel
theorem dPutIns_hasPutIn_28 : decode nPutIns_hasPutIn.2.1 28 = .ok (.if_icmp .gt 16, 3) := by decide +kernel
theorem dPutIns_hasPutIn_31 : decode nPutIns_hasPutIn.2.1 31 = .ok (.iload_n 1, 1) := by decide +kernel
theorem dPutIns_hasPutIn_32 : decode nPutIns_hasPutIn.2.1 32 = .ok (.iload_n 3, 1) := by decide +kernel
theorem dPutIns_hasPutIn_33 : decode nPutIns_hasPutIn.2.1 33 = .ok (.idiv, 1) := by decide +kernel
theorem dPutIns_hasPutIn_34 : decode nPutIns_hasPutIn.2.1 34 = .ok (.iload 4, 2) := by decide +kernel
theorem dPutIns_hasPutIn_36 : decode nPutIns_hasPutIn.2.1 36 = .ok (.irem, 1) := by decide +kernel
theorem dPutIns_hasPutIn_37 : decode nPutIns_hasPutIn.2.1 37 = .ok (.ifCond .le 7, 3) := by decide +kernel
theorem dPutIns_hasPutIn_40 : decode nPutIns_hasPutIn.2.1 40 = .ok (.iconst 1, 1) := by decide +kernel
theorem dPutIns_hasPutIn_41 : decode nPutIns_hasPutIn.2.1 41 = .ok (.goto 4, 3) := by decide +kernel
theorem dPutIns_hasPutIn_44 : decode nPutIns_hasPutIn.2.1 44 = .ok (.iconst 0, 1) := by decide +kernel
theorem dPutIns_hasPutIn_45 : decode nPutIns_hasPutIn.2.1 45 = .ok (.ireturn, 1) := by decide +kernel
theorem dSheet_init_0 : decode nSheet_init.2.1 0 = .ok (.aload_n 0, 1) := by decide +kernel
theorem dSheet_init_1 : decode nSheet_init.2.1 1 = .ok (.invokespecial 3, 3) := by decide +kernel
theorem dSheet_init_4 : decode nSheet_init.2.1 4 = .ok (.aload_n 0, 1) := by decide +kernel
theorem dSheet_init_5 : decode nSheet_init.2.1 5 = .ok (.iconst (-1), 1) := by decide +kernel
theorem dSheet_init_6 : decode nSheet_init.2.1 6 = .ok (.putfield 11, 3) := by decide +kernel
theorem dSheet_init_9 : decode nSheet_init.2.1 9 = .ok (.aload_n 0, 1) := by decide +kernel
theorem dSheet_init_10 : decode nSheet_init.2.1 10 = .ok (.bipush 30, 2) := by decide +kernel
theorem dSheet_init_12 : decode nSheet_init.2.1 12 = .ok (.newarray .byte, 2) := by decide +kernel
theorem dSheet_init_14 : decode nSheet_init.2.1 14 = .ok (.putfield 15, 3) := by decide +kernel
theorem dSheet_init_17 : decode nSheet_init.2.1 17 = .ok (.return_, 1) := by decide +kernel
theorem dSheet_isMissing_0 : decode nSheet_isMissing.2.1 0 = .ok (.aload_n 0, 1) := by decide +kernel
theorem dSheet_isMissing_1 : decode nSheet_isMissing.2.1 1 = .ok (.getfield 11, 3) := by decide +kernel
theorem dSheet_isMissing_4 : decode nSheet_isMissing.2.1 4 = .ok (.iconst (-1), 1) := by decide +kernel
theorem dSheet_isMissing_5 : decode nSheet_isMissing.2.1 5 = .ok (.if_icmp .ne 7, 3) := by decide +kernel
theorem dSheet_isMissing_8 : decode nSheet_isMissing.2.1 8 = .ok (.iconst 1, 1) := by decide +kernel
theorem dSheet_isMissing_9 : decode nSheet_isMissing.2.1 9 = .ok (.goto 4, 3) := by decide +kernel
theorem dSheet_isMissing_12 : decode nSheet_isMissing.2.1 12 = .ok (.iconst 0, 1) := by decide +kernel
theorem dSheet_isMissing_13 : decode nSheet_isMissing.2.1 13 = .ok (.ireturn, 1) := by decide +kernel
theorem dSheet_length_0 : decode nSheet_length.2.1 0 = .ok (.aload_n 0, 1) := by decide +kernel
theorem dSheet_length_1 : decode nSheet_length.2.1 1 = .ok (.getfield 11, 3) := by decide +kernel
theorem dSheet_length_4 : decode nSheet_length.2.1 4 = .ok (.ireturn, 1) := by decide +kernel
theorem dSheet_begin_0 : decode nSheet_begin.2.1 0 = .ok (.iload_n 1, 1) := by decide +kernel
theorem dSheet_begin_1 : decode nSheet_begin.2.1 1 = .ok (.iconst 0, 1) := by decide +kernel
theorem dSheet_begin_2 : decode nSheet_begin.2.1 2 = .ok (.bipush 30, 2) := by decide +kernel
theorem dSheet_begin_4 : decode nSheet_begin.2.1 4 = .ok (.invokestatic 19, 3) := by decide +kernel
theorem dSheet_begin_7 : decode nSheet_begin.2.1 7 = .ok (.ifCond .eq 16, 3) := by decide +kernel
theorem dSheet_begin_10 : decode nSheet_begin.2.1 10 = .ok (.aload_n 0, 1) := by decide +kernel
theorem dSheet_begin_11 : decode nSheet_begin.2.1 11 = .ok (.iload_n 1, 1) := by decide +kernel
theorem dSheet_begin_12 : decode nSheet_begin.2.1 12 = .ok (.putfield 11, 3) := by decide +kernel
theorem dSheet_begin_15 : decode nSheet_begin.2.1 15 = .ok (.aload_n 0, 1) := by decide +kernel
theorem dSheet_begin_16 : decode nSheet_begin.2.1 16 = .ok (.getfield 15, 3) := by decide +kernel
theorem dSheet_begin_19 : decode nSheet_begin.2.1 19 = .ok (.iconst 0, 1) := by decide +kernel
theorem dSheet_begin_20 : decode nSheet_begin.2.1 20 = .ok (.invokestatic 23, 3) := by decide +kernel
theorem dSheet_begin_23 : decode nSheet_begin.2.1 23 = .ok (.return_, 1) := by decide +kernel
theorem dSheet_hasRun_0 : decode nSheet_hasRun.2.1 0 = .ok (.iload_n 1, 1) := by decide +kernel
theorem dSheet_hasRun_1 : decode nSheet_hasRun.2.1 1 = .ok (.iconst 0, 1) := by decide +kernel
theorem dSheet_hasRun_2 : decode nSheet_hasRun.2.1 2 = .ok (.aload_n 0, 1) := by decide +kernel
theorem dSheet_hasRun_3 : decode nSheet_hasRun.2.1 3 = .ok (.getfield 11, 3) := by decide +kernel
theorem dSheet_hasRun_6 : decode nSheet_hasRun.2.1 6 = .ok (.invokestatic 19, 3) := by decide +kernel
theorem dSheet_hasRun_9 : decode nSheet_hasRun.2.1 9 = .ok (.ifCond .eq 21, 3) := by decide +kernel
theorem dSheet_hasRun_12 : decode nSheet_hasRun.2.1 12 = .ok (.iload_n 2, 1) := by decide +kernel
theorem dSheet_hasRun_13 : decode nSheet_hasRun.2.1 13 = .ok (.iconst 0, 1) := by decide +kernel
theorem dSheet_hasRun_14 : decode nSheet_hasRun.2.1 14 = .ok (.aload_n 0, 1) := by decide +kernel
theorem dSheet_hasRun_15 : decode nSheet_hasRun.2.1 15 = .ok (.getfield 11, 3) := by decide +kernel
theorem dSheet_hasRun_18 : decode nSheet_hasRun.2.1 18 = .ok (.iload_n 1, 1) := by decide +kernel
theorem dSheet_hasRun_19 : decode nSheet_hasRun.2.1 19 = .ok (.isub, 1) := by decide +kernel
theorem dSheet_hasRun_20 : decode nSheet_hasRun.2.1 20 = .ok (.invokestatic 19, 3) := by decide +kernel
theorem dSheet_hasRun_23 : decode nSheet_hasRun.2.1 23 = .ok (.ifCond .eq 7, 3) := by decide +kernel
theorem dSheet_hasRun_26 : decode nSheet_hasRun.2.1 26 = .ok (.iconst 1, 1) := by decide +kernel
theorem dSheet_hasRun_27 : decode nSheet_hasRun.2.1 27 = .ok (.goto 4, 3) := by decide +kernel
theorem dSheet_hasRun_30 : decode nSheet_hasRun.2.1 30 = .ok (.iconst 0, 1) := by decide +kernel
theorem dSheet_hasRun_31 : decode nSheet_hasRun.2.1 31 = .ok (.ireturn, 1) := by decide +kernel
theorem dSheet_valueAt_0 : decode nSheet_valueAt.2.1 0 = .ok (.aload_n 0, 1) := by decide +kernel
theorem dSheet_valueAt_1 : decode nSheet_valueAt.2.1 1 = .ok (.iload_n 1, 1) := by decide +kernel
theorem dSheet_valueAt_2 : decode nSheet_valueAt.2.1 2 = .ok (.iconst 1, 1) := by decide +kernel
theorem dSheet_valueAt_3 : decode nSheet_valueAt.2.1 3 = .ok (.invokevirtual 29, 3) := by decide +kernel
theorem dSheet_valueAt_6 : decode nSheet_valueAt.2.1 6 = .ok (.ifCond .eq 12, 3) := by decide +kernel
theorem dSheet_valueAt_9 : decode nSheet_valueAt.2.1 9 = .ok (.aload_n 0, 1) := by decide +kernel
theorem dSheet_valueAt_10 : decode nSheet_valueAt.2.1 10 = .ok (.getfield 15, 3) := by decide +kernel
theorem dSheet_valueAt_13 : decode nSheet_valueAt.2.1 13 = .ok (.iload_n 1, 1) := by decide +kernel
theorem dSheet_valueAt_14 : decode nSheet_valueAt.2.1 14 = .ok (.baload, 1) := by decide +kernel
theorem dSheet_valueAt_15 : decode nSheet_valueAt.2.1 15 = .ok (.goto 4, 3) := by decide +kernel
theorem dSheet_valueAt_18 : decode nSheet_valueAt.2.1 18 = .ok (.iconst 0, 1) := by decide +kernel
theorem dSheet_valueAt_19 : decode nSheet_valueAt.2.1 19 = .ok (.ireturn, 1) := by decide +kernel
theorem dSheet_setValue_0 : decode nSheet_setValue.2.1 0 = .ok (.aload_n 0, 1) := by decide +kernel
theorem dSheet_setValue_1 : decode nSheet_setValue.2.1 1 = .ok (.iload_n 1, 1) := by decide +kernel
theorem dSheet_setValue_2 : decode nSheet_setValue.2.1 2 = .ok (.iconst 1, 1) := by decide +kernel
theorem dSheet_setValue_3 : decode nSheet_setValue.2.1 3 = .ok (.invokevirtual 29, 3) := by decide +kernel
theorem dSheet_setValue_6 : decode nSheet_setValue.2.1 6 = .ok (.ifCond .eq 10, 3) := by decide +kernel
theorem dSheet_setValue_9 : decode nSheet_setValue.2.1 9 = .ok (.aload_n 0, 1) := by decide +kernel
theorem dSheet_setValue_10 : decode nSheet_setValue.2.1 10 = .ok (.getfield 15, 3) := by decide +kernel
theorem dSheet_setValue_13 : decode nSheet_setValue.2.1 13 = .ok (.iload_n 1, 1) := by decide +kernel
theorem dSheet_setValue_14 : decode nSheet_setValue.2.1 14 = .ok (.iload_n 2, 1) := by decide +kernel
theorem dSheet_setValue_15 : decode nSheet_setValue.2.1 15 = .ok (.bastore, 1) := by decide +kernel
theorem dSheet_setValue_16 : decode nSheet_setValue.2.1 16 = .ok (.return_, 1) := by decide +kernel
theorem dSheet_take_0 : decode nSheet_take.2.1 0 = .ok (.aload_n 1, 1) := by decide +kernel
theorem dSheet_take_1 : decode nSheet_take.2.1 1 = .ok (.iload_n 2, 1) := by decide +kernel
theorem dSheet_take_2 : decode nSheet_take.2.1 2 = .ok (.iload 4, 2) := by decide +kernel
theorem dSheet_take_4 : decode nSheet_take.2.1 4 = .ok (.invokevirtual 29, 3) := by decide +kernel
theorem dSheet_take_7 : decode nSheet_take.2.1 7 = .ok (.ifCond .eq 28, 3) := by decide +kernel
theorem dSheet_take_10 : decode nSheet_take.2.1 10 = .ok (.aload_n 0, 1) := by decide +kernel
theorem dSheet_take_11 : decode nSheet_take.2.1 11 = .ok (.iload_n 3, 1) := by decide +kernel
theorem dSheet_take_12 : decode nSheet_take.2.1 12 = .ok (.iload 4, 2) := by decide +kernel
theorem dSheet_take_14 : decode nSheet_take.2.1 14 = .ok (.invokevirtual 29, 3) := by decide +kernel
theorem dSheet_take_17 : decode nSheet_take.2.1 17 = .ok (.ifCond .eq 18, 3) := by decide +kernel
theorem dSheet_take_20 : decode nSheet_take.2.1 20 = .ok (.aload_n 1, 1) := by decide +kernel
theorem dSheet_take_21 : decode nSheet_take.2.1 21 = .ok (.getfield 15, 3) := by decide +kernel
theorem dSheet_take_24 : decode nSheet_take.2.1 24 = .ok (.iload_n 2, 1) := by decide +kernel
theorem dSheet_take_25 : decode nSheet_take.2.1 25 = .ok (.aload_n 0, 1) := by decide +kernel
theorem dSheet_take_26 : decode nSheet_take.2.1 26 = .ok (.getfield 15, 3) := by decide +kernel
theorem dSheet_take_29 : decode nSheet_take.2.1 29 = .ok (.iload_n 3, 1) := by decide +kernel
theorem dSheet_take_30 : decode nSheet_take.2.1 30 = .ok (.iload 4, 2) := by decide +kernel
theorem dSheet_take_32 : decode nSheet_take.2.1 32 = .ok (.invokestatic 33, 3) := by decide +kernel
theorem dSheet_take_35 : decode nSheet_take.2.1 35 = .ok (.return_, 1) := by decide +kernel
theorem dShow_init_0 : decode nShow_init.2.1 0 = .ok (.aload_n 0, 1) := by decide +kernel
theorem dShow_init_1 : decode nShow_init.2.1 1 = .ok (.invokespecial 3, 3) := by decide +kernel
theorem dShow_init_4 : decode nShow_init.2.1 4 = .ok (.aload_n 0, 1) := by decide +kernel
theorem dShow_init_5 : decode nShow_init.2.1 5 = .ok (.iconst 0, 1) := by decide +kernel
theorem dShow_init_6 : decode nShow_init.2.1 6 = .ok (.putfield 9, 3) := by decide +kernel
theorem dShow_init_9 : decode nShow_init.2.1 9 = .ok (.aload_n 0, 1) := by decide +kernel
theorem dShow_init_10 : decode nShow_init.2.1 10 = .ok (.bipush 8, 2) := by decide +kernel
theorem dShow_init_12 : decode nShow_init.2.1 12 = .ok (.newarray .int, 2) := by decide +kernel
theorem dShow_init_14 : decode nShow_init.2.1 14 = .ok (.putfield 15, 3) := by decide +kernel
theorem dShow_init_17 : decode nShow_init.2.1 17 = .ok (.aload_n 0, 1) := by decide +kernel
theorem dShow_init_18 : decode nShow_init.2.1 18 = .ok (.sipush 240, 3) := by decide +kernel
theorem dShow_init_21 : decode nShow_init.2.1 21 = .ok (.newarray .int, 2) := by decide +kernel
theorem dShow_init_23 : decode nShow_init.2.1 23 = .ok (.putfield 19, 3) := by decide +kernel
theorem dShow_init_26 : decode nShow_init.2.1 26 = .ok (.aload_n 0, 1) := by decide +kernel
theorem dShow_init_27 : decode nShow_init.2.1 27 = .ok (.sipush 240, 3) := by decide +kernel
theorem dShow_init_30 : decode nShow_init.2.1 30 = .ok (.newarray .int, 2) := by decide +kernel
theorem dShow_init_32 : decode nShow_init.2.1 32 = .ok (.putfield 22, 3) := by decide +kernel
theorem dShow_init_35 : decode nShow_init.2.1 35 = .ok (.aload_n 0, 1) := by decide +kernel
theorem dShow_init_36 : decode nShow_init.2.1 36 = .ok (.bipush 30, 2) := by decide +kernel
theorem dShow_init_38 : decode nShow_init.2.1 38 = .ok (.newarray .int, 2) := by decide +kernel
theorem dShow_init_40 : decode nShow_init.2.1 40 = .ok (.putfield 25, 3) := by decide +kernel
theorem dShow_init_43 : decode nShow_init.2.1 43 = .ok (.aload_n 0, 1) := by decide +kernel
theorem dShow_init_44 : decode nShow_init.2.1 44 = .ok (.bipush 30, 2) := by decide +kernel
theorem dShow_init_46 : decode nShow_init.2.1 46 = .ok (.newarray .int, 2) := by decide +kernel
theorem dShow_init_48 : decode nShow_init.2.1 48 = .ok (.putfield 28, 3) := by decide +kernel
theorem dShow_init_51 : decode nShow_init.2.1 51 = .ok (.aload_n 0, 1) := by decide +kernel
theorem dShow_init_52 : decode nShow_init.2.1 52 = .ok (.getfield 19, 3) := by decide +kernel
theorem dShow_init_55 : decode nShow_init.2.1 55 = .ok (.ldc 31, 2) := by decide +kernel
theorem dShow_init_57 : decode nShow_init.2.1 57 = .ok (.invokestatic 32, 3) := by decide +kernel
theorem dShow_init_60 : decode nShow_init.2.1 60 = .ok (.aload_n 0, 1) := by decide +kernel
theorem dShow_init_61 : decode nShow_init.2.1 61 = .ok (.getfield 25, 3) := by decide +kernel
theorem dShow_init_64 : decode nShow_init.2.1 64 = .ok (.ldc 31, 2) := by decide +kernel
theorem dShow_init_66 : decode nShow_init.2.1 66 = .ok (.invokestatic 32, 3) := by decide +kernel
theorem dShow_init_69 : decode nShow_init.2.1 69 = .ok (.aload_n 0, 1) := by decide +kernel
theorem dShow_init_70 : decode nShow_init.2.1 70 = .ok (.getfield 28, 3) := by decide +kernel
theorem dShow_init_73 : decode nShow_init.2.1 73 = .ok (.ldc 31, 2) := by decide +kernel
theorem dShow_init_75 : decode nShow_init.2.1 75 = .ok (.invokestatic 32, 3) := by decide +kernel
theorem dShow_init_78 : decode nShow_init.2.1 78 = .ok (.return_, 1) := by decide +kernel
theorem dShow_addTrack_0 : decode nShow_addTrack.2.1 0 = .ok (.aload_n 0, 1) := by decide +kernel
theorem dShow_addTrack_1 : decode nShow_addTrack.2.1 1 = .ok (.getfield 9, 3) := by decide +kernel
theorem dShow_addTrack_4 : decode nShow_addTrack.2.1 4 = .ok (.bipush 8, 2) := by decide +kernel
theorem dShow_addTrack_6 : decode nShow_addTrack.2.1 6 = .ok (.if_icmp .lt 6, 3) := by decide +kernel
theorem dShow_addTrack_9 : decode nShow_addTrack.2.1 9 = .ok (.ldc 38, 2) := by decide +kernel
theorem dShow_addTrack_11 : decode nShow_addTrack.2.1 11 = .ok (.ireturn, 1) := by decide +kernel
theorem dShow_addTrack_12 : decode nShow_addTrack.2.1 12 = .ok (.aload_n 0, 1) := by decide +kernel
theorem dShow_addTrack_13 : decode nShow_addTrack.2.1 13 = .ok (.getfield 15, 3) := by decide +kernel
theorem dShow_addTrack_16 : decode nShow_addTrack.2.1 16 = .ok (.aload_n 0, 1) := by decide +kernel
theorem dShow_addTrack_17 : decode nShow_addTrack.2.1 17 = .ok (.getfield 9, 3) := by decide +kernel
theorem dShow_addTrack_20 : decode nShow_addTrack.2.1 20 = .ok (.iload_n 1, 1) := by decide +kernel
theorem dShow_addTrack_21 : decode nShow_addTrack.2.1 21 = .ok (.iastore, 1) := by decide +kernel
theorem dShow_addTrack_22 : decode nShow_addTrack.2.1 22 = .ok (.aload_n 0, 1) := by decide +kernel
theorem dShow_addTrack_23 : decode nShow_addTrack.2.1 23 = .ok (.dup, 1) := by decide +kernel
theorem dShow_addTrack_24 : decode nShow_addTrack.2.1 24 = .ok (.getfield 9, 3) := by decide +kernel
theorem dShow_addTrack_27 : decode nShow_addTrack.2.1 27 = .ok (.iconst 1, 1) := by decide +kernel
theorem dShow_addTrack_28 : decode nShow_addTrack.2.1 28 = .ok (.iadd, 1) := by decide +kernel
theorem dShow_addTrack_29 : decode nShow_addTrack.2.1 29 = .ok (.putfield 9, 3) := by decide +kernel
theorem dShow_addTrack_32 : decode nShow_addTrack.2.1 32 = .ok (.aload_n 0, 1) := by decide +kernel
theorem dShow_addTrack_33 : decode nShow_addTrack.2.1 33 = .ok (.getfield 9, 3) := by decide +kernel
theorem dShow_addTrack_36 : decode nShow_addTrack.2.1 36 = .ok (.iconst 1, 1) := by decide +kernel
theorem dShow_addTrack_37 : decode nShow_addTrack.2.1 37 = .ok (.isub, 1) := by decide +kernel
theorem dShow_addTrack_38 : decode nShow_addTrack.2.1 38 = .ok (.ireturn, 1) := by decide +kernel
theorem dShow_tracks_0 : decode nShow_tracks.2.1 0 = .ok (.aload_n 0, 1) := by decide +kernel
theorem dShow_tracks_1 : decode nShow_tracks.2.1 1 = .ok (.getfield 9, 3) := by decide +kernel
theorem dShow_tracks_4 : decode nShow_tracks.2.1 4 = .ok (.ireturn, 1) := by decide +kernel
theorem dShow_isTrack_0 : decode nShow_isTrack.2.1 0 = .ok (.iload_n 1, 1) := by decide +kernel
theorem dShow_isTrack_1 : decode nShow_isTrack.2.1 1 = .ok (.ifCond .lt 15, 3) := by decide +kernel
theorem dShow_isTrack_4 : decode nShow_isTrack.2.1 4 = .ok (.iload_n 1, 1) := by decide +kernel
theorem dShow_isTrack_5 : decode nShow_isTrack.2.1 5 = .ok (.aload_n 0, 1) := by decide +kernel
theorem dShow_isTrack_6 : decode nShow_isTrack.2.1 6 = .ok (.getfield 9, 3) := by decide +kernel
theorem dShow_isTrack_9 : decode nShow_isTrack.2.1 9 = .ok (.if_icmp .ge 7, 3) := by decide +kernel
theorem dShow_isTrack_12 : decode nShow_isTrack.2.1 12 = .ok (.iconst 1, 1) := by decide +kernel
theorem dShow_isTrack_13 : decode nShow_isTrack.2.1 13 = .ok (.goto 4, 3) := by decide +kernel
theorem dShow_isTrack_16 : decode nShow_isTrack.2.1 16 = .ok (.iconst 0, 1) := by decide +kernel
theorem dShow_isTrack_17 : decode nShow_isTrack.2.1 17 = .ok (.ireturn, 1) := by decide +kernel
theorem dShow_dressOf_0 : decode nShow_dressOf.2.1 0 = .ok (.aload_n 0, 1) := by decide +kernel
theorem dShow_dressOf_1 : decode nShow_dressOf.2.1 1 = .ok (.iload_n 1, 1) := by decide +kernel
theorem dShow_dressOf_2 : decode nShow_dressOf.2.1 2 = .ok (.invokevirtual 39, 3) := by decide +kernel
theorem dShow_dressOf_5 : decode nShow_dressOf.2.1 5 = .ok (.ifCond .eq 12, 3) := by decide +kernel
theorem dShow_dressOf_8 : decode nShow_dressOf.2.1 8 = .ok (.aload_n 0, 1) := by decide +kernel
theorem dShow_dressOf_9 : decode nShow_dressOf.2.1 9 = .ok (.getfield 15, 3) := by decide +kernel
theorem dShow_dressOf_12 : decode nShow_dressOf.2.1 12 = .ok (.iload_n 1, 1) := by decide +kernel
theorem dShow_dressOf_13 : decode nShow_dressOf.2.1 13 = .ok (.iaload, 1) := by decide +kernel
theorem dShow_dressOf_14 : decode nShow_dressOf.2.1 14 = .ok (.goto 5, 3) := by decide +kernel
theorem dShow_dressOf_17 : decode nShow_dressOf.2.1 17 = .ok (.ldc 31, 2) := by decide +kernel
theorem dShow_dressOf_19 : decode nShow_dressOf.2.1 19 = .ok (.ireturn, 1) := by decide +kernel
theorem dShow_placeAt_0 : decode nShow_placeAt.2.1 0 = .ok (.aload_n 0, 1) := by decide +kernel
theorem dShow_placeAt_1 : decode nShow_placeAt.2.1 1 = .ok (.iload_n 1, 1) := by decide +kernel
theorem dShow_placeAt_2 : decode nShow_placeAt.2.1 2 = .ok (.invokevirtual 39, 3) := by decide +kernel
theorem dShow_placeAt_5 : decode nShow_placeAt.2.1 5 = .ok (.ifCond .eq 24, 3) := by decide +kernel
theorem dShow_placeAt_8 : decode nShow_placeAt.2.1 8 = .ok (.iload_n 2, 1) := by decide +kernel
theorem dShow_placeAt_9 : decode nShow_placeAt.2.1 9 = .ok (.invokestatic 43, 3) := by decide +kernel
theorem dShow_placeAt_12 : decode nShow_placeAt.2.1 12 = .ok (.ifCond .eq 17, 3) := by decide +kernel
theorem dShow_placeAt_15 : decode nShow_placeAt.2.1 15 = .ok (.aload_n 0, 1) := by decide +kernel
theorem dShow_placeAt_16 : decode nShow_placeAt.2.1 16 = .ok (.getfield 19, 3) := by decide +kernel
theorem dShow_placeAt_19 : decode nShow_placeAt.2.1 19 = .ok (.iload_n 1, 1) := by decide +kernel
theorem dShow_placeAt_20 : decode nShow_placeAt.2.1 20 = .ok (.bipush 30, 2) := by decide +kernel
theorem dShow_placeAt_22 : decode nShow_placeAt.2.1 22 = .ok (.imul, 1) := by decide +kernel
theorem dShow_placeAt_23 : decode nShow_placeAt.2.1 23 = .ok (.iload_n 2, 1) := by decide +kernel
theorem dShow_placeAt_24 : decode nShow_placeAt.2.1 24 = .ok (.iadd, 1) := by decide +kernel
theorem dShow_placeAt_25 : decode nShow_placeAt.2.1 25 = .ok (.iaload, 1) := by decide +kernel
theorem dShow_placeAt_26 : decode nShow_placeAt.2.1 26 = .ok (.goto 5, 3) := by decide +kernel
theorem dShow_placeAt_29 : decode nShow_placeAt.2.1 29 = .ok (.ldc 31, 2) := by decide +kernel
theorem dShow_placeAt_31 : decode nShow_placeAt.2.1 31 = .ok (.ireturn, 1) := by decide +kernel
theorem dShow_isIn_0 : decode nShow_isIn.2.1 0 = .ok (.aload_n 0, 1) := by decide +kernel
theorem dShow_isIn_1 : decode nShow_isIn.2.1 1 = .ok (.iload_n 1, 1) := by decide +kernel
theorem dShow_isIn_2 : decode nShow_isIn.2.1 2 = .ok (.invokevirtual 39, 3) := by decide +kernel
theorem dShow_isIn_5 : decode nShow_isIn.2.1 5 = .ok (.ifCond .eq 30, 3) := by decide +kernel
theorem dShow_isIn_8 : decode nShow_isIn.2.1 8 = .ok (.iload_n 2, 1) := by decide +kernel
theorem dShow_isIn_9 : decode nShow_isIn.2.1 9 = .ok (.invokestatic 43, 3) := by decide +kernel
theorem dShow_isIn_12 : decode nShow_isIn.2.1 12 = .ok (.ifCond .eq 23, 3) := by decide +kernel
theorem dShow_isIn_15 : decode nShow_isIn.2.1 15 = .ok (.aload_n 0, 1) := by decide +kernel
theorem dShow_isIn_16 : decode nShow_isIn.2.1 16 = .ok (.getfield 19, 3) := by decide +kernel
theorem dShow_isIn_19 : decode nShow_isIn.2.1 19 = .ok (.iload_n 1, 1) := by decide +kernel
theorem dShow_isIn_20 : decode nShow_isIn.2.1 20 = .ok (.bipush 30, 2) := by decide +kernel
theorem dShow_isIn_22 : decode nShow_isIn.2.1 22 = .ok (.imul, 1) := by decide +kernel
theorem dShow_isIn_23 : decode nShow_isIn.2.1 23 = .ok (.iload_n 2, 1) := by decide +kernel
theorem dShow_isIn_24 : decode nShow_isIn.2.1 24 = .ok (.iadd, 1) := by decide +kernel
theorem dShow_isIn_25 : decode nShow_isIn.2.1 25 = .ok (.iaload, 1) := by decide +kernel
theorem dShow_isIn_26 : decode nShow_isIn.2.1 26 = .ok (.ldc 31, 2) := by decide +kernel
theorem dShow_isIn_28 : decode nShow_isIn.2.1 28 = .ok (.if_icmp .eq 7, 3) := by decide +kernel
theorem dShow_isIn_31 : decode nShow_isIn.2.1 31 = .ok (.iconst 1, 1) := by decide +kernel
theorem dShow_isIn_32 : decode nShow_isIn.2.1 32 = .ok (.goto 4, 3) := by decide +kernel
theorem dShow_isIn_35 : decode nShow_isIn.2.1 35 = .ok (.iconst 0, 1) := by decide +kernel
theorem dShow_isIn_36 : decode nShow_isIn.2.1 36 = .ok (.ireturn, 1) := by decide +kernel
theorem dShow_mustAt_0 : decode nShow_mustAt.2.1 0 = .ok (.aload_n 0, 1) := by decide +kernel
theorem dShow_mustAt_1 : decode nShow_mustAt.2.1 1 = .ok (.iload_n 1, 1) := by decide +kernel
theorem dShow_mustAt_2 : decode nShow_mustAt.2.1 2 = .ok (.invokevirtual 39, 3) := by decide +kernel
theorem dShow_mustAt_5 : decode nShow_mustAt.2.1 5 = .ok (.ifCond .eq 24, 3) := by decide +kernel
theorem dShow_mustAt_8 : decode nShow_mustAt.2.1 8 = .ok (.iload_n 2, 1) := by decide +kernel
theorem dShow_mustAt_9 : decode nShow_mustAt.2.1 9 = .ok (.invokestatic 43, 3) := by decide +kernel
theorem dShow_mustAt_12 : decode nShow_mustAt.2.1 12 = .ok (.ifCond .eq 17, 3) := by decide +kernel
theorem dShow_mustAt_15 : decode nShow_mustAt.2.1 15 = .ok (.aload_n 0, 1) := by decide +kernel
theorem dShow_mustAt_16 : decode nShow_mustAt.2.1 16 = .ok (.getfield 22, 3) := by decide +kernel
theorem dShow_mustAt_19 : decode nShow_mustAt.2.1 19 = .ok (.iload_n 1, 1) := by decide +kernel
theorem dShow_mustAt_20 : decode nShow_mustAt.2.1 20 = .ok (.bipush 30, 2) := by decide +kernel
theorem dShow_mustAt_22 : decode nShow_mustAt.2.1 22 = .ok (.imul, 1) := by decide +kernel
theorem dShow_mustAt_23 : decode nShow_mustAt.2.1 23 = .ok (.iload_n 2, 1) := by decide +kernel
theorem dShow_mustAt_24 : decode nShow_mustAt.2.1 24 = .ok (.iadd, 1) := by decide +kernel
theorem dShow_mustAt_25 : decode nShow_mustAt.2.1 25 = .ok (.iaload, 1) := by decide +kernel
theorem dShow_mustAt_26 : decode nShow_mustAt.2.1 26 = .ok (.goto 4, 3) := by decide +kernel
theorem dShow_mustAt_29 : decode nShow_mustAt.2.1 29 = .ok (.iconst 0, 1) := by decide +kernel
theorem dShow_mustAt_30 : decode nShow_mustAt.2.1 30 = .ok (.ireturn, 1) := by decide +kernel
theorem dShow_put_0 : decode nShow_put.2.1 0 = .ok (.aload_n 0, 1) := by decide +kernel
theorem dShow_put_1 : decode nShow_put.2.1 1 = .ok (.iload_n 1, 1) := by decide +kernel
theorem dShow_put_2 : decode nShow_put.2.1 2 = .ok (.invokevirtual 39, 3) := by decide +kernel
theorem dShow_put_5 : decode nShow_put.2.1 5 = .ok (.ifCond .eq 10, 3) := by decide +kernel
theorem dShow_put_8 : decode nShow_put.2.1 8 = .ok (.iload_n 2, 1) := by decide +kernel
theorem dShow_put_9 : decode nShow_put.2.1 9 = .ok (.invokestatic 43, 3) := by decide +kernel
theorem dShow_put_12 : decode nShow_put.2.1 12 = .ok (.ifCond .ne 4, 3) := by decide +kernel
theorem dShow_put_15 : decode nShow_put.2.1 15 = .ok (.return_, 1) := by decide +kernel
theorem dShow_put_16 : decode nShow_put.2.1 16 = .ok (.aload_n 0, 1) := by decide +kernel
theorem dShow_put_17 : decode nShow_put.2.1 17 = .ok (.getfield 25, 3) := by decide +kernel
theorem dShow_put_20 : decode nShow_put.2.1 20 = .ok (.iload_n 2, 1) := by decide +kernel
theorem dShow_put_21 : decode nShow_put.2.1 21 = .ok (.iaload, 1) := by decide +kernel
theorem dShow_put_22 : decode nShow_put.2.1 22 = .ok (.iload_n 1, 1) := by decide +kernel
theorem dShow_put_23 : decode nShow_put.2.1 23 = .ok (.if_icmp .eq 13, 3) := by decide +kernel
theorem dShow_put_26 : decode nShow_put.2.1 26 = .ok (.aload_n 0, 1) := by decide +kernel
theorem dShow_put_27 : decode nShow_put.2.1 27 = .ok (.getfield 28, 3) := by decide +kernel
theorem dShow_put_30 : decode nShow_put.2.1 30 = .ok (.iload_n 2, 1) := by decide +kernel
theorem dShow_put_31 : decode nShow_put.2.1 31 = .ok (.iaload, 1) := by decide +kernel
theorem dShow_put_32 : decode nShow_put.2.1 32 = .ok (.iload_n 1, 1) := by decide +kernel
theorem dShow_put_33 : decode nShow_put.2.1 33 = .ok (.if_icmp .ne 12, 3) := by decide +kernel
theorem dShow_put_36 : decode nShow_put.2.1 36 = .ok (.aload_n 0, 1) := by decide +kernel
theorem dShow_put_37 : decode nShow_put.2.1 37 = .ok (.iload_n 2, 1) := by decide +kernel
theorem dShow_put_38 : decode nShow_put.2.1 38 = .ok (.ldc 31, 2) := by decide +kernel
theorem dShow_put_40 : decode nShow_put.2.1 40 = .ok (.ldc 31, 2) := by decide +kernel
theorem dShow_put_42 : decode nShow_put.2.1 42 = .ok (.invokevirtual 46, 3) := by decide +kernel
theorem dShow_put_45 : decode nShow_put.2.1 45 = .ok (.aload_n 0, 1) := by decide +kernel
theorem dShow_put_46 : decode nShow_put.2.1 46 = .ok (.getfield 19, 3) := by decide +kernel
theorem dShow_put_49 : decode nShow_put.2.1 49 = .ok (.iload_n 1, 1) := by decide +kernel
theorem dShow_put_50 : decode nShow_put.2.1 50 = .ok (.bipush 30, 2) := by decide +kernel
theorem dShow_put_52 : decode nShow_put.2.1 52 = .ok (.imul, 1) := by decide +kernel
theorem dShow_put_53 : decode nShow_put.2.1 53 = .ok (.iload_n 2, 1) := by decide +kernel
theorem dShow_put_54 : decode nShow_put.2.1 54 = .ok (.iadd, 1) := by decide +kernel
theorem dShow_put_55 : decode nShow_put.2.1 55 = .ok (.iload_n 3, 1) := by decide +kernel
theorem dShow_put_56 : decode nShow_put.2.1 56 = .ok (.iastore, 1) := by decide +kernel
theorem dShow_put_57 : decode nShow_put.2.1 57 = .ok (.aload_n 0, 1) := by decide +kernel
theorem dShow_put_58 : decode nShow_put.2.1 58 = .ok (.getfield 22, 3) := by decide +kernel
theorem dShow_put_61 : decode nShow_put.2.1 61 = .ok (.iload_n 1, 1) := by decide +kernel
theorem dShow_put_62 : decode nShow_put.2.1 62 = .ok (.bipush 30, 2) := by decide +kernel
theorem dShow_put_64 : decode nShow_put.2.1 64 = .ok (.imul, 1) := by decide +kernel
theorem dShow_put_65 : decode nShow_put.2.1 65 = .ok (.iload_n 2, 1) := by decide +kernel
theorem dShow_put_66 : decode nShow_put.2.1 66 = .ok (.iadd, 1) := by decide +kernel
theorem dShow_put_67 : decode nShow_put.2.1 67 = .ok (.iload_n 3, 1) := by decide +kernel
theorem dShow_put_68 : decode nShow_put.2.1 68 = .ok (.ldc 31, 2) := by decide +kernel
theorem dShow_put_70 : decode nShow_put.2.1 70 = .ok (.if_icmp .ne 7, 3) := by decide +kernel
theorem dShow_put_73 : decode nShow_put.2.1 73 = .ok (.iconst 0, 1) := by decide +kernel
theorem dShow_put_74 : decode nShow_put.2.1 74 = .ok (.goto 5, 3) := by decide +kernel
theorem dShow_put_77 : decode nShow_put.2.1 77 = .ok (.iload 4, 2) := by decide +kernel
theorem dShow_put_79 : decode nShow_put.2.1 79 = .ok (.iastore, 1) := by decide +kernel
theorem dShow_put_80 : decode nShow_put.2.1 80 = .ok (.return_, 1) := by decide +kernel
theorem dShow_setLift_0 : decode nShow_setLift.2.1 0 = .ok (.iload_n 1, 1) := by decide +kernel
theorem dShow_setLift_1 : decode nShow_setLift.2.1 1 = .ok (.invokestatic 43, 3) := by decide +kernel
theorem dShow_setLift_4 : decode nShow_setLift.2.1 4 = .ok (.ifCond .eq 17, 3) := by decide +kernel
theorem dShow_setLift_7 : decode nShow_setLift.2.1 7 = .ok (.aload_n 0, 1) := by decide +kernel
theorem dShow_setLift_8 : decode nShow_setLift.2.1 8 = .ok (.getfield 25, 3) := by decide +kernel
theorem dShow_setLift_11 : decode nShow_setLift.2.1 11 = .ok (.iload_n 1, 1) := by decide +kernel
theorem dShow_setLift_12 : decode nShow_setLift.2.1 12 = .ok (.iload_n 2, 1) := by decide +kernel
theorem dShow_setLift_13 : decode nShow_setLift.2.1 13 = .ok (.iastore, 1) := by decide +kernel
theorem dShow_setLift_14 : decode nShow_setLift.2.1 14 = .ok (.aload_n 0, 1) := by decide +kernel
theorem dShow_setLift_15 : decode nShow_setLift.2.1 15 = .ok (.getfield 28, 3) := by decide +kernel
theorem dShow_setLift_18 : decode nShow_setLift.2.1 18 = .ok (.iload_n 1, 1) := by decide +kernel
theorem dShow_setLift_19 : decode nShow_setLift.2.1 19 = .ok (.iload_n 3, 1) := by decide +kernel
theorem dShow_setLift_20 : decode nShow_setLift.2.1 20 = .ok (.iastore, 1) := by decide +kernel
theorem dShow_setLift_21 : decode nShow_setLift.2.1 21 = .ok (.return_, 1) := by decide +kernel
theorem dShow_lifterIn_0 : decode nShow_lifterIn.2.1 0 = .ok (.iload_n 1, 1) := by decide +kernel
theorem dShow_lifterIn_1 : decode nShow_lifterIn.2.1 1 = .ok (.invokestatic 43, 3) := by decide +kernel
theorem dShow_lifterIn_4 : decode nShow_lifterIn.2.1 4 = .ok (.ifCond .eq 12, 3) := by decide +kernel
theorem dShow_lifterIn_7 : decode nShow_lifterIn.2.1 7 = .ok (.aload_n 0, 1) := by decide +kernel
theorem dShow_lifterIn_8 : decode nShow_lifterIn.2.1 8 = .ok (.getfield 25, 3) := by decide +kernel
theorem dShow_lifterIn_11 : decode nShow_lifterIn.2.1 11 = .ok (.iload_n 1, 1) := by decide +kernel
theorem dShow_lifterIn_12 : decode nShow_lifterIn.2.1 12 = .ok (.iaload, 1) := by decide +kernel
theorem dShow_lifterIn_13 : decode nShow_lifterIn.2.1 13 = .ok (.goto 5, 3) := by decide +kernel
theorem dShow_lifterIn_16 : decode nShow_lifterIn.2.1 16 = .ok (.ldc 31, 2) := by decide +kernel
theorem dShow_lifterIn_18 : decode nShow_lifterIn.2.1 18 = .ok (.ireturn, 1) := by decide +kernel
theorem dShow_liftedIn_0 : decode nShow_liftedIn.2.1 0 = .ok (.iload_n 1, 1) := by decide +kernel
theorem dShow_liftedIn_1 : decode nShow_liftedIn.2.1 1 = .ok (.invokestatic 43, 3) := by decide +kernel
theorem dShow_liftedIn_4 : decode nShow_liftedIn.2.1 4 = .ok (.ifCond .eq 12, 3) := by decide +kernel
theorem dShow_liftedIn_7 : decode nShow_liftedIn.2.1 7 = .ok (.aload_n 0, 1) := by decide +kernel
theorem dShow_liftedIn_8 : decode nShow_liftedIn.2.1 8 = .ok (.getfield 28, 3) := by decide +kernel
theorem dShow_liftedIn_11 : decode nShow_liftedIn.2.1 11 = .ok (.iload_n 1, 1) := by decide +kernel
theorem dShow_liftedIn_12 : decode nShow_liftedIn.2.1 12 = .ok (.iaload, 1) := by decide +kernel
theorem dShow_liftedIn_13 : decode nShow_liftedIn.2.1 13 = .ok (.goto 5, 3) := by decide +kernel
theorem dShow_liftedIn_16 : decode nShow_liftedIn.2.1 16 = .ok (.ldc 31, 2) := by decide +kernel
theorem dShow_liftedIn_18 : decode nShow_liftedIn.2.1 18 = .ok (.ireturn, 1) := by decide +kernel
theorem dShow_hasLift_0 : decode nShow_hasLift.2.1 0 = .ok (.aload_n 0, 1) := by decide +kernel
theorem dShow_hasLift_1 : decode nShow_hasLift.2.1 1 = .ok (.iload_n 1, 1) := by decide +kernel
theorem dShow_hasLift_2 : decode nShow_hasLift.2.1 2 = .ok (.invokevirtual 50, 3) := by decide +kernel
theorem dShow_hasLift_5 : decode nShow_hasLift.2.1 5 = .ok (.ldc 31, 2) := by decide +kernel
theorem dShow_hasLift_7 : decode nShow_hasLift.2.1 7 = .ok (.if_icmp .eq 7, 3) := by decide +kernel
theorem dShow_hasLift_10 : decode nShow_hasLift.2.1 10 = .ok (.iconst 1, 1) := by decide +kernel
theorem dShow_hasLift_11 : decode nShow_hasLift.2.1 11 = .ok (.goto 4, 3) := by decide +kernel
theorem dShow_hasLift_14 : decode nShow_hasLift.2.1 14 = .ok (.iconst 0, 1) := by decide +kernel
theorem dShow_hasLift_15 : decode nShow_hasLift.2.1 15 = .ok (.ireturn, 1) := by decide +kernel
theorem dShow_liftPartner_0 : decode nShow_liftPartner.2.1 0 = .ok (.aload_n 0, 1) := by decide +kernel
theorem dShow_liftPartner_1 : decode nShow_liftPartner.2.1 1 = .ok (.iload_n 2, 1) := by decide +kernel
theorem dShow_liftPartner_2 : decode nShow_liftPartner.2.1 2 = .ok (.invokevirtual 50, 3) := by decide +kernel
theorem dShow_liftPartner_5 : decode nShow_liftPartner.2.1 5 = .ok (.iload_n 1, 1) := by decide +kernel
theorem dShow_liftPartner_6 : decode nShow_liftPartner.2.1 6 = .ok (.if_icmp .ne 9, 3) := by decide +kernel
theorem dShow_liftPartner_9 : decode nShow_liftPartner.2.1 9 = .ok (.aload_n 0, 1) := by decide +kernel
theorem dShow_liftPartner_10 : decode nShow_liftPartner.2.1 10 = .ok (.iload_n 2, 1) := by decide +kernel
theorem dShow_liftPartner_11 : decode nShow_liftPartner.2.1 11 = .ok (.invokevirtual 54, 3) := by decide +kernel
theorem dShow_liftPartner_14 : decode nShow_liftPartner.2.1 14 = .ok (.ireturn, 1) := by decide +kernel
theorem dShow_liftPartner_15 : decode nShow_liftPartner.2.1 15 = .ok (.aload_n 0, 1) := by decide +kernel
theorem dShow_liftPartner_16 : decode nShow_liftPartner.2.1 16 = .ok (.iload_n 2, 1) := by decide +kernel
theorem dShow_liftPartner_17 : decode nShow_liftPartner.2.1 17 = .ok (.invokevirtual 54, 3) := by decide +kernel
theorem dShow_liftPartner_20 : decode nShow_liftPartner.2.1 20 = .ok (.iload_n 1, 1) := by decide +kernel
theorem dShow_liftPartner_21 : decode nShow_liftPartner.2.1 21 = .ok (.if_icmp .ne 11, 3) := by decide +kernel
theorem dShow_liftPartner_24 : decode nShow_liftPartner.2.1 24 = .ok (.aload_n 0, 1) := by decide +kernel
theorem dShow_liftPartner_25 : decode nShow_liftPartner.2.1 25 = .ok (.iload_n 2, 1) := by decide +kernel
theorem dShow_liftPartner_26 : decode nShow_liftPartner.2.1 26 = .ok (.invokevirtual 50, 3) := by decide +kernel
theorem dShow_liftPartner_29 : decode nShow_liftPartner.2.1 29 = .ok (.goto 5, 3) := by decide +kernel
theorem dShow_liftPartner_32 : decode nShow_liftPartner.2.1 32 = .ok (.ldc 31, 2) := by decide +kernel
theorem dShow_liftPartner_34 : decode nShow_liftPartner.2.1 34 = .ok (.ireturn, 1) := by decide +kernel
theorem dShow_countLifts_0 : decode nShow_countLifts.2.1 0 = .ok (.iconst 0, 1) := by decide +kernel
theorem dShow_countLifts_1 : decode nShow_countLifts.2.1 1 = .ok (.istore_n 1, 1) := by decide +kernel
theorem dShow_countLifts_2 : decode nShow_countLifts.2.1 2 = .ok (.iconst 0, 1) := by decide +kernel
theorem dShow_countLifts_3 : decode nShow_countLifts.2.1 3 = .ok (.istore_n 2, 1) := by decide +kernel
theorem dShow_countLifts_4 : decode nShow_countLifts.2.1 4 = .ok (.iload_n 2, 1) := by decide +kernel
theorem dShow_countLifts_5 : decode nShow_countLifts.2.1 5 = .ok (.bipush 30, 2) := by decide +kernel
theorem dShow_countLifts_7 : decode nShow_countLifts.2.1 7 = .ok (.if_icmp .ge 25, 3) := by decide +kernel
theorem dShow_countLifts_10 : decode nShow_countLifts.2.1 10 = .ok (.iload_n 1, 1) := by decide +kernel
theorem dShow_countLifts_11 : decode nShow_countLifts.2.1 11 = .ok (.aload_n 0, 1) := by decide +kernel
theorem dShow_countLifts_12 : decode nShow_countLifts.2.1 12 = .ok (.iload_n 2, 1) := by decide +kernel
theorem dShow_countLifts_13 : decode nShow_countLifts.2.1 13 = .ok (.invokevirtual 57, 3) := by decide +kernel
theorem dShow_countLifts_16 : decode nShow_countLifts.2.1 16 = .ok (.ifCond .eq 7, 3) := by decide +kernel
theorem dShow_countLifts_19 : decode nShow_countLifts.2.1 19 = .ok (.iconst 1, 1) := by decide +kernel
theorem dShow_countLifts_20 : decode nShow_countLifts.2.1 20 = .ok (.goto 4, 3) := by decide +kernel
theorem dShow_countLifts_23 : decode nShow_countLifts.2.1 23 = .ok (.iconst 0, 1) := by decide +kernel
theorem dShow_countLifts_24 : decode nShow_countLifts.2.1 24 = .ok (.iadd, 1) := by decide +kernel
theorem dShow_countLifts_25 : decode nShow_countLifts.2.1 25 = .ok (.istore_n 1, 1) := by decide +kernel
theorem dShow_countLifts_26 : decode nShow_countLifts.2.1 26 = .ok (.iinc 2 1, 3) := by decide +kernel
theorem dShow_countLifts_29 : decode nShow_countLifts.2.1 29 = .ok (.goto (-25), 3) := by decide +kernel
theorem dShow_countLifts_32 : decode nShow_countLifts.2.1 32 = .ok (.iload_n 1, 1) := by decide +kernel
theorem dShow_countLifts_33 : decode nShow_countLifts.2.1 33 = .ok (.ireturn, 1) := by decide +kernel
theorem dShow_countCues_0 : decode nShow_countCues.2.1 0 = .ok (.iconst 0, 1) := by decide +kernel
theorem dShow_countCues_1 : decode nShow_countCues.2.1 1 = .ok (.istore_n 2, 1) := by decide +kernel
theorem dShow_countCues_2 : decode nShow_countCues.2.1 2 = .ok (.iconst 0, 1) := by decide +kernel
theorem dShow_countCues_3 : decode nShow_countCues.2.1 3 = .ok (.istore_n 3, 1) := by decide +kernel
theorem dShow_countCues_4 : decode nShow_countCues.2.1 4 = .ok (.iload_n 3, 1) := by decide +kernel
theorem dShow_countCues_5 : decode nShow_countCues.2.1 5 = .ok (.bipush 30, 2) := by decide +kernel
theorem dShow_countCues_7 : decode nShow_countCues.2.1 7 = .ok (.if_icmp .ge 26, 3) := by decide +kernel
theorem dShow_countCues_10 : decode nShow_countCues.2.1 10 = .ok (.iload_n 2, 1) := by decide +kernel
theorem dShow_countCues_11 : decode nShow_countCues.2.1 11 = .ok (.aload_n 0, 1) := by decide +kernel
theorem dShow_countCues_12 : decode nShow_countCues.2.1 12 = .ok (.iload_n 1, 1) := by decide +kernel
theorem dShow_countCues_13 : decode nShow_countCues.2.1 13 = .ok (.iload_n 3, 1) := by decide +kernel
theorem dShow_countCues_14 : decode nShow_countCues.2.1 14 = .ok (.invokevirtual 60, 3) := by decide +kernel
end
section
theorem dShow_countCues_17 : decode nShow_countCues.2.1 17 = .ok (.ifCond .eq 7, 3) := by decide +kernel
theorem dShow_countCues_20 : decode nShow_countCues.2.1 20 = .ok (.iconst 1, 1) := by decide +kernel
theorem dShow_countCues_21 : decode nShow_countCues.2.1 21 = .ok (.goto 4, 3) := by decide +kernel
theorem dShow_countCues_24 : decode nShow_countCues.2.1 24 = .ok (.iconst 0, 1) := by decide +kernel
theorem dShow_countCues_25 : decode nShow_countCues.2.1 25 = .ok (.iadd, 1) := by decide +kernel
theorem dShow_countCues_26 : decode nShow_countCues.2.1 26 = .ok (.istore_n 2, 1) := by decide +kernel
theorem dShow_countCues_27 : decode nShow_countCues.2.1 27 = .ok (.iinc 3 1, 3) := by decide +kernel
theorem dShow_countCues_30 : decode nShow_countCues.2.1 30 = .ok (.goto (-26), 3) := by decide +kernel
theorem dShow_countCues_33 : decode nShow_countCues.2.1 33 = .ok (.iload_n 2, 1) := by decide +kernel
theorem dShow_countCues_34 : decode nShow_countCues.2.1 34 = .ok (.ireturn, 1) := by decide +kernel
theorem dShow_countMusts_0 : decode nShow_countMusts.2.1 0 = .ok (.iconst 0, 1) := by decide +kernel
theorem dShow_countMusts_1 : decode nShow_countMusts.2.1 1 = .ok (.istore_n 2, 1) := by decide +kernel
theorem dShow_countMusts_2 : decode nShow_countMusts.2.1 2 = .ok (.iconst 0, 1) := by decide +kernel
theorem dShow_countMusts_3 : decode nShow_countMusts.2.1 3 = .ok (.istore_n 3, 1) := by decide +kernel
theorem dShow_countMusts_4 : decode nShow_countMusts.2.1 4 = .ok (.iload_n 3, 1) := by decide +kernel
theorem dShow_countMusts_5 : decode nShow_countMusts.2.1 5 = .ok (.bipush 30, 2) := by decide +kernel
theorem dShow_countMusts_7 : decode nShow_countMusts.2.1 7 = .ok (.if_icmp .ge 18, 3) := by decide +kernel
theorem dShow_countMusts_10 : decode nShow_countMusts.2.1 10 = .ok (.iload_n 2, 1) := by decide +kernel
theorem dShow_countMusts_11 : decode nShow_countMusts.2.1 11 = .ok (.aload_n 0, 1) := by decide +kernel
theorem dShow_countMusts_12 : decode nShow_countMusts.2.1 12 = .ok (.iload_n 1, 1) := by decide +kernel
theorem dShow_countMusts_13 : decode nShow_countMusts.2.1 13 = .ok (.iload_n 3, 1) := by decide +kernel
theorem dShow_countMusts_14 : decode nShow_countMusts.2.1 14 = .ok (.invokevirtual 64, 3) := by decide +kernel
theorem dShow_countMusts_17 : decode nShow_countMusts.2.1 17 = .ok (.iadd, 1) := by decide +kernel
theorem dShow_countMusts_18 : decode nShow_countMusts.2.1 18 = .ok (.istore_n 2, 1) := by decide +kernel
theorem dShow_countMusts_19 : decode nShow_countMusts.2.1 19 = .ok (.iinc 3 1, 3) := by decide +kernel
theorem dShow_countMusts_22 : decode nShow_countMusts.2.1 22 = .ok (.goto (-18), 3) := by decide +kernel
theorem dShow_countMusts_25 : decode nShow_countMusts.2.1 25 = .ok (.iload_n 2, 1) := by decide +kernel
theorem dShow_countMusts_26 : decode nShow_countMusts.2.1 26 = .ok (.ireturn, 1) := by decide +kernel
theorem dShow_lastCue_0 : decode nShow_lastCue.2.1 0 = .ok (.iconst (-1), 1) := by decide +kernel
theorem dShow_lastCue_1 : decode nShow_lastCue.2.1 1 = .ok (.istore_n 2, 1) := by decide +kernel
theorem dShow_lastCue_2 : decode nShow_lastCue.2.1 2 = .ok (.iconst 0, 1) := by decide +kernel
theorem dShow_lastCue_3 : decode nShow_lastCue.2.1 3 = .ok (.istore_n 3, 1) := by decide +kernel
theorem dShow_lastCue_4 : decode nShow_lastCue.2.1 4 = .ok (.iload_n 3, 1) := by decide +kernel
theorem dShow_lastCue_5 : decode nShow_lastCue.2.1 5 = .ok (.bipush 30, 2) := by decide +kernel
theorem dShow_lastCue_7 : decode nShow_lastCue.2.1 7 = .ok (.if_icmp .ge 24, 3) := by decide +kernel
theorem dShow_lastCue_10 : decode nShow_lastCue.2.1 10 = .ok (.aload_n 0, 1) := by decide +kernel
theorem dShow_lastCue_11 : decode nShow_lastCue.2.1 11 = .ok (.iload_n 1, 1) := by decide +kernel
theorem dShow_lastCue_12 : decode nShow_lastCue.2.1 12 = .ok (.iload_n 3, 1) := by decide +kernel
theorem dShow_lastCue_13 : decode nShow_lastCue.2.1 13 = .ok (.invokevirtual 60, 3) := by decide +kernel
theorem dShow_lastCue_16 : decode nShow_lastCue.2.1 16 = .ok (.ifCond .eq 7, 3) := by decide +kernel
theorem dShow_lastCue_19 : decode nShow_lastCue.2.1 19 = .ok (.iload_n 3, 1) := by decide +kernel
theorem dShow_lastCue_20 : decode nShow_lastCue.2.1 20 = .ok (.goto 4, 3) := by decide +kernel
theorem dShow_lastCue_23 : decode nShow_lastCue.2.1 23 = .ok (.iload_n 2, 1) := by decide +kernel
theorem dShow_lastCue_24 : decode nShow_lastCue.2.1 24 = .ok (.istore_n 2, 1) := by decide +kernel
theorem dShow_lastCue_25 : decode nShow_lastCue.2.1 25 = .ok (.iinc 3 1, 3) := by decide +kernel
theorem dShow_lastCue_28 : decode nShow_lastCue.2.1 28 = .ok (.goto (-24), 3) := by decide +kernel
theorem dShow_lastCue_31 : decode nShow_lastCue.2.1 31 = .ok (.iload_n 2, 1) := by decide +kernel
theorem dShow_lastCue_32 : decode nShow_lastCue.2.1 32 = .ok (.ireturn, 1) := by decide +kernel
theorem dShow_canBeOnePersons_0 : decode nShow_canBeOnePersons.2.1 0 = .ok (.iconst 0, 1) := by decide +kernel
theorem dShow_canBeOnePersons_1 : decode nShow_canBeOnePersons.2.1 1 = .ok (.istore_n 3, 1) := by decide +kernel
theorem dShow_canBeOnePersons_2 : decode nShow_canBeOnePersons.2.1 2 = .ok (.iload_n 3, 1) := by decide +kernel
theorem dShow_canBeOnePersons_3 : decode nShow_canBeOnePersons.2.1 3 = .ok (.bipush 30, 2) := by decide +kernel
theorem dShow_canBeOnePersons_5 : decode nShow_canBeOnePersons.2.1 5 = .ok (.if_icmp .ge 51, 3) := by decide +kernel
theorem dShow_canBeOnePersons_8 : decode nShow_canBeOnePersons.2.1 8 = .ok (.aload_n 0, 1) := by decide +kernel
theorem dShow_canBeOnePersons_9 : decode nShow_canBeOnePersons.2.1 9 = .ok (.iload_n 1, 1) := by decide +kernel
theorem dShow_canBeOnePersons_10 : decode nShow_canBeOnePersons.2.1 10 = .ok (.iload_n 3, 1) := by decide +kernel
theorem dShow_canBeOnePersons_11 : decode nShow_canBeOnePersons.2.1 11 = .ok (.invokevirtual 60, 3) := by decide +kernel
theorem dShow_canBeOnePersons_14 : decode nShow_canBeOnePersons.2.1 14 = .ok (.ifCond .eq 14, 3) := by decide +kernel
theorem dShow_canBeOnePersons_17 : decode nShow_canBeOnePersons.2.1 17 = .ok (.aload_n 0, 1) := by decide +kernel
theorem dShow_canBeOnePersons_18 : decode nShow_canBeOnePersons.2.1 18 = .ok (.iload_n 2, 1) := by decide +kernel
theorem dShow_canBeOnePersons_19 : decode nShow_canBeOnePersons.2.1 19 = .ok (.iload_n 3, 1) := by decide +kernel
theorem dShow_canBeOnePersons_20 : decode nShow_canBeOnePersons.2.1 20 = .ok (.invokevirtual 60, 3) := by decide +kernel
theorem dShow_canBeOnePersons_23 : decode nShow_canBeOnePersons.2.1 23 = .ok (.ifCond .eq 5, 3) := by decide +kernel
theorem dShow_canBeOnePersons_26 : decode nShow_canBeOnePersons.2.1 26 = .ok (.iconst 0, 1) := by decide +kernel
theorem dShow_canBeOnePersons_27 : decode nShow_canBeOnePersons.2.1 27 = .ok (.ireturn, 1) := by decide +kernel
theorem dShow_canBeOnePersons_28 : decode nShow_canBeOnePersons.2.1 28 = .ok (.aload_n 0, 1) := by decide +kernel
theorem dShow_canBeOnePersons_29 : decode nShow_canBeOnePersons.2.1 29 = .ok (.iload_n 1, 1) := by decide +kernel
theorem dShow_canBeOnePersons_30 : decode nShow_canBeOnePersons.2.1 30 = .ok (.iload_n 2, 1) := by decide +kernel
theorem dShow_canBeOnePersons_31 : decode nShow_canBeOnePersons.2.1 31 = .ok (.iload_n 3, 1) := by decide +kernel
theorem dShow_canBeOnePersons_32 : decode nShow_canBeOnePersons.2.1 32 = .ok (.invokevirtual 68, 3) := by decide +kernel
theorem dShow_canBeOnePersons_35 : decode nShow_canBeOnePersons.2.1 35 = .ok (.ifCond .ne 13, 3) := by decide +kernel
theorem dShow_canBeOnePersons_38 : decode nShow_canBeOnePersons.2.1 38 = .ok (.aload_n 0, 1) := by decide +kernel
theorem dShow_canBeOnePersons_39 : decode nShow_canBeOnePersons.2.1 39 = .ok (.iload_n 2, 1) := by decide +kernel
theorem dShow_canBeOnePersons_40 : decode nShow_canBeOnePersons.2.1 40 = .ok (.iload_n 1, 1) := by decide +kernel
theorem dShow_canBeOnePersons_41 : decode nShow_canBeOnePersons.2.1 41 = .ok (.iload_n 3, 1) := by decide +kernel
theorem dShow_canBeOnePersons_42 : decode nShow_canBeOnePersons.2.1 42 = .ok (.invokevirtual 68, 3) := by decide +kernel
theorem dShow_canBeOnePersons_45 : decode nShow_canBeOnePersons.2.1 45 = .ok (.ifCond .eq 5, 3) := by decide +kernel
theorem dShow_canBeOnePersons_48 : decode nShow_canBeOnePersons.2.1 48 = .ok (.iconst 0, 1) := by decide +kernel
theorem dShow_canBeOnePersons_49 : decode nShow_canBeOnePersons.2.1 49 = .ok (.ireturn, 1) := by decide +kernel
theorem dShow_canBeOnePersons_50 : decode nShow_canBeOnePersons.2.1 50 = .ok (.iinc 3 1, 3) := by decide +kernel
theorem dShow_canBeOnePersons_53 : decode nShow_canBeOnePersons.2.1 53 = .ok (.goto (-51), 3) := by decide +kernel
theorem dShow_canBeOnePersons_56 : decode nShow_canBeOnePersons.2.1 56 = .ok (.iconst 1, 1) := by decide +kernel
theorem dShow_canBeOnePersons_57 : decode nShow_canBeOnePersons.2.1 57 = .ok (.ireturn, 1) := by decide +kernel
theorem dShow_isFarStep_0 : decode nShow_isFarStep.2.1 0 = .ok (.aload_n 0, 1) := by decide +kernel
theorem dShow_isFarStep_1 : decode nShow_isFarStep.2.1 1 = .ok (.iload_n 1, 1) := by decide +kernel
theorem dShow_isFarStep_2 : decode nShow_isFarStep.2.1 2 = .ok (.iload_n 3, 1) := by decide +kernel
theorem dShow_isFarStep_3 : decode nShow_isFarStep.2.1 3 = .ok (.invokevirtual 60, 3) := by decide +kernel
theorem dShow_isFarStep_6 : decode nShow_isFarStep.2.1 6 = .ok (.ifCond .eq 40, 3) := by decide +kernel
theorem dShow_isFarStep_9 : decode nShow_isFarStep.2.1 9 = .ok (.aload_n 0, 1) := by decide +kernel
theorem dShow_isFarStep_10 : decode nShow_isFarStep.2.1 10 = .ok (.iload_n 2, 1) := by decide +kernel
theorem dShow_isFarStep_11 : decode nShow_isFarStep.2.1 11 = .ok (.iload_n 3, 1) := by decide +kernel
theorem dShow_isFarStep_12 : decode nShow_isFarStep.2.1 12 = .ok (.iconst 1, 1) := by decide +kernel
theorem dShow_isFarStep_13 : decode nShow_isFarStep.2.1 13 = .ok (.iadd, 1) := by decide +kernel
theorem dShow_isFarStep_14 : decode nShow_isFarStep.2.1 14 = .ok (.invokevirtual 60, 3) := by decide +kernel
theorem dShow_isFarStep_17 : decode nShow_isFarStep.2.1 17 = .ok (.ifCond .eq 29, 3) := by decide +kernel
theorem dShow_isFarStep_20 : decode nShow_isFarStep.2.1 20 = .ok (.aload_n 0, 1) := by decide +kernel
theorem dShow_isFarStep_21 : decode nShow_isFarStep.2.1 21 = .ok (.iload_n 1, 1) := by decide +kernel
theorem dShow_isFarStep_22 : decode nShow_isFarStep.2.1 22 = .ok (.iload_n 3, 1) := by decide +kernel
theorem dShow_isFarStep_23 : decode nShow_isFarStep.2.1 23 = .ok (.invokevirtual 72, 3) := by decide +kernel
theorem dShow_isFarStep_26 : decode nShow_isFarStep.2.1 26 = .ok (.aload_n 0, 1) := by decide +kernel
theorem dShow_isFarStep_27 : decode nShow_isFarStep.2.1 27 = .ok (.iload_n 2, 1) := by decide +kernel
theorem dShow_isFarStep_28 : decode nShow_isFarStep.2.1 28 = .ok (.iload_n 3, 1) := by decide +kernel
theorem dShow_isFarStep_29 : decode nShow_isFarStep.2.1 29 = .ok (.iconst 1, 1) := by decide +kernel
theorem dShow_isFarStep_30 : decode nShow_isFarStep.2.1 30 = .ok (.iadd, 1) := by decide +kernel
theorem dShow_isFarStep_31 : decode nShow_isFarStep.2.1 31 = .ok (.invokevirtual 72, 3) := by decide +kernel
theorem dShow_isFarStep_34 : decode nShow_isFarStep.2.1 34 = .ok (.isub, 1) := by decide +kernel
theorem dShow_isFarStep_35 : decode nShow_isFarStep.2.1 35 = .ok (.invokestatic 75, 3) := by decide +kernel
theorem dShow_isFarStep_38 : decode nShow_isFarStep.2.1 38 = .ok (.iconst 5, 1) := by decide +kernel
theorem dShow_isFarStep_39 : decode nShow_isFarStep.2.1 39 = .ok (.if_icmp .le 7, 3) := by decide +kernel
theorem dShow_isFarStep_42 : decode nShow_isFarStep.2.1 42 = .ok (.iconst 1, 1) := by decide +kernel
theorem dShow_isFarStep_43 : decode nShow_isFarStep.2.1 43 = .ok (.goto 4, 3) := by decide +kernel
theorem dShow_isFarStep_46 : decode nShow_isFarStep.2.1 46 = .ok (.iconst 0, 1) := by decide +kernel
theorem dShow_isFarStep_47 : decode nShow_isFarStep.2.1 47 = .ok (.ireturn, 1) := by decide +kernel
theorem dShow_canBeFoes_0 : decode nShow_canBeFoes.2.1 0 = .ok (.iconst 0, 1) := by decide +kernel
theorem dShow_canBeFoes_1 : decode nShow_canBeFoes.2.1 1 = .ok (.istore_n 3, 1) := by decide +kernel
theorem dShow_canBeFoes_2 : decode nShow_canBeFoes.2.1 2 = .ok (.iload_n 3, 1) := by decide +kernel
theorem dShow_canBeFoes_3 : decode nShow_canBeFoes.2.1 3 = .ok (.bipush 30, 2) := by decide +kernel
theorem dShow_canBeFoes_5 : decode nShow_canBeFoes.2.1 5 = .ok (.if_icmp .ge 49, 3) := by decide +kernel
theorem dShow_canBeFoes_8 : decode nShow_canBeFoes.2.1 8 = .ok (.aload_n 0, 1) := by decide +kernel
theorem dShow_canBeFoes_9 : decode nShow_canBeFoes.2.1 9 = .ok (.iload_n 1, 1) := by decide +kernel
theorem dShow_canBeFoes_10 : decode nShow_canBeFoes.2.1 10 = .ok (.iload_n 3, 1) := by decide +kernel
theorem dShow_canBeFoes_11 : decode nShow_canBeFoes.2.1 11 = .ok (.invokevirtual 60, 3) := by decide +kernel
theorem dShow_canBeFoes_14 : decode nShow_canBeFoes.2.1 14 = .ok (.ifCond .eq 34, 3) := by decide +kernel
theorem dShow_canBeFoes_17 : decode nShow_canBeFoes.2.1 17 = .ok (.aload_n 0, 1) := by decide +kernel
theorem dShow_canBeFoes_18 : decode nShow_canBeFoes.2.1 18 = .ok (.iload_n 2, 1) := by decide +kernel
theorem dShow_canBeFoes_19 : decode nShow_canBeFoes.2.1 19 = .ok (.iload_n 3, 1) := by decide +kernel
theorem dShow_canBeFoes_20 : decode nShow_canBeFoes.2.1 20 = .ok (.invokevirtual 60, 3) := by decide +kernel
theorem dShow_canBeFoes_23 : decode nShow_canBeFoes.2.1 23 = .ok (.ifCond .eq 25, 3) := by decide +kernel
theorem dShow_canBeFoes_26 : decode nShow_canBeFoes.2.1 26 = .ok (.aload_n 0, 1) := by decide +kernel
theorem dShow_canBeFoes_27 : decode nShow_canBeFoes.2.1 27 = .ok (.iload_n 1, 1) := by decide +kernel
theorem dShow_canBeFoes_28 : decode nShow_canBeFoes.2.1 28 = .ok (.iload_n 3, 1) := by decide +kernel
theorem dShow_canBeFoes_29 : decode nShow_canBeFoes.2.1 29 = .ok (.invokevirtual 72, 3) := by decide +kernel
theorem dShow_canBeFoes_32 : decode nShow_canBeFoes.2.1 32 = .ok (.aload_n 0, 1) := by decide +kernel
theorem dShow_canBeFoes_33 : decode nShow_canBeFoes.2.1 33 = .ok (.iload_n 2, 1) := by decide +kernel
theorem dShow_canBeFoes_34 : decode nShow_canBeFoes.2.1 34 = .ok (.iload_n 3, 1) := by decide +kernel
theorem dShow_canBeFoes_35 : decode nShow_canBeFoes.2.1 35 = .ok (.invokevirtual 72, 3) := by decide +kernel
theorem dShow_canBeFoes_38 : decode nShow_canBeFoes.2.1 38 = .ok (.isub, 1) := by decide +kernel
theorem dShow_canBeFoes_39 : decode nShow_canBeFoes.2.1 39 = .ok (.invokestatic 75, 3) := by decide +kernel
theorem dShow_canBeFoes_42 : decode nShow_canBeFoes.2.1 42 = .ok (.iconst 2, 1) := by decide +kernel
theorem dShow_canBeFoes_43 : decode nShow_canBeFoes.2.1 43 = .ok (.if_icmp .ge 5, 3) := by decide +kernel
theorem dShow_canBeFoes_46 : decode nShow_canBeFoes.2.1 46 = .ok (.iconst 0, 1) := by decide +kernel
theorem dShow_canBeFoes_47 : decode nShow_canBeFoes.2.1 47 = .ok (.ireturn, 1) := by decide +kernel
theorem dShow_canBeFoes_48 : decode nShow_canBeFoes.2.1 48 = .ok (.iinc 3 1, 3) := by decide +kernel
theorem dShow_canBeFoes_51 : decode nShow_canBeFoes.2.1 51 = .ok (.goto (-49), 3) := by decide +kernel
theorem dShow_canBeFoes_54 : decode nShow_canBeFoes.2.1 54 = .ok (.iconst 1, 1) := by decide +kernel
theorem dShow_canBeFoes_55 : decode nShow_canBeFoes.2.1 55 = .ok (.ireturn, 1) := by decide +kernel
theorem dDesk_init_0 : decode nDesk_init.2.1 0 = .ok (.aload_n 0, 1) := by decide +kernel
theorem dDesk_init_1 : decode nDesk_init.2.1 1 = .ok (.invokespecial 1, 3) := by decide +kernel
theorem dDesk_init_4 : decode nDesk_init.2.1 4 = .ok (.aload_n 0, 1) := by decide +kernel
theorem dDesk_init_5 : decode nDesk_init.2.1 5 = .ok (.new 7, 3) := by decide +kernel
theorem dDesk_init_8 : decode nDesk_init.2.1 8 = .ok (.dup, 1) := by decide +kernel
theorem dDesk_init_9 : decode nDesk_init.2.1 9 = .ok (.invokespecial 9, 3) := by decide +kernel
theorem dDesk_init_12 : decode nDesk_init.2.1 12 = .ok (.putfield 10, 3) := by decide +kernel
theorem dDesk_init_15 : decode nDesk_init.2.1 15 = .ok (.aload_n 0, 1) := by decide +kernel
theorem dDesk_init_16 : decode nDesk_init.2.1 16 = .ok (.new 16, 3) := by decide +kernel
theorem dDesk_init_19 : decode nDesk_init.2.1 19 = .ok (.dup, 1) := by decide +kernel
theorem dDesk_init_20 : decode nDesk_init.2.1 20 = .ok (.invokespecial 18, 3) := by decide +kernel
theorem dDesk_init_23 : decode nDesk_init.2.1 23 = .ok (.putfield 19, 3) := by decide +kernel
theorem dDesk_init_26 : decode nDesk_init.2.1 26 = .ok (.aload_n 0, 1) := by decide +kernel
theorem dDesk_init_27 : decode nDesk_init.2.1 27 = .ok (.new 23, 3) := by decide +kernel
theorem dDesk_init_30 : decode nDesk_init.2.1 30 = .ok (.dup, 1) := by decide +kernel
theorem dDesk_init_31 : decode nDesk_init.2.1 31 = .ok (.aload_n 0, 1) := by decide +kernel
theorem dDesk_init_32 : decode nDesk_init.2.1 32 = .ok (.getfield 10, 3) := by decide +kernel
theorem dDesk_init_35 : decode nDesk_init.2.1 35 = .ok (.aload_n 0, 1) := by decide +kernel
theorem dDesk_init_36 : decode nDesk_init.2.1 36 = .ok (.getfield 19, 3) := by decide +kernel
theorem dDesk_init_39 : decode nDesk_init.2.1 39 = .ok (.invokespecial 25, 3) := by decide +kernel
theorem dDesk_init_42 : decode nDesk_init.2.1 42 = .ok (.putfield 28, 3) := by decide +kernel
theorem dDesk_init_45 : decode nDesk_init.2.1 45 = .ok (.aload_n 0, 1) := by decide +kernel
theorem dDesk_init_46 : decode nDesk_init.2.1 46 = .ok (.new 32, 3) := by decide +kernel
theorem dDesk_init_49 : decode nDesk_init.2.1 49 = .ok (.dup, 1) := by decide +kernel
theorem dDesk_init_50 : decode nDesk_init.2.1 50 = .ok (.aload_n 0, 1) := by decide +kernel
theorem dDesk_init_51 : decode nDesk_init.2.1 51 = .ok (.getfield 10, 3) := by decide +kernel
theorem dDesk_init_54 : decode nDesk_init.2.1 54 = .ok (.aload_n 0, 1) := by decide +kernel
theorem dDesk_init_55 : decode nDesk_init.2.1 55 = .ok (.getfield 19, 3) := by decide +kernel
theorem dDesk_init_58 : decode nDesk_init.2.1 58 = .ok (.invokespecial 34, 3) := by decide +kernel
theorem dDesk_init_61 : decode nDesk_init.2.1 61 = .ok (.putfield 35, 3) := by decide +kernel
theorem dDesk_init_64 : decode nDesk_init.2.1 64 = .ok (.aload_n 0, 1) := by decide +kernel
theorem dDesk_init_65 : decode nDesk_init.2.1 65 = .ok (.new 39, 3) := by decide +kernel
theorem dDesk_init_68 : decode nDesk_init.2.1 68 = .ok (.dup, 1) := by decide +kernel
theorem dDesk_init_69 : decode nDesk_init.2.1 69 = .ok (.aload_n 0, 1) := by decide +kernel
theorem dDesk_init_70 : decode nDesk_init.2.1 70 = .ok (.getfield 10, 3) := by decide +kernel
theorem dDesk_init_73 : decode nDesk_init.2.1 73 = .ok (.aload_n 0, 1) := by decide +kernel
theorem dDesk_init_74 : decode nDesk_init.2.1 74 = .ok (.getfield 19, 3) := by decide +kernel
theorem dDesk_init_77 : decode nDesk_init.2.1 77 = .ok (.invokespecial 41, 3) := by decide +kernel
theorem dDesk_init_80 : decode nDesk_init.2.1 80 = .ok (.putfield 42, 3) := by decide +kernel
theorem dDesk_init_83 : decode nDesk_init.2.1 83 = .ok (.aload_n 0, 1) := by decide +kernel
theorem dDesk_init_84 : decode nDesk_init.2.1 84 = .ok (.iconst 2, 1) := by decide +kernel
theorem dDesk_init_85 : decode nDesk_init.2.1 85 = .ok (.anewarray 46, 3) := by decide +kernel
theorem dDesk_init_88 : decode nDesk_init.2.1 88 = .ok (.putfield 48, 3) := by decide +kernel
theorem dDesk_init_91 : decode nDesk_init.2.1 91 = .ok (.iconst 0, 1) := by decide +kernel
theorem dDesk_init_92 : decode nDesk_init.2.1 92 = .ok (.istore_n 1, 1) := by decide +kernel
theorem dDesk_init_93 : decode nDesk_init.2.1 93 = .ok (.iload_n 1, 1) := by decide +kernel
theorem dDesk_init_94 : decode nDesk_init.2.1 94 = .ok (.iconst 2, 1) := by decide +kernel
theorem dDesk_init_95 : decode nDesk_init.2.1 95 = .ok (.if_icmp .ge 22, 3) := by decide +kernel
theorem dDesk_init_98 : decode nDesk_init.2.1 98 = .ok (.aload_n 0, 1) := by decide +kernel
theorem dDesk_init_99 : decode nDesk_init.2.1 99 = .ok (.getfield 48, 3) := by decide +kernel
theorem dDesk_init_102 : decode nDesk_init.2.1 102 = .ok (.iload_n 1, 1) := by decide +kernel
theorem dDesk_init_103 : decode nDesk_init.2.1 103 = .ok (.new 46, 3) := by decide +kernel
theorem dDesk_init_106 : decode nDesk_init.2.1 106 = .ok (.dup, 1) := by decide +kernel
theorem dDesk_init_107 : decode nDesk_init.2.1 107 = .ok (.invokespecial 52, 3) := by decide +kernel
theorem dDesk_init_110 : decode nDesk_init.2.1 110 = .ok (.aastore, 1) := by decide +kernel
theorem dDesk_init_111 : decode nDesk_init.2.1 111 = .ok (.iinc 1 1, 3) := by decide +kernel
theorem dDesk_init_114 : decode nDesk_init.2.1 114 = .ok (.goto (-21), 3) := by decide +kernel
theorem dDesk_init_117 : decode nDesk_init.2.1 117 = .ok (.return_, 1) := by decide +kernel
theorem dDesk_track_0 : decode nDesk_track.2.1 0 = .ok (.iload_n 1, 1) := by decide +kernel
theorem dDesk_track_1 : decode nDesk_track.2.1 1 = .ok (.iconst 1, 1) := by decide +kernel
theorem dDesk_track_2 : decode nDesk_track.2.1 2 = .ok (.bipush 9, 2) := by decide +kernel
theorem dDesk_track_4 : decode nDesk_track.2.1 4 = .ok (.invokestatic 53, 3) := by decide +kernel
theorem dDesk_track_7 : decode nDesk_track.2.1 7 = .ok (.ifCond .eq 14, 3) := by decide +kernel
theorem dDesk_track_10 : decode nDesk_track.2.1 10 = .ok (.aload_n 0, 1) := by decide +kernel
theorem dDesk_track_11 : decode nDesk_track.2.1 11 = .ok (.getfield 10, 3) := by decide +kernel
theorem dDesk_track_14 : decode nDesk_track.2.1 14 = .ok (.iload_n 1, 1) := by decide +kernel
theorem dDesk_track_15 : decode nDesk_track.2.1 15 = .ok (.invokevirtual 57, 3) := by decide +kernel
theorem dDesk_track_18 : decode nDesk_track.2.1 18 = .ok (.goto 5, 3) := by decide +kernel
theorem dDesk_track_21 : decode nDesk_track.2.1 21 = .ok (.ldc 61, 2) := by decide +kernel
theorem dDesk_track_23 : decode nDesk_track.2.1 23 = .ok (.ireturn, 1) := by decide +kernel
theorem dDesk_in_0 : decode nDesk_in.2.1 0 = .ok (.iload_n 3, 1) := by decide +kernel
theorem dDesk_in_1 : decode nDesk_in.2.1 1 = .ok (.ldc 62, 2) := by decide +kernel
theorem dDesk_in_3 : decode nDesk_in.2.1 3 = .ok (.if_icmp .eq 13, 3) := by decide +kernel
theorem dDesk_in_6 : decode nDesk_in.2.1 6 = .ok (.iload_n 3, 1) := by decide +kernel
theorem dDesk_in_7 : decode nDesk_in.2.1 7 = .ok (.iconst 0, 1) := by decide +kernel
theorem dDesk_in_8 : decode nDesk_in.2.1 8 = .ok (.bipush 9, 2) := by decide +kernel
theorem dDesk_in_10 : decode nDesk_in.2.1 10 = .ok (.invokestatic 53, 3) := by decide +kernel
theorem dDesk_in_13 : decode nDesk_in.2.1 13 = .ok (.ifCond .eq 7, 3) := by decide +kernel
theorem dDesk_in_16 : decode nDesk_in.2.1 16 = .ok (.iconst 1, 1) := by decide +kernel
theorem dDesk_in_17 : decode nDesk_in.2.1 17 = .ok (.goto 4, 3) := by decide +kernel
theorem dDesk_in_20 : decode nDesk_in.2.1 20 = .ok (.iconst 0, 1) := by decide +kernel
theorem dDesk_in_21 : decode nDesk_in.2.1 21 = .ok (.istore 5, 2) := by decide +kernel
theorem dDesk_in_23 : decode nDesk_in.2.1 23 = .ok (.aload_n 0, 1) := by decide +kernel
theorem dDesk_in_24 : decode nDesk_in.2.1 24 = .ok (.getfield 10, 3) := by decide +kernel
theorem dDesk_in_27 : decode nDesk_in.2.1 27 = .ok (.iload_n 1, 1) := by decide +kernel
theorem dDesk_in_28 : decode nDesk_in.2.1 28 = .ok (.invokevirtual 63, 3) := by decide +kernel
theorem dDesk_in_31 : decode nDesk_in.2.1 31 = .ok (.ifCond .eq 23, 3) := by decide +kernel
theorem dDesk_in_34 : decode nDesk_in.2.1 34 = .ok (.iload_n 2, 1) := by decide +kernel
theorem dDesk_in_35 : decode nDesk_in.2.1 35 = .ok (.invokestatic 67, 3) := by decide +kernel
theorem dDesk_in_38 : decode nDesk_in.2.1 38 = .ok (.ifCond .eq 16, 3) := by decide +kernel
theorem dDesk_in_41 : decode nDesk_in.2.1 41 = .ok (.iload 5, 2) := by decide +kernel
theorem dDesk_in_43 : decode nDesk_in.2.1 43 = .ok (.ifCond .eq 11, 3) := by decide +kernel
theorem dDesk_in_46 : decode nDesk_in.2.1 46 = .ok (.iload 4, 2) := by decide +kernel
theorem dDesk_in_48 : decode nDesk_in.2.1 48 = .ok (.invokestatic 70, 3) := by decide +kernel
theorem dDesk_in_51 : decode nDesk_in.2.1 51 = .ok (.ifCond .ne 6, 3) := by decide +kernel
theorem dDesk_in_54 : decode nDesk_in.2.1 54 = .ok (.ldc 61, 2) := by decide +kernel
theorem dDesk_in_56 : decode nDesk_in.2.1 56 = .ok (.ireturn, 1) := by decide +kernel
theorem dDesk_in_57 : decode nDesk_in.2.1 57 = .ok (.aload_n 0, 1) := by decide +kernel
theorem dDesk_in_58 : decode nDesk_in.2.1 58 = .ok (.getfield 10, 3) := by decide +kernel
theorem dDesk_in_61 : decode nDesk_in.2.1 61 = .ok (.iload_n 1, 1) := by decide +kernel
theorem dDesk_in_62 : decode nDesk_in.2.1 62 = .ok (.iload_n 2, 1) := by decide +kernel
theorem dDesk_in_63 : decode nDesk_in.2.1 63 = .ok (.invokevirtual 73, 3) := by decide +kernel
theorem dDesk_in_66 : decode nDesk_in.2.1 66 = .ok (.istore 6, 2) := by decide +kernel
theorem dDesk_in_68 : decode nDesk_in.2.1 68 = .ok (.aload_n 0, 1) := by decide +kernel
theorem dDesk_in_69 : decode nDesk_in.2.1 69 = .ok (.getfield 10, 3) := by decide +kernel
theorem dDesk_in_72 : decode nDesk_in.2.1 72 = .ok (.iload_n 1, 1) := by decide +kernel
theorem dDesk_in_73 : decode nDesk_in.2.1 73 = .ok (.iload_n 2, 1) := by decide +kernel
theorem dDesk_in_74 : decode nDesk_in.2.1 74 = .ok (.iload_n 3, 1) := by decide +kernel
theorem dDesk_in_75 : decode nDesk_in.2.1 75 = .ok (.iload 4, 2) := by decide +kernel
theorem dDesk_in_77 : decode nDesk_in.2.1 77 = .ok (.invokevirtual 77, 3) := by decide +kernel
theorem dDesk_in_80 : decode nDesk_in.2.1 80 = .ok (.iload 6, 2) := by decide +kernel
theorem dDesk_in_82 : decode nDesk_in.2.1 82 = .ok (.ireturn, 1) := by decide +kernel
theorem dDesk_lift_0 : decode nDesk_lift.2.1 0 = .ok (.iload_n 1, 1) := by decide +kernel
theorem dDesk_lift_1 : decode nDesk_lift.2.1 1 = .ok (.invokestatic 67, 3) := by decide +kernel
theorem dDesk_lift_4 : decode nDesk_lift.2.1 4 = .ok (.ifCond .ne 6, 3) := by decide +kernel
theorem dDesk_lift_7 : decode nDesk_lift.2.1 7 = .ok (.ldc 61, 2) := by decide +kernel
theorem dDesk_lift_9 : decode nDesk_lift.2.1 9 = .ok (.ireturn, 1) := by decide +kernel
theorem dDesk_lift_10 : decode nDesk_lift.2.1 10 = .ok (.aload_n 0, 1) := by decide +kernel
theorem dDesk_lift_11 : decode nDesk_lift.2.1 11 = .ok (.getfield 10, 3) := by decide +kernel
theorem dDesk_lift_14 : decode nDesk_lift.2.1 14 = .ok (.iload_n 1, 1) := by decide +kernel
theorem dDesk_lift_15 : decode nDesk_lift.2.1 15 = .ok (.invokevirtual 81, 3) := by decide +kernel
theorem dDesk_lift_18 : decode nDesk_lift.2.1 18 = .ok (.ifCond .eq 7, 3) := by decide +kernel
theorem dDesk_lift_21 : decode nDesk_lift.2.1 21 = .ok (.iconst 1, 1) := by decide +kernel
theorem dDesk_lift_22 : decode nDesk_lift.2.1 22 = .ok (.goto 4, 3) := by decide +kernel
theorem dDesk_lift_25 : decode nDesk_lift.2.1 25 = .ok (.iconst 0, 1) := by decide +kernel
theorem dDesk_lift_26 : decode nDesk_lift.2.1 26 = .ok (.istore 4, 2) := by decide +kernel
theorem dDesk_lift_28 : decode nDesk_lift.2.1 28 = .ok (.iload_n 2, 1) := by decide +kernel
theorem dDesk_lift_29 : decode nDesk_lift.2.1 29 = .ok (.ldc 62, 2) := by decide +kernel
theorem dDesk_lift_31 : decode nDesk_lift.2.1 31 = .ok (.if_icmp .ne 18, 3) := by decide +kernel
theorem dDesk_lift_34 : decode nDesk_lift.2.1 34 = .ok (.aload_n 0, 1) := by decide +kernel
theorem dDesk_lift_35 : decode nDesk_lift.2.1 35 = .ok (.getfield 10, 3) := by decide +kernel
theorem dDesk_lift_38 : decode nDesk_lift.2.1 38 = .ok (.iload_n 1, 1) := by decide +kernel
theorem dDesk_lift_39 : decode nDesk_lift.2.1 39 = .ok (.ldc 62, 2) := by decide +kernel
theorem dDesk_lift_41 : decode nDesk_lift.2.1 41 = .ok (.ldc 62, 2) := by decide +kernel
theorem dDesk_lift_43 : decode nDesk_lift.2.1 43 = .ok (.invokevirtual 84, 3) := by decide +kernel
theorem dDesk_lift_46 : decode nDesk_lift.2.1 46 = .ok (.iload 4, 2) := by decide +kernel
theorem dDesk_lift_48 : decode nDesk_lift.2.1 48 = .ok (.ireturn, 1) := by decide +kernel
theorem dDesk_lift_49 : decode nDesk_lift.2.1 49 = .ok (.aload_n 0, 1) := by decide +kernel
theorem dDesk_lift_50 : decode nDesk_lift.2.1 50 = .ok (.getfield 10, 3) := by decide +kernel
theorem dDesk_lift_53 : decode nDesk_lift.2.1 53 = .ok (.iload_n 2, 1) := by decide +kernel
theorem dDesk_lift_54 : decode nDesk_lift.2.1 54 = .ok (.invokevirtual 63, 3) := by decide +kernel
theorem dDesk_lift_57 : decode nDesk_lift.2.1 57 = .ok (.ifCond .eq 19, 3) := by decide +kernel
theorem dDesk_lift_60 : decode nDesk_lift.2.1 60 = .ok (.aload_n 0, 1) := by decide +kernel
theorem dDesk_lift_61 : decode nDesk_lift.2.1 61 = .ok (.getfield 10, 3) := by decide +kernel
theorem dDesk_lift_64 : decode nDesk_lift.2.1 64 = .ok (.iload_n 3, 1) := by decide +kernel
theorem dDesk_lift_65 : decode nDesk_lift.2.1 65 = .ok (.invokevirtual 63, 3) := by decide +kernel
theorem dDesk_lift_68 : decode nDesk_lift.2.1 68 = .ok (.ifCond .eq 8, 3) := by decide +kernel
theorem dDesk_lift_71 : decode nDesk_lift.2.1 71 = .ok (.iload_n 2, 1) := by decide +kernel
theorem dDesk_lift_72 : decode nDesk_lift.2.1 72 = .ok (.iload_n 3, 1) := by decide +kernel
theorem dDesk_lift_73 : decode nDesk_lift.2.1 73 = .ok (.if_icmp .ne 6, 3) := by decide +kernel
theorem dDesk_lift_76 : decode nDesk_lift.2.1 76 = .ok (.ldc 61, 2) := by decide +kernel
theorem dDesk_lift_78 : decode nDesk_lift.2.1 78 = .ok (.ireturn, 1) := by decide +kernel
theorem dDesk_lift_79 : decode nDesk_lift.2.1 79 = .ok (.aload_n 0, 1) := by decide +kernel
theorem dDesk_lift_80 : decode nDesk_lift.2.1 80 = .ok (.getfield 10, 3) := by decide +kernel
theorem dDesk_lift_83 : decode nDesk_lift.2.1 83 = .ok (.iload_n 2, 1) := by decide +kernel
theorem dDesk_lift_84 : decode nDesk_lift.2.1 84 = .ok (.iload_n 1, 1) := by decide +kernel
theorem dDesk_lift_85 : decode nDesk_lift.2.1 85 = .ok (.invokevirtual 88, 3) := by decide +kernel
theorem dDesk_lift_88 : decode nDesk_lift.2.1 88 = .ok (.ifCond .eq 15, 3) := by decide +kernel
theorem dDesk_lift_91 : decode nDesk_lift.2.1 91 = .ok (.aload_n 0, 1) := by decide +kernel
theorem dDesk_lift_92 : decode nDesk_lift.2.1 92 = .ok (.getfield 10, 3) := by decide +kernel
theorem dDesk_lift_95 : decode nDesk_lift.2.1 95 = .ok (.iload_n 3, 1) := by decide +kernel
theorem dDesk_lift_96 : decode nDesk_lift.2.1 96 = .ok (.iload_n 1, 1) := by decide +kernel
theorem dDesk_lift_97 : decode nDesk_lift.2.1 97 = .ok (.invokevirtual 88, 3) := by decide +kernel
theorem dDesk_lift_100 : decode nDesk_lift.2.1 100 = .ok (.ifCond .ne 6, 3) := by decide +kernel
theorem dDesk_lift_103 : decode nDesk_lift.2.1 103 = .ok (.ldc 92, 2) := by decide +kernel
theorem dDesk_lift_105 : decode nDesk_lift.2.1 105 = .ok (.ireturn, 1) := by decide +kernel
theorem dDesk_lift_106 : decode nDesk_lift.2.1 106 = .ok (.aload_n 0, 1) := by decide +kernel
theorem dDesk_lift_107 : decode nDesk_lift.2.1 107 = .ok (.getfield 10, 3) := by decide +kernel
theorem dDesk_lift_110 : decode nDesk_lift.2.1 110 = .ok (.iload_n 1, 1) := by decide +kernel
theorem dDesk_lift_111 : decode nDesk_lift.2.1 111 = .ok (.iload_n 2, 1) := by decide +kernel
theorem dDesk_lift_112 : decode nDesk_lift.2.1 112 = .ok (.iload_n 3, 1) := by decide +kernel
theorem dDesk_lift_113 : decode nDesk_lift.2.1 113 = .ok (.invokevirtual 84, 3) := by decide +kernel
theorem dDesk_lift_116 : decode nDesk_lift.2.1 116 = .ok (.iload 4, 2) := by decide +kernel
theorem dDesk_lift_118 : decode nDesk_lift.2.1 118 = .ok (.ireturn, 1) := by decide +kernel
theorem dDesk_lay_0 : decode nDesk_lay.2.1 0 = .ok (.aload_n 0, 1) := by decide +kernel
theorem dDesk_lay_1 : decode nDesk_lay.2.1 1 = .ok (.iload_n 3, 1) := by decide +kernel
theorem dDesk_lay_2 : decode nDesk_lay.2.1 2 = .ok (.invokevirtual 93, 3) := by decide +kernel
theorem dDesk_lay_5 : decode nDesk_lay.2.1 5 = .ok (.astore 4, 2) := by decide +kernel
theorem dDesk_lay_7 : decode nDesk_lay.2.1 7 = .ok (.aload_n 0, 1) := by decide +kernel
theorem dDesk_lay_8 : decode nDesk_lay.2.1 8 = .ok (.getfield 10, 3) := by decide +kernel
theorem dDesk_lay_11 : decode nDesk_lay.2.1 11 = .ok (.iload_n 1, 1) := by decide +kernel
theorem dDesk_lay_12 : decode nDesk_lay.2.1 12 = .ok (.invokevirtual 63, 3) := by decide +kernel
theorem dDesk_lay_15 : decode nDesk_lay.2.1 15 = .ok (.ifCond .eq 15, 3) := by decide +kernel
theorem dDesk_lay_18 : decode nDesk_lay.2.1 18 = .ok (.iload_n 2, 1) := by decide +kernel
theorem dDesk_lay_19 : decode nDesk_lay.2.1 19 = .ok (.invokestatic 67, 3) := by decide +kernel
theorem dDesk_lay_22 : decode nDesk_lay.2.1 22 = .ok (.ifCond .eq 8, 3) := by decide +kernel
theorem dDesk_lay_25 : decode nDesk_lay.2.1 25 = .ok (.aload 4, 2) := by decide +kernel
theorem dDesk_lay_27 : decode nDesk_lay.2.1 27 = .ok (.ifnonnull 6, 3) := by decide +kernel
theorem dDesk_lay_30 : decode nDesk_lay.2.1 30 = .ok (.ldc 61, 2) := by decide +kernel
theorem dDesk_lay_32 : decode nDesk_lay.2.1 32 = .ok (.ireturn, 1) := by decide +kernel
theorem dDesk_lay_33 : decode nDesk_lay.2.1 33 = .ok (.aload 4, 2) := by decide +kernel
theorem dDesk_lay_35 : decode nDesk_lay.2.1 35 = .ok (.invokevirtual 97, 3) := by decide +kernel
theorem dDesk_lay_38 : decode nDesk_lay.2.1 38 = .ok (.ifCond .eq 6, 3) := by decide +kernel
theorem dDesk_lay_41 : decode nDesk_lay.2.1 41 = .ok (.ldc 101, 2) := by decide +kernel
theorem dDesk_lay_43 : decode nDesk_lay.2.1 43 = .ok (.ireturn, 1) := by decide +kernel
theorem dDesk_lay_44 : decode nDesk_lay.2.1 44 = .ok (.aload 4, 2) := by decide +kernel
theorem dDesk_lay_46 : decode nDesk_lay.2.1 46 = .ok (.invokevirtual 102, 3) := by decide +kernel
theorem dDesk_lay_49 : decode nDesk_lay.2.1 49 = .ok (.bipush 30, 2) := by decide +kernel
theorem dDesk_lay_51 : decode nDesk_lay.2.1 51 = .ok (.iload_n 2, 1) := by decide +kernel
theorem dDesk_lay_52 : decode nDesk_lay.2.1 52 = .ok (.isub, 1) := by decide +kernel
theorem dDesk_lay_53 : decode nDesk_lay.2.1 53 = .ok (.if_icmp .le 6, 3) := by decide +kernel
theorem dDesk_lay_56 : decode nDesk_lay.2.1 56 = .ok (.ldc 106, 2) := by decide +kernel
theorem dDesk_lay_58 : decode nDesk_lay.2.1 58 = .ok (.ireturn, 1) := by decide +kernel
theorem dDesk_lay_59 : decode nDesk_lay.2.1 59 = .ok (.iconst 0, 1) := by decide +kernel
theorem dDesk_lay_60 : decode nDesk_lay.2.1 60 = .ok (.istore 5, 2) := by decide +kernel
theorem dDesk_lay_62 : decode nDesk_lay.2.1 62 = .ok (.iload 5, 2) := by decide +kernel
theorem dDesk_lay_64 : decode nDesk_lay.2.1 64 = .ok (.aload 4, 2) := by decide +kernel
theorem dDesk_lay_66 : decode nDesk_lay.2.1 66 = .ok (.invokevirtual 102, 3) := by decide +kernel
theorem dDesk_lay_69 : decode nDesk_lay.2.1 69 = .ok (.if_icmp .ge 49, 3) := by decide +kernel
theorem dDesk_lay_72 : decode nDesk_lay.2.1 72 = .ok (.aload 4, 2) := by decide +kernel
theorem dDesk_lay_74 : decode nDesk_lay.2.1 74 = .ok (.iload 5, 2) := by decide +kernel
theorem dDesk_lay_76 : decode nDesk_lay.2.1 76 = .ok (.invokevirtual 107, 3) := by decide +kernel
theorem dDesk_lay_79 : decode nDesk_lay.2.1 79 = .ok (.istore 6, 2) := by decide +kernel
theorem dDesk_lay_81 : decode nDesk_lay.2.1 81 = .ok (.aload_n 0, 1) := by decide +kernel
theorem dDesk_lay_82 : decode nDesk_lay.2.1 82 = .ok (.getfield 10, 3) := by decide +kernel
theorem dDesk_lay_85 : decode nDesk_lay.2.1 85 = .ok (.iload_n 1, 1) := by decide +kernel
theorem dDesk_lay_86 : decode nDesk_lay.2.1 86 = .ok (.iload_n 2, 1) := by decide +kernel
theorem dDesk_lay_87 : decode nDesk_lay.2.1 87 = .ok (.iload 5, 2) := by decide +kernel
theorem dDesk_lay_89 : decode nDesk_lay.2.1 89 = .ok (.iadd, 1) := by decide +kernel
theorem dDesk_lay_90 : decode nDesk_lay.2.1 90 = .ok (.iload 6, 2) := by decide +kernel
theorem dDesk_lay_92 : decode nDesk_lay.2.1 92 = .ok (.iconst 0, 1) := by decide +kernel
theorem dDesk_lay_93 : decode nDesk_lay.2.1 93 = .ok (.bipush 9, 2) := by decide +kernel
theorem dDesk_lay_95 : decode nDesk_lay.2.1 95 = .ok (.invokestatic 53, 3) := by decide +kernel
theorem dDesk_lay_98 : decode nDesk_lay.2.1 98 = .ok (.ifCond .eq 8, 3) := by decide +kernel
theorem dDesk_lay_101 : decode nDesk_lay.2.1 101 = .ok (.iload 6, 2) := by decide +kernel
theorem dDesk_lay_103 : decode nDesk_lay.2.1 103 = .ok (.goto 5, 3) := by decide +kernel
theorem dDesk_lay_106 : decode nDesk_lay.2.1 106 = .ok (.ldc 62, 2) := by decide +kernel
theorem dDesk_lay_108 : decode nDesk_lay.2.1 108 = .ok (.iconst 0, 1) := by decide +kernel
theorem dDesk_lay_109 : decode nDesk_lay.2.1 109 = .ok (.invokevirtual 77, 3) := by decide +kernel
theorem dDesk_lay_112 : decode nDesk_lay.2.1 112 = .ok (.iinc 5 1, 3) := by decide +kernel
theorem dDesk_lay_115 : decode nDesk_lay.2.1 115 = .ok (.goto (-53), 3) := by decide +kernel
theorem dDesk_lay_118 : decode nDesk_lay.2.1 118 = .ok (.aload 4, 2) := by decide +kernel
theorem dDesk_lay_120 : decode nDesk_lay.2.1 120 = .ok (.invokevirtual 102, 3) := by decide +kernel
theorem dDesk_lay_123 : decode nDesk_lay.2.1 123 = .ok (.ireturn, 1) := by decide +kernel
theorem dDesk_told_0 : decode nDesk_told.2.1 0 = .ok (.aload_n 0, 1) := by decide +kernel
theorem dDesk_told_1 : decode nDesk_told.2.1 1 = .ok (.getfield 10, 3) := by decide +kernel
theorem dDesk_told_4 : decode nDesk_told.2.1 4 = .ok (.iload_n 1, 1) := by decide +kernel
theorem dDesk_told_5 : decode nDesk_told.2.1 5 = .ok (.invokevirtual 63, 3) := by decide +kernel
theorem dDesk_told_8 : decode nDesk_told.2.1 8 = .ok (.ifCond .eq 10, 3) := by decide +kernel
theorem dDesk_told_11 : decode nDesk_told.2.1 11 = .ok (.iload_n 2, 1) := by decide +kernel
theorem dDesk_told_12 : decode nDesk_told.2.1 12 = .ok (.invokestatic 67, 3) := by decide +kernel
theorem dDesk_told_15 : decode nDesk_told.2.1 15 = .ok (.ifCond .ne 6, 3) := by decide +kernel
theorem dDesk_told_18 : decode nDesk_told.2.1 18 = .ok (.ldc 61, 2) := by decide +kernel
theorem dDesk_told_20 : decode nDesk_told.2.1 20 = .ok (.ireturn, 1) := by decide +kernel
theorem dDesk_told_21 : decode nDesk_told.2.1 21 = .ok (.iload_n 3, 1) := by decide +kernel
theorem dDesk_told_22 : decode nDesk_told.2.1 22 = .ok (.tableswitch 56 0 2 #[26, 36, 46], 26) := by decide +kernel
theorem dDesk_told_48 : decode nDesk_told.2.1 48 = .ok (.aload_n 0, 1) := by decide +kernel
theorem dDesk_told_49 : decode nDesk_told.2.1 49 = .ok (.getfield 10, 3) := by decide +kernel
theorem dDesk_told_52 : decode nDesk_told.2.1 52 = .ok (.iload_n 1, 1) := by decide +kernel
theorem dDesk_told_53 : decode nDesk_told.2.1 53 = .ok (.iload_n 2, 1) := by decide +kernel
theorem dDesk_told_54 : decode nDesk_told.2.1 54 = .ok (.invokevirtual 73, 3) := by decide +kernel
theorem dDesk_told_57 : decode nDesk_told.2.1 57 = .ok (.ireturn, 1) := by decide +kernel
theorem dDesk_told_58 : decode nDesk_told.2.1 58 = .ok (.aload_n 0, 1) := by decide +kernel
theorem dDesk_told_59 : decode nDesk_told.2.1 59 = .ok (.getfield 10, 3) := by decide +kernel
theorem dDesk_told_62 : decode nDesk_told.2.1 62 = .ok (.iload_n 1, 1) := by decide +kernel
theorem dDesk_told_63 : decode nDesk_told.2.1 63 = .ok (.iload_n 2, 1) := by decide +kernel
theorem dDesk_told_64 : decode nDesk_told.2.1 64 = .ok (.invokevirtual 110, 3) := by decide +kernel
theorem dDesk_told_67 : decode nDesk_told.2.1 67 = .ok (.ireturn, 1) := by decide +kernel
theorem dDesk_told_68 : decode nDesk_told.2.1 68 = .ok (.aload_n 0, 1) := by decide +kernel
theorem dDesk_told_69 : decode nDesk_told.2.1 69 = .ok (.getfield 10, 3) := by decide +kernel
theorem dDesk_told_72 : decode nDesk_told.2.1 72 = .ok (.iload_n 1, 1) := by decide +kernel
theorem dDesk_told_73 : decode nDesk_told.2.1 73 = .ok (.iload_n 2, 1) := by decide +kernel
theorem dDesk_told_74 : decode nDesk_told.2.1 74 = .ok (.invokevirtual 113, 3) := by decide +kernel
theorem dDesk_told_77 : decode nDesk_told.2.1 77 = .ok (.ireturn, 1) := by decide +kernel
theorem dDesk_told_78 : decode nDesk_told.2.1 78 = .ok (.ldc 61, 2) := by decide +kernel
theorem dDesk_told_80 : decode nDesk_told.2.1 80 = .ok (.ireturn, 1) := by decide +kernel
theorem dDesk_person_0 : decode nDesk_person.2.1 0 = .ok (.iload_n 1, 1) := by decide +kernel
theorem dDesk_person_1 : decode nDesk_person.2.1 1 = .ok (.invokestatic 116, 3) := by decide +kernel
theorem dDesk_person_4 : decode nDesk_person.2.1 4 = .ok (.ifCond .eq 25, 3) := by decide +kernel
theorem dDesk_person_7 : decode nDesk_person.2.1 7 = .ok (.iload_n 2, 1) := by decide +kernel
theorem dDesk_person_8 : decode nDesk_person.2.1 8 = .ok (.iconst 1, 1) := by decide +kernel
theorem dDesk_person_9 : decode nDesk_person.2.1 9 = .ok (.bipush 9, 2) := by decide +kernel
theorem dDesk_person_11 : decode nDesk_person.2.1 11 = .ok (.invokestatic 53, 3) := by decide +kernel
theorem dDesk_person_14 : decode nDesk_person.2.1 14 = .ok (.ifCond .eq 15, 3) := by decide +kernel
theorem dDesk_person_17 : decode nDesk_person.2.1 17 = .ok (.aload_n 0, 1) := by decide +kernel
theorem dDesk_person_18 : decode nDesk_person.2.1 18 = .ok (.getfield 19, 3) := by decide +kernel
theorem dDesk_person_21 : decode nDesk_person.2.1 21 = .ok (.iload_n 1, 1) := by decide +kernel
theorem dDesk_person_22 : decode nDesk_person.2.1 22 = .ok (.iload_n 2, 1) := by decide +kernel
theorem dDesk_person_23 : decode nDesk_person.2.1 23 = .ok (.invokevirtual 119, 3) := by decide +kernel
theorem dDesk_person_26 : decode nDesk_person.2.1 26 = .ok (.goto 5, 3) := by decide +kernel
theorem dDesk_person_29 : decode nDesk_person.2.1 29 = .ok (.ldc 61, 2) := by decide +kernel
theorem dDesk_person_31 : decode nDesk_person.2.1 31 = .ok (.ireturn, 1) := by decide +kernel
theorem dDesk_isOf_0 : decode nDesk_isOf.2.1 0 = .ok (.aload_n 0, 1) := by decide +kernel
theorem dDesk_isOf_1 : decode nDesk_isOf.2.1 1 = .ok (.getfield 19, 3) := by decide +kernel
theorem dDesk_isOf_4 : decode nDesk_isOf.2.1 4 = .ok (.iload_n 1, 1) := by decide +kernel
theorem dDesk_isOf_5 : decode nDesk_isOf.2.1 5 = .ok (.invokevirtual 122, 3) := by decide +kernel
theorem dDesk_isOf_8 : decode nDesk_isOf.2.1 8 = .ok (.ifCond .eq 10, 3) := by decide +kernel
theorem dDesk_isOf_11 : decode nDesk_isOf.2.1 11 = .ok (.iload_n 2, 1) := by decide +kernel
theorem dDesk_isOf_12 : decode nDesk_isOf.2.1 12 = .ok (.invokestatic 116, 3) := by decide +kernel
theorem dDesk_isOf_15 : decode nDesk_isOf.2.1 15 = .ok (.ifCond .ne 6, 3) := by decide +kernel
theorem dDesk_isOf_18 : decode nDesk_isOf.2.1 18 = .ok (.ldc 61, 2) := by decide +kernel
theorem dDesk_isOf_20 : decode nDesk_isOf.2.1 20 = .ok (.ireturn, 1) := by decide +kernel
theorem dDesk_isOf_21 : decode nDesk_isOf.2.1 21 = .ok (.aload_n 0, 1) := by decide +kernel
theorem dDesk_isOf_22 : decode nDesk_isOf.2.1 22 = .ok (.getfield 19, 3) := by decide +kernel
theorem dDesk_isOf_25 : decode nDesk_isOf.2.1 25 = .ok (.iload_n 1, 1) := by decide +kernel
theorem dDesk_isOf_26 : decode nDesk_isOf.2.1 26 = .ok (.iload_n 2, 1) := by decide +kernel
theorem dDesk_isOf_27 : decode nDesk_isOf.2.1 27 = .ok (.invokevirtual 125, 3) := by decide +kernel
theorem dDesk_isOf_30 : decode nDesk_isOf.2.1 30 = .ok (.ifCond .eq 7, 3) := by decide +kernel
theorem dDesk_isOf_33 : decode nDesk_isOf.2.1 33 = .ok (.iconst 1, 1) := by decide +kernel
theorem dDesk_isOf_34 : decode nDesk_isOf.2.1 34 = .ok (.goto 4, 3) := by decide +kernel
theorem dDesk_isOf_37 : decode nDesk_isOf.2.1 37 = .ok (.iconst 0, 1) := by decide +kernel
theorem dDesk_isOf_38 : decode nDesk_isOf.2.1 38 = .ok (.ireturn, 1) := by decide +kernel
theorem dDesk_own_0 : decode nDesk_own.2.1 0 = .ok (.aload_n 0, 1) := by decide +kernel
theorem dDesk_own_1 : decode nDesk_own.2.1 1 = .ok (.getfield 19, 3) := by decide +kernel
theorem dDesk_own_4 : decode nDesk_own.2.1 4 = .ok (.iload_n 1, 1) := by decide +kernel
theorem dDesk_own_5 : decode nDesk_own.2.1 5 = .ok (.invokevirtual 122, 3) := by decide +kernel
theorem dDesk_own_8 : decode nDesk_own.2.1 8 = .ok (.ifCond .eq 20, 3) := by decide +kernel
theorem dDesk_own_11 : decode nDesk_own.2.1 11 = .ok (.iload_n 2, 1) := by decide +kernel
theorem dDesk_own_12 : decode nDesk_own.2.1 12 = .ok (.ldc 62, 2) := by decide +kernel
theorem dDesk_own_14 : decode nDesk_own.2.1 14 = .ok (.if_icmp .eq 17, 3) := by decide +kernel
theorem dDesk_own_17 : decode nDesk_own.2.1 17 = .ok (.aload_n 0, 1) := by decide +kernel
theorem dDesk_own_18 : decode nDesk_own.2.1 18 = .ok (.getfield 10, 3) := by decide +kernel
theorem dDesk_own_21 : decode nDesk_own.2.1 21 = .ok (.iload_n 2, 1) := by decide +kernel
theorem dDesk_own_22 : decode nDesk_own.2.1 22 = .ok (.invokevirtual 63, 3) := by decide +kernel
theorem dDesk_own_25 : decode nDesk_own.2.1 25 = .ok (.ifCond .ne 6, 3) := by decide +kernel
theorem dDesk_own_28 : decode nDesk_own.2.1 28 = .ok (.ldc 61, 2) := by decide +kernel
theorem dDesk_own_30 : decode nDesk_own.2.1 30 = .ok (.ireturn, 1) := by decide +kernel
theorem dDesk_own_31 : decode nDesk_own.2.1 31 = .ok (.aload_n 0, 1) := by decide +kernel
theorem dDesk_own_32 : decode nDesk_own.2.1 32 = .ok (.getfield 19, 3) := by decide +kernel
theorem dDesk_own_35 : decode nDesk_own.2.1 35 = .ok (.iload_n 2, 1) := by decide +kernel
theorem dDesk_own_36 : decode nDesk_own.2.1 36 = .ok (.invokevirtual 128, 3) := by decide +kernel
theorem dDesk_own_39 : decode nDesk_own.2.1 39 = .ok (.istore_n 3, 1) := by decide +kernel
theorem dDesk_own_40 : decode nDesk_own.2.1 40 = .ok (.iload_n 3, 1) := by decide +kernel
theorem dDesk_own_41 : decode nDesk_own.2.1 41 = .ok (.ldc 62, 2) := by decide +kernel
theorem dDesk_own_43 : decode nDesk_own.2.1 43 = .ok (.if_icmp .eq 11, 3) := by decide +kernel
theorem dDesk_own_46 : decode nDesk_own.2.1 46 = .ok (.iload_n 3, 1) := by decide +kernel
theorem dDesk_own_47 : decode nDesk_own.2.1 47 = .ok (.iload_n 1, 1) := by decide +kernel
theorem dDesk_own_48 : decode nDesk_own.2.1 48 = .ok (.if_icmp .eq 6, 3) := by decide +kernel
theorem dDesk_own_51 : decode nDesk_own.2.1 51 = .ok (.ldc 92, 2) := by decide +kernel
theorem dDesk_own_53 : decode nDesk_own.2.1 53 = .ok (.ireturn, 1) := by decide +kernel
theorem dDesk_own_54 : decode nDesk_own.2.1 54 = .ok (.aload_n 0, 1) := by decide +kernel
theorem dDesk_own_55 : decode nDesk_own.2.1 55 = .ok (.getfield 19, 3) := by decide +kernel
theorem dDesk_own_58 : decode nDesk_own.2.1 58 = .ok (.iload_n 1, 1) := by decide +kernel
theorem dDesk_own_59 : decode nDesk_own.2.1 59 = .ok (.invokevirtual 131, 3) := by decide +kernel
theorem dDesk_own_62 : decode nDesk_own.2.1 62 = .ok (.istore 4, 2) := by decide +kernel
theorem dDesk_own_64 : decode nDesk_own.2.1 64 = .ok (.aload_n 0, 1) := by decide +kernel
theorem dDesk_own_65 : decode nDesk_own.2.1 65 = .ok (.getfield 19, 3) := by decide +kernel
theorem dDesk_own_68 : decode nDesk_own.2.1 68 = .ok (.iload_n 1, 1) := by decide +kernel
theorem dDesk_own_69 : decode nDesk_own.2.1 69 = .ok (.iload_n 2, 1) := by decide +kernel
theorem dDesk_own_70 : decode nDesk_own.2.1 70 = .ok (.invokevirtual 134, 3) := by decide +kernel
theorem dDesk_own_73 : decode nDesk_own.2.1 73 = .ok (.iload 4, 2) := by decide +kernel
theorem dDesk_own_75 : decode nDesk_own.2.1 75 = .ok (.ireturn, 1) := by decide +kernel
theorem dDesk_did_0 : decode nDesk_did.2.1 0 = .ok (.aload_n 0, 1) := by decide +kernel
theorem dDesk_did_1 : decode nDesk_did.2.1 1 = .ok (.getfield 19, 3) := by decide +kernel
theorem dDesk_did_4 : decode nDesk_did.2.1 4 = .ok (.iload_n 1, 1) := by decide +kernel
theorem dDesk_did_5 : decode nDesk_did.2.1 5 = .ok (.invokevirtual 122, 3) := by decide +kernel
theorem dDesk_did_8 : decode nDesk_did.2.1 8 = .ok (.ifCond .eq 14, 3) := by decide +kernel
theorem dDesk_did_11 : decode nDesk_did.2.1 11 = .ok (.aload_n 0, 1) := by decide +kernel
theorem dDesk_did_12 : decode nDesk_did.2.1 12 = .ok (.getfield 10, 3) := by decide +kernel
theorem dDesk_did_15 : decode nDesk_did.2.1 15 = .ok (.iload_n 2, 1) := by decide +kernel
theorem dDesk_did_16 : decode nDesk_did.2.1 16 = .ok (.invokevirtual 63, 3) := by decide +kernel
theorem dDesk_did_19 : decode nDesk_did.2.1 19 = .ok (.ifCond .ne 6, 3) := by decide +kernel
theorem dDesk_did_22 : decode nDesk_did.2.1 22 = .ok (.ldc 61, 2) := by decide +kernel
theorem dDesk_did_24 : decode nDesk_did.2.1 24 = .ok (.ireturn, 1) := by decide +kernel
theorem dDesk_did_25 : decode nDesk_did.2.1 25 = .ok (.aload_n 0, 1) := by decide +kernel
theorem dDesk_did_26 : decode nDesk_did.2.1 26 = .ok (.getfield 19, 3) := by decide +kernel
theorem dDesk_did_29 : decode nDesk_did.2.1 29 = .ok (.iload_n 1, 1) := by decide +kernel
theorem dDesk_did_30 : decode nDesk_did.2.1 30 = .ok (.iload_n 2, 1) := by decide +kernel
theorem dDesk_did_31 : decode nDesk_did.2.1 31 = .ok (.invokevirtual 138, 3) := by decide +kernel
theorem dDesk_did_34 : decode nDesk_did.2.1 34 = .ok (.istore_n 3, 1) := by decide +kernel
theorem dDesk_did_35 : decode nDesk_did.2.1 35 = .ok (.aload_n 0, 1) := by decide +kernel
theorem dDesk_did_36 : decode nDesk_did.2.1 36 = .ok (.getfield 19, 3) := by decide +kernel
theorem dDesk_did_39 : decode nDesk_did.2.1 39 = .ok (.iload_n 1, 1) := by decide +kernel
theorem dDesk_did_40 : decode nDesk_did.2.1 40 = .ok (.iload_n 2, 1) := by decide +kernel
theorem dDesk_did_41 : decode nDesk_did.2.1 41 = .ok (.invokevirtual 141, 3) := by decide +kernel
theorem dDesk_did_44 : decode nDesk_did.2.1 44 = .ok (.iload_n 3, 1) := by decide +kernel
theorem dDesk_did_45 : decode nDesk_did.2.1 45 = .ok (.ireturn, 1) := by decide +kernel
theorem dDesk_fresh_0 : decode nDesk_fresh.2.1 0 = .ok (.aload_n 0, 1) := by decide +kernel
theorem dDesk_fresh_1 : decode nDesk_fresh.2.1 1 = .ok (.getfield 19, 3) := by decide +kernel
theorem dDesk_fresh_4 : decode nDesk_fresh.2.1 4 = .ok (.iload_n 1, 1) := by decide +kernel
theorem dDesk_fresh_5 : decode nDesk_fresh.2.1 5 = .ok (.invokevirtual 122, 3) := by decide +kernel
theorem dDesk_fresh_8 : decode nDesk_fresh.2.1 8 = .ok (.ifCond .eq 14, 3) := by decide +kernel
theorem dDesk_fresh_11 : decode nDesk_fresh.2.1 11 = .ok (.aload_n 0, 1) := by decide +kernel
theorem dDesk_fresh_12 : decode nDesk_fresh.2.1 12 = .ok (.getfield 10, 3) := by decide +kernel
theorem dDesk_fresh_15 : decode nDesk_fresh.2.1 15 = .ok (.iload_n 2, 1) := by decide +kernel
theorem dDesk_fresh_16 : decode nDesk_fresh.2.1 16 = .ok (.invokevirtual 63, 3) := by decide +kernel
theorem dDesk_fresh_19 : decode nDesk_fresh.2.1 19 = .ok (.ifCond .ne 6, 3) := by decide +kernel
theorem dDesk_fresh_22 : decode nDesk_fresh.2.1 22 = .ok (.ldc 61, 2) := by decide +kernel
theorem dDesk_fresh_24 : decode nDesk_fresh.2.1 24 = .ok (.ireturn, 1) := by decide +kernel
theorem dDesk_fresh_25 : decode nDesk_fresh.2.1 25 = .ok (.aload_n 0, 1) := by decide +kernel
theorem dDesk_fresh_26 : decode nDesk_fresh.2.1 26 = .ok (.getfield 19, 3) := by decide +kernel
theorem dDesk_fresh_29 : decode nDesk_fresh.2.1 29 = .ok (.iload_n 1, 1) := by decide +kernel
theorem dDesk_fresh_30 : decode nDesk_fresh.2.1 30 = .ok (.iload_n 2, 1) := by decide +kernel
theorem dDesk_fresh_31 : decode nDesk_fresh.2.1 31 = .ok (.invokevirtual 144, 3) := by decide +kernel
theorem dDesk_fresh_34 : decode nDesk_fresh.2.1 34 = .ok (.ifCond .ne 6, 3) := by decide +kernel
theorem dDesk_fresh_37 : decode nDesk_fresh.2.1 37 = .ok (.ldc 92, 2) := by decide +kernel
theorem dDesk_fresh_39 : decode nDesk_fresh.2.1 39 = .ok (.ireturn, 1) := by decide +kernel
theorem dDesk_fresh_40 : decode nDesk_fresh.2.1 40 = .ok (.aload_n 0, 1) := by decide +kernel
theorem dDesk_fresh_41 : decode nDesk_fresh.2.1 41 = .ok (.getfield 19, 3) := by decide +kernel
theorem dDesk_fresh_44 : decode nDesk_fresh.2.1 44 = .ok (.iload_n 1, 1) := by decide +kernel
theorem dDesk_fresh_45 : decode nDesk_fresh.2.1 45 = .ok (.iload_n 2, 1) := by decide +kernel
theorem dDesk_fresh_46 : decode nDesk_fresh.2.1 46 = .ok (.invokevirtual 147, 3) := by decide +kernel
theorem dDesk_fresh_49 : decode nDesk_fresh.2.1 49 = .ok (.ifCond .eq 7, 3) := by decide +kernel
theorem dDesk_fresh_52 : decode nDesk_fresh.2.1 52 = .ok (.iconst 1, 1) := by decide +kernel
theorem dDesk_fresh_53 : decode nDesk_fresh.2.1 53 = .ok (.goto 4, 3) := by decide +kernel
theorem dDesk_fresh_56 : decode nDesk_fresh.2.1 56 = .ok (.iconst 0, 1) := by decide +kernel
theorem dDesk_fresh_57 : decode nDesk_fresh.2.1 57 = .ok (.ireturn, 1) := by decide +kernel
theorem dDesk_rehearse_0 : decode nDesk_rehearse.2.1 0 = .ok (.aload_n 0, 1) := by decide +kernel
theorem dDesk_rehearse_1 : decode nDesk_rehearse.2.1 1 = .ok (.getfield 19, 3) := by decide +kernel
theorem dDesk_rehearse_4 : decode nDesk_rehearse.2.1 4 = .ok (.iload_n 1, 1) := by decide +kernel
theorem dDesk_rehearse_5 : decode nDesk_rehearse.2.1 5 = .ok (.iload_n 2, 1) := by decide +kernel
theorem dDesk_rehearse_6 : decode nDesk_rehearse.2.1 6 = .ok (.invokevirtual 150, 3) := by decide +kernel
theorem dDesk_rehearse_9 : decode nDesk_rehearse.2.1 9 = .ok (.ifCond .ne 6, 3) := by decide +kernel
theorem dDesk_rehearse_12 : decode nDesk_rehearse.2.1 12 = .ok (.ldc 61, 2) := by decide +kernel
theorem dDesk_rehearse_14 : decode nDesk_rehearse.2.1 14 = .ok (.ireturn, 1) := by decide +kernel
theorem dDesk_rehearse_15 : decode nDesk_rehearse.2.1 15 = .ok (.aload_n 0, 1) := by decide +kernel
theorem dDesk_rehearse_16 : decode nDesk_rehearse.2.1 16 = .ok (.getfield 19, 3) := by decide +kernel
theorem dDesk_rehearse_19 : decode nDesk_rehearse.2.1 19 = .ok (.iload_n 1, 1) := by decide +kernel
theorem dDesk_rehearse_20 : decode nDesk_rehearse.2.1 20 = .ok (.iload_n 2, 1) := by decide +kernel
theorem dDesk_rehearse_21 : decode nDesk_rehearse.2.1 21 = .ok (.invokevirtual 153, 3) := by decide +kernel
theorem dDesk_rehearse_24 : decode nDesk_rehearse.2.1 24 = .ok (.istore_n 3, 1) := by decide +kernel
theorem dDesk_rehearse_25 : decode nDesk_rehearse.2.1 25 = .ok (.aload_n 0, 1) := by decide +kernel
theorem dDesk_rehearse_26 : decode nDesk_rehearse.2.1 26 = .ok (.getfield 19, 3) := by decide +kernel
theorem dDesk_rehearse_29 : decode nDesk_rehearse.2.1 29 = .ok (.iload_n 1, 1) := by decide +kernel
theorem dDesk_rehearse_30 : decode nDesk_rehearse.2.1 30 = .ok (.iload_n 2, 1) := by decide +kernel
theorem dDesk_rehearse_31 : decode nDesk_rehearse.2.1 31 = .ok (.invokevirtual 156, 3) := by decide +kernel
theorem dDesk_rehearse_34 : decode nDesk_rehearse.2.1 34 = .ok (.iload_n 3, 1) := by decide +kernel
theorem dDesk_rehearse_35 : decode nDesk_rehearse.2.1 35 = .ok (.ireturn, 1) := by decide +kernel
theorem dDesk_feud_0 : decode nDesk_feud.2.1 0 = .ok (.aload_n 0, 1) := by decide +kernel
theorem dDesk_feud_1 : decode nDesk_feud.2.1 1 = .ok (.getfield 19, 3) := by decide +kernel
theorem dDesk_feud_4 : decode nDesk_feud.2.1 4 = .ok (.iload_n 1, 1) := by decide +kernel
theorem dDesk_feud_5 : decode nDesk_feud.2.1 5 = .ok (.iload_n 2, 1) := by decide +kernel
theorem dDesk_feud_6 : decode nDesk_feud.2.1 6 = .ok (.invokevirtual 150, 3) := by decide +kernel
theorem dDesk_feud_9 : decode nDesk_feud.2.1 9 = .ok (.ifCond .eq 10, 3) := by decide +kernel
theorem dDesk_feud_12 : decode nDesk_feud.2.1 12 = .ok (.iload_n 3, 1) := by decide +kernel
theorem dDesk_feud_13 : decode nDesk_feud.2.1 13 = .ok (.invokestatic 70, 3) := by decide +kernel
theorem dDesk_feud_16 : decode nDesk_feud.2.1 16 = .ok (.ifCond .ne 6, 3) := by decide +kernel
theorem dDesk_feud_19 : decode nDesk_feud.2.1 19 = .ok (.ldc 61, 2) := by decide +kernel
theorem dDesk_feud_21 : decode nDesk_feud.2.1 21 = .ok (.ireturn, 1) := by decide +kernel
theorem dDesk_feud_22 : decode nDesk_feud.2.1 22 = .ok (.aload_n 0, 1) := by decide +kernel
theorem dDesk_feud_23 : decode nDesk_feud.2.1 23 = .ok (.getfield 19, 3) := by decide +kernel
theorem dDesk_feud_26 : decode nDesk_feud.2.1 26 = .ok (.iload_n 1, 1) := by decide +kernel
theorem dDesk_feud_27 : decode nDesk_feud.2.1 27 = .ok (.iload_n 2, 1) := by decide +kernel
theorem dDesk_feud_28 : decode nDesk_feud.2.1 28 = .ok (.invokevirtual 159, 3) := by decide +kernel
theorem dDesk_feud_31 : decode nDesk_feud.2.1 31 = .ok (.ifCond .eq 7, 3) := by decide +kernel
theorem dDesk_feud_34 : decode nDesk_feud.2.1 34 = .ok (.iconst 1, 1) := by decide +kernel
theorem dDesk_feud_35 : decode nDesk_feud.2.1 35 = .ok (.goto 4, 3) := by decide +kernel
theorem dDesk_feud_38 : decode nDesk_feud.2.1 38 = .ok (.iconst 0, 1) := by decide +kernel
theorem dDesk_feud_39 : decode nDesk_feud.2.1 39 = .ok (.istore 4, 2) := by decide +kernel
theorem dDesk_feud_41 : decode nDesk_feud.2.1 41 = .ok (.aload_n 0, 1) := by decide +kernel
theorem dDesk_feud_42 : decode nDesk_feud.2.1 42 = .ok (.getfield 19, 3) := by decide +kernel
theorem dDesk_feud_45 : decode nDesk_feud.2.1 45 = .ok (.iload_n 1, 1) := by decide +kernel
theorem dDesk_feud_46 : decode nDesk_feud.2.1 46 = .ok (.iload_n 2, 1) := by decide +kernel
theorem dDesk_feud_47 : decode nDesk_feud.2.1 47 = .ok (.iload_n 3, 1) := by decide +kernel
theorem dDesk_feud_48 : decode nDesk_feud.2.1 48 = .ok (.iconst 1, 1) := by decide +kernel
theorem dDesk_feud_49 : decode nDesk_feud.2.1 49 = .ok (.if_icmp .ne 7, 3) := by decide +kernel
theorem dDesk_feud_52 : decode nDesk_feud.2.1 52 = .ok (.iconst 1, 1) := by decide +kernel
theorem dDesk_feud_53 : decode nDesk_feud.2.1 53 = .ok (.goto 4, 3) := by decide +kernel
theorem dDesk_feud_56 : decode nDesk_feud.2.1 56 = .ok (.iconst 0, 1) := by decide +kernel
theorem dDesk_feud_57 : decode nDesk_feud.2.1 57 = .ok (.invokevirtual 162, 3) := by decide +kernel
theorem dDesk_feud_60 : decode nDesk_feud.2.1 60 = .ok (.iload 4, 2) := by decide +kernel
theorem dDesk_feud_62 : decode nDesk_feud.2.1 62 = .ok (.ireturn, 1) := by decide +kernel
theorem dDesk_days_0 : decode nDesk_days.2.1 0 = .ok (.iload_n 1, 1) := by decide +kernel
theorem dDesk_days_1 : decode nDesk_days.2.1 1 = .ok (.iconst 1, 1) := by decide +kernel
theorem dDesk_days_2 : decode nDesk_days.2.1 2 = .ok (.bipush 60, 2) := by decide +kernel
theorem dDesk_days_4 : decode nDesk_days.2.1 4 = .ok (.invokestatic 53, 3) := by decide +kernel
theorem dDesk_days_7 : decode nDesk_days.2.1 7 = .ok (.ifCond .eq 18, 3) := by decide +kernel
theorem dDesk_days_10 : decode nDesk_days.2.1 10 = .ok (.aload_n 0, 1) := by decide +kernel
theorem dDesk_days_11 : decode nDesk_days.2.1 11 = .ok (.getfield 19, 3) := by decide +kernel
theorem dDesk_days_14 : decode nDesk_days.2.1 14 = .ok (.invokevirtual 166, 3) := by decide +kernel
theorem dDesk_days_17 : decode nDesk_days.2.1 17 = .ok (.iload_n 1, 1) := by decide +kernel
theorem dDesk_days_18 : decode nDesk_days.2.1 18 = .ok (.iadd, 1) := by decide +kernel
theorem dDesk_days_19 : decode nDesk_days.2.1 19 = .ok (.sipush 400, 3) := by decide +kernel
theorem dDesk_days_22 : decode nDesk_days.2.1 22 = .ok (.if_icmp .le 6, 3) := by decide +kernel
theorem dDesk_days_25 : decode nDesk_days.2.1 25 = .ok (.ldc 61, 2) := by decide +kernel
theorem dDesk_days_27 : decode nDesk_days.2.1 27 = .ok (.ireturn, 1) := by decide +kernel
theorem dDesk_days_28 : decode nDesk_days.2.1 28 = .ok (.aload_n 0, 1) := by decide +kernel
theorem dDesk_days_29 : decode nDesk_days.2.1 29 = .ok (.getfield 19, 3) := by decide +kernel
theorem dDesk_days_32 : decode nDesk_days.2.1 32 = .ok (.iload_n 1, 1) := by decide +kernel
theorem dDesk_days_33 : decode nDesk_days.2.1 33 = .ok (.invokevirtual 169, 3) := by decide +kernel
theorem dDesk_days_36 : decode nDesk_days.2.1 36 = .ok (.aload_n 0, 1) := by decide +kernel
theorem dDesk_days_37 : decode nDesk_days.2.1 37 = .ok (.getfield 28, 3) := by decide +kernel
theorem dDesk_days_40 : decode nDesk_days.2.1 40 = .ok (.invokevirtual 173, 3) := by decide +kernel
theorem dDesk_days_43 : decode nDesk_days.2.1 43 = .ok (.aload_n 0, 1) := by decide +kernel
theorem dDesk_days_44 : decode nDesk_days.2.1 44 = .ok (.getfield 19, 3) := by decide +kernel
theorem dDesk_days_47 : decode nDesk_days.2.1 47 = .ok (.invokevirtual 166, 3) := by decide +kernel
theorem dDesk_days_50 : decode nDesk_days.2.1 50 = .ok (.ireturn, 1) := by decide +kernel
theorem dDesk_out_0 : decode nDesk_out.2.1 0 = .ok (.aload_n 0, 1) := by decide +kernel
theorem dDesk_out_1 : decode nDesk_out.2.1 1 = .ok (.getfield 19, 3) := by decide +kernel
theorem dDesk_out_4 : decode nDesk_out.2.1 4 = .ok (.iload_n 1, 1) := by decide +kernel
theorem dDesk_out_5 : decode nDesk_out.2.1 5 = .ok (.invokevirtual 122, 3) := by decide +kernel
theorem dDesk_out_8 : decode nDesk_out.2.1 8 = .ok (.ifCond .eq 13, 3) := by decide +kernel
theorem dDesk_out_11 : decode nDesk_out.2.1 11 = .ok (.iload_n 2, 1) := by decide +kernel
theorem dDesk_out_12 : decode nDesk_out.2.1 12 = .ok (.iconst 0, 1) := by decide +kernel
theorem dDesk_out_13 : decode nDesk_out.2.1 13 = .ok (.bipush 30, 2) := by decide +kernel
theorem dDesk_out_15 : decode nDesk_out.2.1 15 = .ok (.invokestatic 53, 3) := by decide +kernel
theorem dDesk_out_18 : decode nDesk_out.2.1 18 = .ok (.ifCond .ne 6, 3) := by decide +kernel
theorem dDesk_out_21 : decode nDesk_out.2.1 21 = .ok (.ldc 61, 2) := by decide +kernel
theorem dDesk_out_23 : decode nDesk_out.2.1 23 = .ok (.ireturn, 1) := by decide +kernel
theorem dDesk_out_24 : decode nDesk_out.2.1 24 = .ok (.aload_n 0, 1) := by decide +kernel
theorem dDesk_out_25 : decode nDesk_out.2.1 25 = .ok (.getfield 19, 3) := by decide +kernel
theorem dDesk_out_28 : decode nDesk_out.2.1 28 = .ok (.iload_n 1, 1) := by decide +kernel
theorem dDesk_out_29 : decode nDesk_out.2.1 29 = .ok (.invokevirtual 176, 3) := by decide +kernel
theorem dDesk_out_32 : decode nDesk_out.2.1 32 = .ok (.istore_n 3, 1) := by decide +kernel
theorem dDesk_out_33 : decode nDesk_out.2.1 33 = .ok (.aload_n 0, 1) := by decide +kernel
theorem dDesk_out_34 : decode nDesk_out.2.1 34 = .ok (.getfield 19, 3) := by decide +kernel
theorem dDesk_out_37 : decode nDesk_out.2.1 37 = .ok (.iload_n 1, 1) := by decide +kernel
theorem dDesk_out_38 : decode nDesk_out.2.1 38 = .ok (.iload_n 2, 1) := by decide +kernel
theorem dDesk_out_39 : decode nDesk_out.2.1 39 = .ok (.invokevirtual 179, 3) := by decide +kernel
theorem dDesk_out_42 : decode nDesk_out.2.1 42 = .ok (.iload_n 3, 1) := by decide +kernel
theorem dDesk_out_43 : decode nDesk_out.2.1 43 = .ok (.ireturn, 1) := by decide +kernel
theorem dDesk_cast_0 : decode nDesk_cast.2.1 0 = .ok (.iload_n 1, 1) := by decide +kernel
theorem dDesk_cast_1 : decode nDesk_cast.2.1 1 = .ok (.iconst 1, 1) := by decide +kernel
theorem dDesk_cast_2 : decode nDesk_cast.2.1 2 = .ok (.sipush 30000, 3) := by decide +kernel
theorem dDesk_cast_5 : decode nDesk_cast.2.1 5 = .ok (.invokestatic 53, 3) := by decide +kernel
theorem dDesk_cast_8 : decode nDesk_cast.2.1 8 = .ok (.ifCond .ne 6, 3) := by decide +kernel
theorem dDesk_cast_11 : decode nDesk_cast.2.1 11 = .ok (.ldc 61, 2) := by decide +kernel
theorem dDesk_cast_13 : decode nDesk_cast.2.1 13 = .ok (.ireturn, 1) := by decide +kernel
theorem dDesk_cast_14 : decode nDesk_cast.2.1 14 = .ok (.aload_n 0, 1) := by decide +kernel
theorem dDesk_cast_15 : decode nDesk_cast.2.1 15 = .ok (.getfield 35, 3) := by decide +kernel
theorem dDesk_cast_18 : decode nDesk_cast.2.1 18 = .ok (.iload_n 1, 1) := by decide +kernel
theorem dDesk_cast_19 : decode nDesk_cast.2.1 19 = .ok (.invokevirtual 182, 3) := by decide +kernel
theorem dDesk_cast_22 : decode nDesk_cast.2.1 22 = .ok (.istore_n 2, 1) := by decide +kernel
theorem dDesk_cast_23 : decode nDesk_cast.2.1 23 = .ok (.iload_n 2, 1) := by decide +kernel
theorem dDesk_cast_24 : decode nDesk_cast.2.1 24 = .ok (.ldc 185, 2) := by decide +kernel
theorem dDesk_cast_26 : decode nDesk_cast.2.1 26 = .ok (.if_icmp .eq 14, 3) := by decide +kernel
theorem dDesk_cast_29 : decode nDesk_cast.2.1 29 = .ok (.aload_n 0, 1) := by decide +kernel
theorem dDesk_cast_30 : decode nDesk_cast.2.1 30 = .ok (.getfield 28, 3) := by decide +kernel
theorem dDesk_cast_33 : decode nDesk_cast.2.1 33 = .ok (.aload_n 0, 1) := by decide +kernel
theorem dDesk_cast_34 : decode nDesk_cast.2.1 34 = .ok (.getfield 35, 3) := by decide +kernel
theorem dDesk_cast_37 : decode nDesk_cast.2.1 37 = .ok (.invokevirtual 186, 3) := by decide +kernel
theorem dDesk_cast_40 : decode nDesk_cast.2.1 40 = .ok (.iload_n 2, 1) := by decide +kernel
theorem dDesk_cast_41 : decode nDesk_cast.2.1 41 = .ok (.ireturn, 1) := by decide +kernel
theorem dDesk_has_0 : decode nDesk_has.2.1 0 = .ok (.aload_n 0, 1) := by decide +kernel
theorem dDesk_has_1 : decode nDesk_has.2.1 1 = .ok (.getfield 10, 3) := by decide +kernel
theorem dDesk_has_4 : decode nDesk_has.2.1 4 = .ok (.iload_n 1, 1) := by decide +kernel
theorem dDesk_has_5 : decode nDesk_has.2.1 5 = .ok (.invokevirtual 63, 3) := by decide +kernel
theorem dDesk_has_8 : decode nDesk_has.2.1 8 = .ok (.ifCond .eq 14, 3) := by decide +kernel
theorem dDesk_has_11 : decode nDesk_has.2.1 11 = .ok (.aload_n 0, 1) := by decide +kernel
theorem dDesk_has_12 : decode nDesk_has.2.1 12 = .ok (.getfield 28, 3) := by decide +kernel
theorem dDesk_has_15 : decode nDesk_has.2.1 15 = .ok (.iload_n 1, 1) := by decide +kernel
theorem dDesk_has_16 : decode nDesk_has.2.1 16 = .ok (.invokevirtual 190, 3) := by decide +kernel
theorem dDesk_has_19 : decode nDesk_has.2.1 19 = .ok (.goto 5, 3) := by decide +kernel
theorem dDesk_has_22 : decode nDesk_has.2.1 22 = .ok (.ldc 61, 2) := by decide +kernel
theorem dDesk_has_24 : decode nDesk_has.2.1 24 = .ok (.ireturn, 1) := by decide +kernel
theorem dDesk_who_0 : decode nDesk_who.2.1 0 = .ok (.iload_n 1, 1) := by decide +kernel
theorem dDesk_who_1 : decode nDesk_who.2.1 1 = .ok (.invokestatic 67, 3) := by decide +kernel
theorem dDesk_who_4 : decode nDesk_who.2.1 4 = .ok (.ifCond .ne 6, 3) := by decide +kernel
theorem dDesk_who_7 : decode nDesk_who.2.1 7 = .ok (.ldc 61, 2) := by decide +kernel
theorem dDesk_who_9 : decode nDesk_who.2.1 9 = .ok (.ireturn, 1) := by decide +kernel
theorem dDesk_who_10 : decode nDesk_who.2.1 10 = .ok (.aload_n 0, 1) := by decide +kernel
theorem dDesk_who_11 : decode nDesk_who.2.1 11 = .ok (.getfield 28, 3) := by decide +kernel
theorem dDesk_who_14 : decode nDesk_who.2.1 14 = .ok (.invokevirtual 193, 3) := by decide +kernel
theorem dDesk_who_17 : decode nDesk_who.2.1 17 = .ok (.ifCond .eq 14, 3) := by decide +kernel
theorem dDesk_who_20 : decode nDesk_who.2.1 20 = .ok (.aload_n 0, 1) := by decide +kernel
theorem dDesk_who_21 : decode nDesk_who.2.1 21 = .ok (.getfield 28, 3) := by decide +kernel
theorem dDesk_who_24 : decode nDesk_who.2.1 24 = .ok (.iload_n 1, 1) := by decide +kernel
theorem dDesk_who_25 : decode nDesk_who.2.1 25 = .ok (.invokevirtual 196, 3) := by decide +kernel
theorem dDesk_who_28 : decode nDesk_who.2.1 28 = .ok (.goto 5, 3) := by decide +kernel
theorem dDesk_who_31 : decode nDesk_who.2.1 31 = .ok (.ldc 92, 2) := by decide +kernel
theorem dDesk_who_33 : decode nDesk_who.2.1 33 = .ok (.ireturn, 1) := by decide +kernel
theorem dDesk_done_0 : decode nDesk_done.2.1 0 = .ok (.iload_n 1, 1) := by decide +kernel
theorem dDesk_done_1 : decode nDesk_done.2.1 1 = .ok (.invokestatic 67, 3) := by decide +kernel
theorem dDesk_done_4 : decode nDesk_done.2.1 4 = .ok (.ifCond .ne 6, 3) := by decide +kernel
theorem dDesk_done_7 : decode nDesk_done.2.1 7 = .ok (.ldc 61, 2) := by decide +kernel
theorem dDesk_done_9 : decode nDesk_done.2.1 9 = .ok (.ireturn, 1) := by decide +kernel
theorem dDesk_done_10 : decode nDesk_done.2.1 10 = .ok (.aload_n 0, 1) := by decide +kernel
theorem dDesk_done_11 : decode nDesk_done.2.1 11 = .ok (.getfield 10, 3) := by decide +kernel
theorem dDesk_done_14 : decode nDesk_done.2.1 14 = .ok (.iload_n 1, 1) := by decide +kernel
theorem dDesk_done_15 : decode nDesk_done.2.1 15 = .ok (.invokevirtual 81, 3) := by decide +kernel
theorem dDesk_done_18 : decode nDesk_done.2.1 18 = .ok (.ifCond .ne 6, 3) := by decide +kernel
theorem dDesk_done_21 : decode nDesk_done.2.1 21 = .ok (.ldc 62, 2) := by decide +kernel
theorem dDesk_done_23 : decode nDesk_done.2.1 23 = .ok (.ireturn, 1) := by decide +kernel
theorem dDesk_done_24 : decode nDesk_done.2.1 24 = .ok (.aload_n 0, 1) := by decide +kernel
theorem dDesk_done_25 : decode nDesk_done.2.1 25 = .ok (.getfield 28, 3) := by decide +kernel
theorem dDesk_done_28 : decode nDesk_done.2.1 28 = .ok (.invokevirtual 193, 3) := by decide +kernel
theorem dDesk_done_31 : decode nDesk_done.2.1 31 = .ok (.ifCond .ne 6, 3) := by decide +kernel
theorem dDesk_done_34 : decode nDesk_done.2.1 34 = .ok (.ldc 92, 2) := by decide +kernel
theorem dDesk_done_36 : decode nDesk_done.2.1 36 = .ok (.ireturn, 1) := by decide +kernel
theorem dDesk_done_37 : decode nDesk_done.2.1 37 = .ok (.aload_n 0, 1) := by decide +kernel
theorem dDesk_done_38 : decode nDesk_done.2.1 38 = .ok (.getfield 28, 3) := by decide +kernel
theorem dDesk_done_41 : decode nDesk_done.2.1 41 = .ok (.iload_n 1, 1) := by decide +kernel
theorem dDesk_done_42 : decode nDesk_done.2.1 42 = .ok (.invokevirtual 199, 3) := by decide +kernel
theorem dDesk_done_45 : decode nDesk_done.2.1 45 = .ok (.ifCond .eq 7, 3) := by decide +kernel
theorem dDesk_done_48 : decode nDesk_done.2.1 48 = .ok (.iconst 1, 1) := by decide +kernel
theorem dDesk_done_49 : decode nDesk_done.2.1 49 = .ok (.goto 4, 3) := by decide +kernel
theorem dDesk_done_52 : decode nDesk_done.2.1 52 = .ok (.iconst 0, 1) := by decide +kernel
theorem dDesk_done_53 : decode nDesk_done.2.1 53 = .ok (.ireturn, 1) := by decide +kernel
theorem dDesk_hurt_0 : decode nDesk_hurt.2.1 0 = .ok (.aload_n 0, 1) := by decide +kernel
theorem dDesk_hurt_1 : decode nDesk_hurt.2.1 1 = .ok (.getfield 19, 3) := by decide +kernel
theorem dDesk_hurt_4 : decode nDesk_hurt.2.1 4 = .ok (.iload_n 1, 1) := by decide +kernel
theorem dDesk_hurt_5 : decode nDesk_hurt.2.1 5 = .ok (.invokevirtual 122, 3) := by decide +kernel
theorem dDesk_hurt_8 : decode nDesk_hurt.2.1 8 = .ok (.ifCond .eq 10, 3) := by decide +kernel
theorem dDesk_hurt_11 : decode nDesk_hurt.2.1 11 = .ok (.iload_n 2, 1) := by decide +kernel
theorem dDesk_hurt_12 : decode nDesk_hurt.2.1 12 = .ok (.invokestatic 67, 3) := by decide +kernel
theorem dDesk_hurt_15 : decode nDesk_hurt.2.1 15 = .ok (.ifCond .ne 6, 3) := by decide +kernel
theorem dDesk_hurt_18 : decode nDesk_hurt.2.1 18 = .ok (.ldc 61, 2) := by decide +kernel
theorem dDesk_hurt_20 : decode nDesk_hurt.2.1 20 = .ok (.ireturn, 1) := by decide +kernel
theorem dDesk_hurt_21 : decode nDesk_hurt.2.1 21 = .ok (.aload_n 0, 1) := by decide +kernel
theorem dDesk_hurt_22 : decode nDesk_hurt.2.1 22 = .ok (.getfield 28, 3) := by decide +kernel
theorem dDesk_hurt_25 : decode nDesk_hurt.2.1 25 = .ok (.invokevirtual 193, 3) := by decide +kernel
theorem dDesk_hurt_28 : decode nDesk_hurt.2.1 28 = .ok (.ifCond .ne 6, 3) := by decide +kernel
theorem dDesk_hurt_31 : decode nDesk_hurt.2.1 31 = .ok (.ldc 92, 2) := by decide +kernel
theorem dDesk_hurt_33 : decode nDesk_hurt.2.1 33 = .ok (.ireturn, 1) := by decide +kernel
theorem dDesk_hurt_34 : decode nDesk_hurt.2.1 34 = .ok (.aload_n 0, 1) := by decide +kernel
theorem dDesk_hurt_35 : decode nDesk_hurt.2.1 35 = .ok (.getfield 19, 3) := by decide +kernel
theorem dDesk_hurt_38 : decode nDesk_hurt.2.1 38 = .ok (.iload_n 1, 1) := by decide +kernel
theorem dDesk_hurt_39 : decode nDesk_hurt.2.1 39 = .ok (.iload_n 2, 1) := by decide +kernel
theorem dDesk_hurt_40 : decode nDesk_hurt.2.1 40 = .ok (.invokevirtual 179, 3) := by decide +kernel
theorem dDesk_hurt_43 : decode nDesk_hurt.2.1 43 = .ok (.aload_n 0, 1) := by decide +kernel
theorem dDesk_hurt_44 : decode nDesk_hurt.2.1 44 = .ok (.getfield 28, 3) := by decide +kernel
theorem dDesk_hurt_47 : decode nDesk_hurt.2.1 47 = .ok (.iload_n 1, 1) := by decide +kernel
theorem dDesk_hurt_48 : decode nDesk_hurt.2.1 48 = .ok (.iload_n 2, 1) := by decide +kernel
theorem dDesk_hurt_49 : decode nDesk_hurt.2.1 49 = .ok (.invokevirtual 202, 3) := by decide +kernel
theorem dDesk_hurt_52 : decode nDesk_hurt.2.1 52 = .ok (.ireturn, 1) := by decide +kernel
theorem dDesk_at_0 : decode nDesk_at.2.1 0 = .ok (.aload_n 0, 1) := by decide +kernel
theorem dDesk_at_1 : decode nDesk_at.2.1 1 = .ok (.getfield 10, 3) := by decide +kernel
theorem dDesk_at_4 : decode nDesk_at.2.1 4 = .ok (.iload_n 1, 1) := by decide +kernel
theorem dDesk_at_5 : decode nDesk_at.2.1 5 = .ok (.invokevirtual 63, 3) := by decide +kernel
theorem dDesk_at_8 : decode nDesk_at.2.1 8 = .ok (.ifCond .eq 10, 3) := by decide +kernel
theorem dDesk_at_11 : decode nDesk_at.2.1 11 = .ok (.iload_n 2, 1) := by decide +kernel
theorem dDesk_at_12 : decode nDesk_at.2.1 12 = .ok (.invokestatic 67, 3) := by decide +kernel
theorem dDesk_at_15 : decode nDesk_at.2.1 15 = .ok (.ifCond .ne 6, 3) := by decide +kernel
theorem dDesk_at_18 : decode nDesk_at.2.1 18 = .ok (.ldc 61, 2) := by decide +kernel
theorem dDesk_at_20 : decode nDesk_at.2.1 20 = .ok (.ireturn, 1) := by decide +kernel
theorem dDesk_at_21 : decode nDesk_at.2.1 21 = .ok (.aload_n 0, 1) := by decide +kernel
theorem dDesk_at_22 : decode nDesk_at.2.1 22 = .ok (.getfield 28, 3) := by decide +kernel
theorem dDesk_at_25 : decode nDesk_at.2.1 25 = .ok (.invokevirtual 193, 3) := by decide +kernel
theorem dDesk_at_28 : decode nDesk_at.2.1 28 = .ok (.ifCond .eq 15, 3) := by decide +kernel
theorem dDesk_at_31 : decode nDesk_at.2.1 31 = .ok (.aload_n 0, 1) := by decide +kernel
theorem dDesk_at_32 : decode nDesk_at.2.1 32 = .ok (.getfield 28, 3) := by decide +kernel
theorem dDesk_at_35 : decode nDesk_at.2.1 35 = .ok (.iload_n 1, 1) := by decide +kernel
theorem dDesk_at_36 : decode nDesk_at.2.1 36 = .ok (.iload_n 2, 1) := by decide +kernel
theorem dDesk_at_37 : decode nDesk_at.2.1 37 = .ok (.invokevirtual 205, 3) := by decide +kernel
theorem dDesk_at_40 : decode nDesk_at.2.1 40 = .ok (.goto 5, 3) := by decide +kernel
theorem dDesk_at_43 : decode nDesk_at.2.1 43 = .ok (.ldc 92, 2) := by decide +kernel
theorem dDesk_at_45 : decode nDesk_at.2.1 45 = .ok (.ireturn, 1) := by decide +kernel
theorem dDesk_plan_0 : decode nDesk_plan.2.1 0 = .ok (.aload_n 0, 1) := by decide +kernel
theorem dDesk_plan_1 : decode nDesk_plan.2.1 1 = .ok (.getfield 42, 3) := by decide +kernel
theorem dDesk_plan_4 : decode nDesk_plan.2.1 4 = .ok (.invokevirtual 208, 3) := by decide +kernel
theorem dDesk_plan_7 : decode nDesk_plan.2.1 7 = .ok (.ifCond .eq 13, 3) := by decide +kernel
theorem dDesk_plan_10 : decode nDesk_plan.2.1 10 = .ok (.aload_n 0, 1) := by decide +kernel
theorem dDesk_plan_11 : decode nDesk_plan.2.1 11 = .ok (.getfield 42, 3) := by decide +kernel
theorem dDesk_plan_14 : decode nDesk_plan.2.1 14 = .ok (.invokevirtual 211, 3) := by decide +kernel
theorem dDesk_plan_17 : decode nDesk_plan.2.1 17 = .ok (.goto 5, 3) := by decide +kernel
theorem dDesk_plan_20 : decode nDesk_plan.2.1 20 = .ok (.ldc 92, 2) := by decide +kernel
theorem dDesk_plan_22 : decode nDesk_plan.2.1 22 = .ok (.ireturn, 1) := by decide +kernel
theorem dDesk_putIn_0 : decode nDesk_putIn.2.1 0 = .ok (.aload_n 0, 1) := by decide +kernel
theorem dDesk_putIn_1 : decode nDesk_putIn.2.1 1 = .ok (.getfield 19, 3) := by decide +kernel
theorem dDesk_putIn_4 : decode nDesk_putIn.2.1 4 = .ok (.iload_n 1, 1) := by decide +kernel
theorem dDesk_putIn_5 : decode nDesk_putIn.2.1 5 = .ok (.invokevirtual 122, 3) := by decide +kernel
theorem dDesk_putIn_8 : decode nDesk_putIn.2.1 8 = .ok (.ifCond .ne 6, 3) := by decide +kernel
theorem dDesk_putIn_11 : decode nDesk_putIn.2.1 11 = .ok (.ldc 61, 2) := by decide +kernel
theorem dDesk_putIn_13 : decode nDesk_putIn.2.1 13 = .ok (.ireturn, 1) := by decide +kernel
theorem dDesk_putIn_14 : decode nDesk_putIn.2.1 14 = .ok (.aload_n 0, 1) := by decide +kernel
theorem dDesk_putIn_15 : decode nDesk_putIn.2.1 15 = .ok (.getfield 42, 3) := by decide +kernel
theorem dDesk_putIn_18 : decode nDesk_putIn.2.1 18 = .ok (.invokevirtual 208, 3) := by decide +kernel
theorem dDesk_putIn_21 : decode nDesk_putIn.2.1 21 = .ok (.ifCond .eq 14, 3) := by decide +kernel
theorem dDesk_putIn_24 : decode nDesk_putIn.2.1 24 = .ok (.aload_n 0, 1) := by decide +kernel
theorem dDesk_putIn_25 : decode nDesk_putIn.2.1 25 = .ok (.getfield 42, 3) := by decide +kernel
theorem dDesk_putIn_28 : decode nDesk_putIn.2.1 28 = .ok (.iload_n 1, 1) := by decide +kernel
theorem dDesk_putIn_29 : decode nDesk_putIn.2.1 29 = .ok (.invokevirtual 214, 3) := by decide +kernel
theorem dDesk_putIn_32 : decode nDesk_putIn.2.1 32 = .ok (.goto 5, 3) := by decide +kernel
theorem dDesk_putIn_35 : decode nDesk_putIn.2.1 35 = .ok (.ldc 92, 2) := by decide +kernel
theorem dDesk_putIn_37 : decode nDesk_putIn.2.1 37 = .ok (.ireturn, 1) := by decide +kernel
theorem dDesk_sheet_0 : decode nDesk_sheet.2.1 0 = .ok (.aload_n 0, 1) := by decide +kernel
theorem dDesk_sheet_1 : decode nDesk_sheet.2.1 1 = .ok (.iload_n 1, 1) := by decide +kernel
theorem dDesk_sheet_2 : decode nDesk_sheet.2.1 2 = .ok (.invokevirtual 93, 3) := by decide +kernel
theorem dDesk_sheet_5 : decode nDesk_sheet.2.1 5 = .ok (.astore_n 3, 1) := by decide +kernel
theorem dDesk_sheet_6 : decode nDesk_sheet.2.1 6 = .ok (.aload_n 3, 1) := by decide +kernel
theorem dDesk_sheet_7 : decode nDesk_sheet.2.1 7 = .ok (.ifnull 9, 3) := by decide +kernel
theorem dDesk_sheet_10 : decode nDesk_sheet.2.1 10 = .ok (.iload_n 2, 1) := by decide +kernel
theorem dDesk_sheet_11 : decode nDesk_sheet.2.1 11 = .ok (.bipush 30, 2) := by decide +kernel
theorem dDesk_sheet_13 : decode nDesk_sheet.2.1 13 = .ok (.if_icmp .le 6, 3) := by decide +kernel
theorem dDesk_sheet_16 : decode nDesk_sheet.2.1 16 = .ok (.ldc 61, 2) := by decide +kernel
theorem dDesk_sheet_18 : decode nDesk_sheet.2.1 18 = .ok (.ireturn, 1) := by decide +kernel
theorem dDesk_sheet_19 : decode nDesk_sheet.2.1 19 = .ok (.iload_n 2, 1) := by decide +kernel
theorem dDesk_sheet_20 : decode nDesk_sheet.2.1 20 = .ok (.ifCond .ge 6, 3) := by decide +kernel
theorem dDesk_sheet_23 : decode nDesk_sheet.2.1 23 = .ok (.ldc 217, 2) := by decide +kernel
theorem dDesk_sheet_25 : decode nDesk_sheet.2.1 25 = .ok (.ireturn, 1) := by decide +kernel
theorem dDesk_sheet_26 : decode nDesk_sheet.2.1 26 = .ok (.aload_n 3, 1) := by decide +kernel
theorem dDesk_sheet_27 : decode nDesk_sheet.2.1 27 = .ok (.iload_n 2, 1) := by decide +kernel
theorem dDesk_sheet_28 : decode nDesk_sheet.2.1 28 = .ok (.invokevirtual 218, 3) := by decide +kernel
theorem dDesk_sheet_31 : decode nDesk_sheet.2.1 31 = .ok (.iload_n 2, 1) := by decide +kernel
theorem dDesk_sheet_32 : decode nDesk_sheet.2.1 32 = .ok (.ireturn, 1) := by decide +kernel
theorem dDesk_mark_0 : decode nDesk_mark.2.1 0 = .ok (.aload_n 0, 1) := by decide +kernel
theorem dDesk_mark_1 : decode nDesk_mark.2.1 1 = .ok (.iload_n 1, 1) := by decide +kernel
theorem dDesk_mark_2 : decode nDesk_mark.2.1 2 = .ok (.invokevirtual 93, 3) := by decide +kernel
theorem dDesk_mark_5 : decode nDesk_mark.2.1 5 = .ok (.astore 4, 2) := by decide +kernel
theorem dDesk_mark_7 : decode nDesk_mark.2.1 7 = .ok (.aload 4, 2) := by decide +kernel
theorem dDesk_mark_9 : decode nDesk_mark.2.1 9 = .ok (.ifnonnull 6, 3) := by decide +kernel
theorem dDesk_mark_12 : decode nDesk_mark.2.1 12 = .ok (.ldc 61, 2) := by decide +kernel
theorem dDesk_mark_14 : decode nDesk_mark.2.1 14 = .ok (.ireturn, 1) := by decide +kernel
theorem dDesk_mark_15 : decode nDesk_mark.2.1 15 = .ok (.aload 4, 2) := by decide +kernel
theorem dDesk_mark_17 : decode nDesk_mark.2.1 17 = .ok (.invokevirtual 97, 3) := by decide +kernel
theorem dDesk_mark_20 : decode nDesk_mark.2.1 20 = .ok (.ifCond .eq 6, 3) := by decide +kernel
theorem dDesk_mark_23 : decode nDesk_mark.2.1 23 = .ok (.ldc 101, 2) := by decide +kernel
theorem dDesk_mark_25 : decode nDesk_mark.2.1 25 = .ok (.ireturn, 1) := by decide +kernel
theorem dDesk_mark_26 : decode nDesk_mark.2.1 26 = .ok (.aload 4, 2) := by decide +kernel
theorem dDesk_mark_28 : decode nDesk_mark.2.1 28 = .ok (.iload_n 2, 1) := by decide +kernel
theorem dDesk_mark_29 : decode nDesk_mark.2.1 29 = .ok (.iconst 1, 1) := by decide +kernel
theorem dDesk_mark_30 : decode nDesk_mark.2.1 30 = .ok (.invokevirtual 220, 3) := by decide +kernel
theorem dDesk_mark_33 : decode nDesk_mark.2.1 33 = .ok (.ifCond .ne 6, 3) := by decide +kernel
theorem dDesk_mark_36 : decode nDesk_mark.2.1 36 = .ok (.ldc 106, 2) := by decide +kernel
theorem dDesk_mark_38 : decode nDesk_mark.2.1 38 = .ok (.ireturn, 1) := by decide +kernel
theorem dDesk_mark_39 : decode nDesk_mark.2.1 39 = .ok (.aload 4, 2) := by decide +kernel
theorem dDesk_mark_41 : decode nDesk_mark.2.1 41 = .ok (.iload_n 2, 1) := by decide +kernel
theorem dDesk_mark_42 : decode nDesk_mark.2.1 42 = .ok (.invokevirtual 107, 3) := by decide +kernel
theorem dDesk_mark_45 : decode nDesk_mark.2.1 45 = .ok (.istore 5, 2) := by decide +kernel
theorem dDesk_mark_47 : decode nDesk_mark.2.1 47 = .ok (.aload 4, 2) := by decide +kernel
theorem dDesk_mark_49 : decode nDesk_mark.2.1 49 = .ok (.iload_n 2, 1) := by decide +kernel
theorem dDesk_mark_50 : decode nDesk_mark.2.1 50 = .ok (.iload_n 3, 1) := by decide +kernel
theorem dDesk_mark_51 : decode nDesk_mark.2.1 51 = .ok (.i2b, 1) := by decide +kernel
theorem dDesk_mark_52 : decode nDesk_mark.2.1 52 = .ok (.invokevirtual 223, 3) := by decide +kernel
theorem dDesk_mark_55 : decode nDesk_mark.2.1 55 = .ok (.iload 5, 2) := by decide +kernel
theorem dDesk_mark_57 : decode nDesk_mark.2.1 57 = .ok (.ireturn, 1) := by decide +kernel
theorem dDesk_copy_0 : decode nDesk_copy.2.1 0 = .ok (.aload_n 0, 1) := by decide +kernel
theorem dDesk_copy_1 : decode nDesk_copy.2.1 1 = .ok (.iload_n 1, 1) := by decide +kernel
theorem dDesk_copy_2 : decode nDesk_copy.2.1 2 = .ok (.invokevirtual 93, 3) := by decide +kernel
theorem dDesk_copy_5 : decode nDesk_copy.2.1 5 = .ok (.astore 6, 2) := by decide +kernel
theorem dDesk_copy_7 : decode nDesk_copy.2.1 7 = .ok (.aload_n 0, 1) := by decide +kernel
theorem dDesk_copy_8 : decode nDesk_copy.2.1 8 = .ok (.iload_n 3, 1) := by decide +kernel
theorem dDesk_copy_9 : decode nDesk_copy.2.1 9 = .ok (.invokevirtual 93, 3) := by decide +kernel
theorem dDesk_copy_12 : decode nDesk_copy.2.1 12 = .ok (.astore 7, 2) := by decide +kernel
theorem dDesk_copy_14 : decode nDesk_copy.2.1 14 = .ok (.aload 6, 2) := by decide +kernel
theorem dDesk_copy_16 : decode nDesk_copy.2.1 16 = .ok (.ifnull 8, 3) := by decide +kernel
theorem dDesk_copy_19 : decode nDesk_copy.2.1 19 = .ok (.aload 7, 2) := by decide +kernel
theorem dDesk_copy_21 : decode nDesk_copy.2.1 21 = .ok (.ifnonnull 6, 3) := by decide +kernel
theorem dDesk_copy_24 : decode nDesk_copy.2.1 24 = .ok (.ldc 61, 2) := by decide +kernel
theorem dDesk_copy_26 : decode nDesk_copy.2.1 26 = .ok (.ireturn, 1) := by decide +kernel
theorem dDesk_copy_27 : decode nDesk_copy.2.1 27 = .ok (.aload 6, 2) := by decide +kernel
theorem dDesk_copy_29 : decode nDesk_copy.2.1 29 = .ok (.invokevirtual 97, 3) := by decide +kernel
theorem dDesk_copy_32 : decode nDesk_copy.2.1 32 = .ok (.ifCond .ne 11, 3) := by decide +kernel
theorem dDesk_copy_35 : decode nDesk_copy.2.1 35 = .ok (.aload 7, 2) := by decide +kernel
theorem dDesk_copy_37 : decode nDesk_copy.2.1 37 = .ok (.invokevirtual 97, 3) := by decide +kernel
theorem dDesk_copy_40 : decode nDesk_copy.2.1 40 = .ok (.ifCond .eq 6, 3) := by decide +kernel
theorem dDesk_copy_43 : decode nDesk_copy.2.1 43 = .ok (.ldc 101, 2) := by decide +kernel
theorem dDesk_copy_45 : decode nDesk_copy.2.1 45 = .ok (.ireturn, 1) := by decide +kernel
theorem dDesk_copy_46 : decode nDesk_copy.2.1 46 = .ok (.aload 6, 2) := by decide +kernel
theorem dDesk_copy_48 : decode nDesk_copy.2.1 48 = .ok (.iload_n 2, 1) := by decide +kernel
theorem dDesk_copy_49 : decode nDesk_copy.2.1 49 = .ok (.iload 5, 2) := by decide +kernel
theorem dDesk_copy_51 : decode nDesk_copy.2.1 51 = .ok (.invokevirtual 220, 3) := by decide +kernel
theorem dDesk_copy_54 : decode nDesk_copy.2.1 54 = .ok (.ifCond .eq 15, 3) := by decide +kernel
theorem dDesk_copy_57 : decode nDesk_copy.2.1 57 = .ok (.aload 7, 2) := by decide +kernel
theorem dDesk_copy_59 : decode nDesk_copy.2.1 59 = .ok (.iload 4, 2) := by decide +kernel
theorem dDesk_copy_61 : decode nDesk_copy.2.1 61 = .ok (.iload 5, 2) := by decide +kernel
theorem dDesk_copy_63 : decode nDesk_copy.2.1 63 = .ok (.invokevirtual 220, 3) := by decide +kernel
theorem dDesk_copy_66 : decode nDesk_copy.2.1 66 = .ok (.ifCond .ne 6, 3) := by decide +kernel
theorem dDesk_copy_69 : decode nDesk_copy.2.1 69 = .ok (.ldc 106, 2) := by decide +kernel
theorem dDesk_copy_71 : decode nDesk_copy.2.1 71 = .ok (.ireturn, 1) := by decide +kernel
theorem dDesk_copy_72 : decode nDesk_copy.2.1 72 = .ok (.aload 7, 2) := by decide +kernel
theorem dDesk_copy_74 : decode nDesk_copy.2.1 74 = .ok (.aload 6, 2) := by decide +kernel
theorem dDesk_copy_76 : decode nDesk_copy.2.1 76 = .ok (.iload_n 2, 1) := by decide +kernel
theorem dDesk_copy_77 : decode nDesk_copy.2.1 77 = .ok (.iload 4, 2) := by decide +kernel
theorem dDesk_copy_79 : decode nDesk_copy.2.1 79 = .ok (.iload 5, 2) := by decide +kernel
theorem dDesk_copy_81 : decode nDesk_copy.2.1 81 = .ok (.invokevirtual 227, 3) := by decide +kernel
theorem dDesk_copy_84 : decode nDesk_copy.2.1 84 = .ok (.iload 5, 2) := by decide +kernel
theorem dDesk_copy_86 : decode nDesk_copy.2.1 86 = .ok (.ireturn, 1) := by decide +kernel
theorem dDesk_count_0 : decode nDesk_count.2.1 0 = .ok (.iload_n 1, 1) := by decide +kernel
theorem dDesk_count_1 : decode nDesk_count.2.1 1 = .ok (.tableswitch 111 0 7 #[47, 55, 63, 71, 79, 87, 95, 103], 47) := by decide +kernel
theorem dDesk_count_48 : decode nDesk_count.2.1 48 = .ok (.aload_n 0, 1) := by decide +kernel
theorem dDesk_count_49 : decode nDesk_count.2.1 49 = .ok (.getfield 10, 3) := by decide +kernel
theorem dDesk_count_52 : decode nDesk_count.2.1 52 = .ok (.invokevirtual 231, 3) := by decide +kernel
theorem dDesk_count_55 : decode nDesk_count.2.1 55 = .ok (.ireturn, 1) := by decide +kernel
theorem dDesk_count_56 : decode nDesk_count.2.1 56 = .ok (.aload_n 0, 1) := by decide +kernel
theorem dDesk_count_57 : decode nDesk_count.2.1 57 = .ok (.getfield 19, 3) := by decide +kernel
theorem dDesk_count_60 : decode nDesk_count.2.1 60 = .ok (.invokevirtual 234, 3) := by decide +kernel
theorem dDesk_count_63 : decode nDesk_count.2.1 63 = .ok (.ireturn, 1) := by decide +kernel
theorem dDesk_count_64 : decode nDesk_count.2.1 64 = .ok (.aload_n 0, 1) := by decide +kernel
theorem dDesk_count_65 : decode nDesk_count.2.1 65 = .ok (.getfield 10, 3) := by decide +kernel
theorem dDesk_count_68 : decode nDesk_count.2.1 68 = .ok (.invokevirtual 237, 3) := by decide +kernel
theorem dDesk_count_71 : decode nDesk_count.2.1 71 = .ok (.ireturn, 1) := by decide +kernel
theorem dDesk_count_72 : decode nDesk_count.2.1 72 = .ok (.aload_n 0, 1) := by decide +kernel
theorem dDesk_count_73 : decode nDesk_count.2.1 73 = .ok (.getfield 19, 3) := by decide +kernel
theorem dDesk_count_76 : decode nDesk_count.2.1 76 = .ok (.invokevirtual 166, 3) := by decide +kernel
theorem dDesk_count_79 : decode nDesk_count.2.1 79 = .ok (.ireturn, 1) := by decide +kernel
theorem dDesk_count_80 : decode nDesk_count.2.1 80 = .ok (.aload_n 0, 1) := by decide +kernel
theorem dDesk_count_81 : decode nDesk_count.2.1 81 = .ok (.getfield 19, 3) := by decide +kernel
theorem dDesk_count_84 : decode nDesk_count.2.1 84 = .ok (.invokevirtual 240, 3) := by decide +kernel
theorem dDesk_count_87 : decode nDesk_count.2.1 87 = .ok (.ireturn, 1) := by decide +kernel
theorem dDesk_count_88 : decode nDesk_count.2.1 88 = .ok (.aload_n 0, 1) := by decide +kernel
theorem dDesk_count_89 : decode nDesk_count.2.1 89 = .ok (.getfield 19, 3) := by decide +kernel
theorem dDesk_count_92 : decode nDesk_count.2.1 92 = .ok (.invokevirtual 243, 3) := by decide +kernel
theorem dDesk_count_95 : decode nDesk_count.2.1 95 = .ok (.ireturn, 1) := by decide +kernel
theorem dDesk_count_96 : decode nDesk_count.2.1 96 = .ok (.aload_n 0, 1) := by decide +kernel
theorem dDesk_count_97 : decode nDesk_count.2.1 97 = .ok (.getfield 19, 3) := by decide +kernel
theorem dDesk_count_100 : decode nDesk_count.2.1 100 = .ok (.invokevirtual 246, 3) := by decide +kernel
theorem dDesk_count_103 : decode nDesk_count.2.1 103 = .ok (.ireturn, 1) := by decide +kernel
theorem dDesk_count_104 : decode nDesk_count.2.1 104 = .ok (.aload_n 0, 1) := by decide +kernel
theorem dDesk_count_105 : decode nDesk_count.2.1 105 = .ok (.getfield 19, 3) := by decide +kernel
theorem dDesk_count_108 : decode nDesk_count.2.1 108 = .ok (.invokevirtual 249, 3) := by decide +kernel
theorem dDesk_count_111 : decode nDesk_count.2.1 111 = .ok (.ireturn, 1) := by decide +kernel
theorem dDesk_count_112 : decode nDesk_count.2.1 112 = .ok (.ldc 61, 2) := by decide +kernel
theorem dDesk_count_114 : decode nDesk_count.2.1 114 = .ok (.ireturn, 1) := by decide +kernel
theorem dDesk_sheetOf_0 : decode nDesk_sheetOf.2.1 0 = .ok (.iload_n 1, 1) := by decide +kernel
theorem dDesk_sheetOf_1 : decode nDesk_sheetOf.2.1 1 = .ok (.iconst 0, 1) := by decide +kernel
theorem dDesk_sheetOf_2 : decode nDesk_sheetOf.2.1 2 = .ok (.iconst 1, 1) := by decide +kernel
theorem dDesk_sheetOf_3 : decode nDesk_sheetOf.2.1 3 = .ok (.invokestatic 53, 3) := by decide +kernel
theorem dDesk_sheetOf_6 : decode nDesk_sheetOf.2.1 6 = .ok (.ifCond .eq 12, 3) := by decide +kernel
theorem dDesk_sheetOf_9 : decode nDesk_sheetOf.2.1 9 = .ok (.aload_n 0, 1) := by decide +kernel
theorem dDesk_sheetOf_10 : decode nDesk_sheetOf.2.1 10 = .ok (.getfield 48, 3) := by decide +kernel
theorem dDesk_sheetOf_13 : decode nDesk_sheetOf.2.1 13 = .ok (.iload_n 1, 1) := by decide +kernel
theorem dDesk_sheetOf_14 : decode nDesk_sheetOf.2.1 14 = .ok (.aaload, 1) := by decide +kernel
theorem dDesk_sheetOf_15 : decode nDesk_sheetOf.2.1 15 = .ok (.goto 4, 3) := by decide +kernel
theorem dDesk_sheetOf_18 : decode nDesk_sheetOf.2.1 18 = .ok (.aconst_null, 1) := by decide +kernel
theorem dDesk_sheetOf_19 : decode nDesk_sheetOf.2.1 19 = .ok (.areturn, 1) := by decide +kernel
theorem dDesk_isWithin_0 : decode nDesk_isWithin.2.1 0 = .ok (.iload_n 0, 1) := by decide +kernel
theorem dDesk_isWithin_1 : decode nDesk_isWithin.2.1 1 = .ok (.iload_n 1, 1) := by decide +kernel
theorem dDesk_isWithin_2 : decode nDesk_isWithin.2.1 2 = .ok (.if_icmp .lt 12, 3) := by decide +kernel
theorem dDesk_isWithin_5 : decode nDesk_isWithin.2.1 5 = .ok (.iload_n 0, 1) := by decide +kernel
theorem dDesk_isWithin_6 : decode nDesk_isWithin.2.1 6 = .ok (.iload_n 2, 1) := by decide +kernel
theorem dDesk_isWithin_7 : decode nDesk_isWithin.2.1 7 = .ok (.if_icmp .gt 7, 3) := by decide +kernel
theorem dDesk_isWithin_10 : decode nDesk_isWithin.2.1 10 = .ok (.iconst 1, 1) := by decide +kernel
theorem dDesk_isWithin_11 : decode nDesk_isWithin.2.1 11 = .ok (.goto 4, 3) := by decide +kernel
theorem dDesk_isWithin_14 : decode nDesk_isWithin.2.1 14 = .ok (.iconst 0, 1) := by decide +kernel
theorem dDesk_isWithin_15 : decode nDesk_isWithin.2.1 15 = .ok (.ireturn, 1) := by decide +kernel
theorem dDesk_isCue_0 : decode nDesk_isCue.2.1 0 = .ok (.iload_n 0, 1) := by decide +kernel
theorem dDesk_isCue_1 : decode nDesk_isCue.2.1 1 = .ok (.ifCond .lt 13, 3) := by decide +kernel
theorem dDesk_isCue_4 : decode nDesk_isCue.2.1 4 = .ok (.iload_n 0, 1) := by decide +kernel
theorem dDesk_isCue_5 : decode nDesk_isCue.2.1 5 = .ok (.bipush 30, 2) := by decide +kernel
theorem dDesk_isCue_7 : decode nDesk_isCue.2.1 7 = .ok (.if_icmp .ge 7, 3) := by decide +kernel
theorem dDesk_isCue_10 : decode nDesk_isCue.2.1 10 = .ok (.iconst 1, 1) := by decide +kernel
theorem dDesk_isCue_11 : decode nDesk_isCue.2.1 11 = .ok (.goto 4, 3) := by decide +kernel
theorem dDesk_isCue_14 : decode nDesk_isCue.2.1 14 = .ok (.iconst 0, 1) := by decide +kernel
theorem dDesk_isCue_15 : decode nDesk_isCue.2.1 15 = .ok (.ireturn, 1) := by decide +kernel
theorem dDesk_isFlag_0 : decode nDesk_isFlag.2.1 0 = .ok (.iload_n 0, 1) := by decide +kernel
theorem dDesk_isFlag_1 : decode nDesk_isFlag.2.1 1 = .ok (.iconst 0, 1) := by decide +kernel
theorem dDesk_isFlag_2 : decode nDesk_isFlag.2.1 2 = .ok (.iconst 1, 1) := by decide +kernel
theorem dDesk_isFlag_3 : decode nDesk_isFlag.2.1 3 = .ok (.invokestatic 53, 3) := by decide +kernel
theorem dDesk_isFlag_6 : decode nDesk_isFlag.2.1 6 = .ok (.ireturn, 1) := by decide +kernel
theorem dDesk_isKind_0 : decode nDesk_isKind.2.1 0 = .ok (.iload_n 0, 1) := by decide +kernel
theorem dDesk_isKind_1 : decode nDesk_isKind.2.1 1 = .ok (.iconst 0, 1) := by decide +kernel
theorem dDesk_isKind_2 : decode nDesk_isKind.2.1 2 = .ok (.iconst 3, 1) := by decide +kernel
theorem dDesk_isKind_3 : decode nDesk_isKind.2.1 3 = .ok (.invokestatic 53, 3) := by decide +kernel
theorem dDesk_isKind_6 : decode nDesk_isKind.2.1 6 = .ok (.ireturn, 1) := by decide +kernel
theorem dModel_init_0 : decode nModel_init.2.1 0 = .ok (.aload_n 0, 1) := by decide +kernel
theorem dModel_init_1 : decode nModel_init.2.1 1 = .ok (.invokespecial 1, 3) := by decide +kernel
theorem dModel_init_4 : decode nModel_init.2.1 4 = .ok (.aload_n 0, 1) := by decide +kernel
theorem dModel_init_5 : decode nModel_init.2.1 5 = .ok (.bipush 8, 2) := by decide +kernel
theorem dModel_init_7 : decode nModel_init.2.1 7 = .ok (.newarray .int, 2) := by decide +kernel
theorem dModel_init_9 : decode nModel_init.2.1 9 = .ok (.putfield 7, 3) := by decide +kernel
theorem dModel_init_12 : decode nModel_init.2.1 12 = .ok (.aload_n 0, 1) := by decide +kernel
theorem dModel_init_13 : decode nModel_init.2.1 13 = .ok (.sipush 240, 3) := by decide +kernel
theorem dModel_init_16 : decode nModel_init.2.1 16 = .ok (.newarray .int, 2) := by decide +kernel
theorem dModel_init_18 : decode nModel_init.2.1 18 = .ok (.putfield 13, 3) := by decide +kernel
theorem dModel_init_21 : decode nModel_init.2.1 21 = .ok (.aload_n 0, 1) := by decide +kernel
theorem dModel_init_22 : decode nModel_init.2.1 22 = .ok (.sipush 240, 3) := by decide +kernel
theorem dModel_init_25 : decode nModel_init.2.1 25 = .ok (.newarray .int, 2) := by decide +kernel
theorem dModel_init_27 : decode nModel_init.2.1 27 = .ok (.putfield 16, 3) := by decide +kernel
theorem dModel_init_30 : decode nModel_init.2.1 30 = .ok (.aload_n 0, 1) := by decide +kernel
theorem dModel_init_31 : decode nModel_init.2.1 31 = .ok (.bipush 30, 2) := by decide +kernel
theorem dModel_init_33 : decode nModel_init.2.1 33 = .ok (.newarray .int, 2) := by decide +kernel
theorem dModel_init_35 : decode nModel_init.2.1 35 = .ok (.putfield 19, 3) := by decide +kernel
theorem dModel_init_38 : decode nModel_init.2.1 38 = .ok (.aload_n 0, 1) := by decide +kernel
theorem dModel_init_39 : decode nModel_init.2.1 39 = .ok (.bipush 30, 2) := by decide +kernel
theorem dModel_init_41 : decode nModel_init.2.1 41 = .ok (.newarray .int, 2) := by decide +kernel
theorem dModel_init_43 : decode nModel_init.2.1 43 = .ok (.putfield 22, 3) := by decide +kernel
theorem dModel_init_46 : decode nModel_init.2.1 46 = .ok (.aload_n 0, 1) := by decide +kernel
theorem dModel_init_47 : decode nModel_init.2.1 47 = .ok (.bipush 10, 2) := by decide +kernel
theorem dModel_init_49 : decode nModel_init.2.1 49 = .ok (.newarray .int, 2) := by decide +kernel
theorem dModel_init_51 : decode nModel_init.2.1 51 = .ok (.putfield 25, 3) := by decide +kernel
theorem dModel_init_54 : decode nModel_init.2.1 54 = .ok (.aload_n 0, 1) := by decide +kernel
theorem dModel_init_55 : decode nModel_init.2.1 55 = .ok (.bipush 10, 2) := by decide +kernel
theorem dModel_init_57 : decode nModel_init.2.1 57 = .ok (.newarray .int, 2) := by decide +kernel
theorem dModel_init_59 : decode nModel_init.2.1 59 = .ok (.putfield 28, 3) := by decide +kernel
theorem dModel_init_62 : decode nModel_init.2.1 62 = .ok (.aload_n 0, 1) := by decide +kernel
theorem dModel_init_63 : decode nModel_init.2.1 63 = .ok (.bipush 10, 2) := by decide +kernel
theorem dModel_init_65 : decode nModel_init.2.1 65 = .ok (.newarray .int, 2) := by decide +kernel
theorem dModel_init_67 : decode nModel_init.2.1 67 = .ok (.putfield 31, 3) := by decide +kernel
theorem dModel_init_70 : decode nModel_init.2.1 70 = .ok (.aload_n 0, 1) := by decide +kernel
theorem dModel_init_71 : decode nModel_init.2.1 71 = .ok (.bipush 80, 2) := by decide +kernel
theorem dModel_init_73 : decode nModel_init.2.1 73 = .ok (.newarray .int, 2) := by decide +kernel
theorem dModel_init_75 : decode nModel_init.2.1 75 = .ok (.putfield 34, 3) := by decide +kernel
theorem dModel_init_78 : decode nModel_init.2.1 78 = .ok (.aload_n 0, 1) := by decide +kernel
theorem dModel_init_79 : decode nModel_init.2.1 79 = .ok (.bipush 100, 2) := by decide +kernel
theorem dModel_init_81 : decode nModel_init.2.1 81 = .ok (.newarray .int, 2) := by decide +kernel
theorem dModel_init_83 : decode nModel_init.2.1 83 = .ok (.putfield 37, 3) := by decide +kernel
theorem dModel_init_86 : decode nModel_init.2.1 86 = .ok (.aload_n 0, 1) := by decide +kernel
theorem dModel_init_87 : decode nModel_init.2.1 87 = .ok (.bipush 10, 2) := by decide +kernel
theorem dModel_init_89 : decode nModel_init.2.1 89 = .ok (.newarray .int, 2) := by decide +kernel
theorem dModel_init_91 : decode nModel_init.2.1 91 = .ok (.putfield 40, 3) := by decide +kernel
theorem dModel_init_94 : decode nModel_init.2.1 94 = .ok (.aload_n 0, 1) := by decide +kernel
theorem dModel_init_95 : decode nModel_init.2.1 95 = .ok (.bipush 10, 2) := by decide +kernel
theorem dModel_init_97 : decode nModel_init.2.1 97 = .ok (.newarray .int, 2) := by decide +kernel
theorem dModel_init_99 : decode nModel_init.2.1 99 = .ok (.putfield 43, 3) := by decide +kernel
theorem dModel_init_102 : decode nModel_init.2.1 102 = .ok (.aload_n 0, 1) := by decide +kernel
theorem dModel_init_103 : decode nModel_init.2.1 103 = .ok (.bipush 8, 2) := by decide +kernel
theorem dModel_init_105 : decode nModel_init.2.1 105 = .ok (.newarray .int, 2) := by decide +kernel
theorem dModel_init_107 : decode nModel_init.2.1 107 = .ok (.putfield 46, 3) := by decide +kernel
theorem dModel_init_110 : decode nModel_init.2.1 110 = .ok (.aload_n 0, 1) := by decide +kernel
theorem dModel_init_111 : decode nModel_init.2.1 111 = .ok (.sipush 240, 3) := by decide +kernel
theorem dModel_init_114 : decode nModel_init.2.1 114 = .ok (.newarray .int, 2) := by decide +kernel
theorem dModel_init_116 : decode nModel_init.2.1 116 = .ok (.putfield 49, 3) := by decide +kernel
theorem dModel_init_119 : decode nModel_init.2.1 119 = .ok (.aload_n 0, 1) := by decide +kernel
theorem dModel_init_120 : decode nModel_init.2.1 120 = .ok (.iconst 2, 1) := by decide +kernel
theorem dModel_init_121 : decode nModel_init.2.1 121 = .ok (.newarray .int, 2) := by decide +kernel
theorem dModel_init_123 : decode nModel_init.2.1 123 = .ok (.putfield 52, 3) := by decide +kernel
theorem dModel_init_126 : decode nModel_init.2.1 126 = .ok (.aload_n 0, 1) := by decide +kernel
theorem dModel_init_127 : decode nModel_init.2.1 127 = .ok (.bipush 60, 2) := by decide +kernel
theorem dModel_init_129 : decode nModel_init.2.1 129 = .ok (.newarray .int, 2) := by decide +kernel
theorem dModel_init_131 : decode nModel_init.2.1 131 = .ok (.putfield 55, 3) := by decide +kernel
theorem dModel_init_134 : decode nModel_init.2.1 134 = .ok (.aload_n 0, 1) := by decide +kernel
theorem dModel_init_135 : decode nModel_init.2.1 135 = .ok (.bipush 8, 2) := by decide +kernel
theorem dModel_init_137 : decode nModel_init.2.1 137 = .ok (.newarray .int, 2) := by decide +kernel
theorem dModel_init_139 : decode nModel_init.2.1 139 = .ok (.putfield 58, 3) := by decide +kernel
theorem dModel_init_142 : decode nModel_init.2.1 142 = .ok (.aload_n 0, 1) := by decide +kernel
theorem dModel_init_143 : decode nModel_init.2.1 143 = .ok (.bipush 8, 2) := by decide +kernel
theorem dModel_init_145 : decode nModel_init.2.1 145 = .ok (.newarray .int, 2) := by decide +kernel
theorem dModel_init_147 : decode nModel_init.2.1 147 = .ok (.putfield 61, 3) := by decide +kernel
theorem dModel_init_150 : decode nModel_init.2.1 150 = .ok (.aload_n 0, 1) := by decide +kernel
theorem dModel_init_151 : decode nModel_init.2.1 151 = .ok (.ldc 64, 2) := by decide +kernel
theorem dModel_init_153 : decode nModel_init.2.1 153 = .ok (.newarray .int, 2) := by decide +kernel
theorem dModel_init_155 : decode nModel_init.2.1 155 = .ok (.putfield 65, 3) := by decide +kernel
theorem dModel_init_158 : decode nModel_init.2.1 158 = .ok (.aload_n 0, 1) := by decide +kernel
theorem dModel_init_159 : decode nModel_init.2.1 159 = .ok (.bipush 9, 2) := by decide +kernel
theorem dModel_init_161 : decode nModel_init.2.1 161 = .ok (.newarray .int, 2) := by decide +kernel
theorem dModel_init_163 : decode nModel_init.2.1 163 = .ok (.putfield 68, 3) := by decide +kernel
theorem dModel_init_166 : decode nModel_init.2.1 166 = .ok (.aload_n 0, 1) := by decide +kernel
theorem dModel_init_167 : decode nModel_init.2.1 167 = .ok (.bipush 30, 2) := by decide +kernel
theorem dModel_init_169 : decode nModel_init.2.1 169 = .ok (.newarray .int, 2) := by decide +kernel
theorem dModel_init_171 : decode nModel_init.2.1 171 = .ok (.putfield 71, 3) := by decide +kernel
theorem dModel_init_174 : decode nModel_init.2.1 174 = .ok (.iconst 0, 1) := by decide +kernel
theorem dModel_init_175 : decode nModel_init.2.1 175 = .ok (.istore_n 1, 1) := by decide +kernel
theorem dModel_init_176 : decode nModel_init.2.1 176 = .ok (.iload_n 1, 1) := by decide +kernel
theorem dModel_init_177 : decode nModel_init.2.1 177 = .ok (.sipush 240, 3) := by decide +kernel
theorem dModel_init_180 : decode nModel_init.2.1 180 = .ok (.if_icmp .ge 23, 3) := by decide +kernel
theorem dModel_init_183 : decode nModel_init.2.1 183 = .ok (.aload_n 0, 1) := by decide +kernel
theorem dModel_init_184 : decode nModel_init.2.1 184 = .ok (.getfield 13, 3) := by decide +kernel
theorem dModel_init_187 : decode nModel_init.2.1 187 = .ok (.iload_n 1, 1) := by decide +kernel
theorem dModel_init_188 : decode nModel_init.2.1 188 = .ok (.iconst (-1), 1) := by decide +kernel
theorem dModel_init_189 : decode nModel_init.2.1 189 = .ok (.iastore, 1) := by decide +kernel
theorem dModel_init_190 : decode nModel_init.2.1 190 = .ok (.aload_n 0, 1) := by decide +kernel
theorem dModel_init_191 : decode nModel_init.2.1 191 = .ok (.getfield 49, 3) := by decide +kernel
theorem dModel_init_194 : decode nModel_init.2.1 194 = .ok (.iload_n 1, 1) := by decide +kernel
theorem dModel_init_195 : decode nModel_init.2.1 195 = .ok (.iconst (-1), 1) := by decide +kernel
theorem dModel_init_196 : decode nModel_init.2.1 196 = .ok (.iastore, 1) := by decide +kernel
theorem dModel_init_197 : decode nModel_init.2.1 197 = .ok (.iinc 1 1, 3) := by decide +kernel
theorem dModel_init_200 : decode nModel_init.2.1 200 = .ok (.goto (-24), 3) := by decide +kernel
theorem dModel_init_203 : decode nModel_init.2.1 203 = .ok (.iconst 0, 1) := by decide +kernel
theorem dModel_init_204 : decode nModel_init.2.1 204 = .ok (.istore_n 1, 1) := by decide +kernel
theorem dModel_init_205 : decode nModel_init.2.1 205 = .ok (.iload_n 1, 1) := by decide +kernel
theorem dModel_init_206 : decode nModel_init.2.1 206 = .ok (.bipush 30, 2) := by decide +kernel
theorem dModel_init_208 : decode nModel_init.2.1 208 = .ok (.if_icmp .ge 16, 3) := by decide +kernel
theorem dModel_init_211 : decode nModel_init.2.1 211 = .ok (.aload_n 0, 1) := by decide +kernel
theorem dModel_init_212 : decode nModel_init.2.1 212 = .ok (.getfield 19, 3) := by decide +kernel
theorem dModel_init_215 : decode nModel_init.2.1 215 = .ok (.iload_n 1, 1) := by decide +kernel
theorem dModel_init_216 : decode nModel_init.2.1 216 = .ok (.iconst (-1), 1) := by decide +kernel
theorem dModel_init_217 : decode nModel_init.2.1 217 = .ok (.iastore, 1) := by decide +kernel
theorem dModel_init_218 : decode nModel_init.2.1 218 = .ok (.iinc 1 1, 3) := by decide +kernel
theorem dModel_init_221 : decode nModel_init.2.1 221 = .ok (.goto (-16), 3) := by decide +kernel
theorem dModel_init_224 : decode nModel_init.2.1 224 = .ok (.iconst 0, 1) := by decide +kernel
theorem dModel_init_225 : decode nModel_init.2.1 225 = .ok (.istore_n 1, 1) := by decide +kernel
theorem dModel_init_226 : decode nModel_init.2.1 226 = .ok (.iload_n 1, 1) := by decide +kernel
theorem dModel_init_227 : decode nModel_init.2.1 227 = .ok (.bipush 100, 2) := by decide +kernel
theorem dModel_init_229 : decode nModel_init.2.1 229 = .ok (.if_icmp .ge 16, 3) := by decide +kernel
theorem dModel_init_232 : decode nModel_init.2.1 232 = .ok (.aload_n 0, 1) := by decide +kernel
theorem dModel_init_233 : decode nModel_init.2.1 233 = .ok (.getfield 37, 3) := by decide +kernel
theorem dModel_init_236 : decode nModel_init.2.1 236 = .ok (.iload_n 1, 1) := by decide +kernel
theorem dModel_init_237 : decode nModel_init.2.1 237 = .ok (.iconst (-1), 1) := by decide +kernel
theorem dModel_init_238 : decode nModel_init.2.1 238 = .ok (.iastore, 1) := by decide +kernel
theorem dModel_init_239 : decode nModel_init.2.1 239 = .ok (.iinc 1 1, 3) := by decide +kernel
theorem dModel_init_242 : decode nModel_init.2.1 242 = .ok (.goto (-16), 3) := by decide +kernel
theorem dModel_init_245 : decode nModel_init.2.1 245 = .ok (.iconst 0, 1) := by decide +kernel
theorem dModel_init_246 : decode nModel_init.2.1 246 = .ok (.istore_n 1, 1) := by decide +kernel
theorem dModel_init_247 : decode nModel_init.2.1 247 = .ok (.iload_n 1, 1) := by decide +kernel
theorem dModel_init_248 : decode nModel_init.2.1 248 = .ok (.bipush 80, 2) := by decide +kernel
theorem dModel_init_250 : decode nModel_init.2.1 250 = .ok (.if_icmp .ge 16, 3) := by decide +kernel
theorem dModel_init_253 : decode nModel_init.2.1 253 = .ok (.aload_n 0, 1) := by decide +kernel
theorem dModel_init_254 : decode nModel_init.2.1 254 = .ok (.getfield 34, 3) := by decide +kernel
theorem dModel_init_257 : decode nModel_init.2.1 257 = .ok (.iload_n 1, 1) := by decide +kernel
theorem dModel_init_258 : decode nModel_init.2.1 258 = .ok (.iconst (-1), 1) := by decide +kernel
theorem dModel_init_259 : decode nModel_init.2.1 259 = .ok (.iastore, 1) := by decide +kernel
theorem dModel_init_260 : decode nModel_init.2.1 260 = .ok (.iinc 1 1, 3) := by decide +kernel
theorem dModel_init_263 : decode nModel_init.2.1 263 = .ok (.goto (-16), 3) := by decide +kernel
theorem dModel_init_266 : decode nModel_init.2.1 266 = .ok (.iconst 0, 1) := by decide +kernel
theorem dModel_init_267 : decode nModel_init.2.1 267 = .ok (.istore_n 1, 1) := by decide +kernel
theorem dModel_init_268 : decode nModel_init.2.1 268 = .ok (.iload_n 1, 1) := by decide +kernel
theorem dModel_init_269 : decode nModel_init.2.1 269 = .ok (.bipush 8, 2) := by decide +kernel
theorem dModel_init_271 : decode nModel_init.2.1 271 = .ok (.if_icmp .ge 16, 3) := by decide +kernel
theorem dModel_init_274 : decode nModel_init.2.1 274 = .ok (.aload_n 0, 1) := by decide +kernel
theorem dModel_init_275 : decode nModel_init.2.1 275 = .ok (.getfield 46, 3) := by decide +kernel
theorem dModel_init_278 : decode nModel_init.2.1 278 = .ok (.iload_n 1, 1) := by decide +kernel
theorem dModel_init_279 : decode nModel_init.2.1 279 = .ok (.iconst (-1), 1) := by decide +kernel
theorem dModel_init_280 : decode nModel_init.2.1 280 = .ok (.iastore, 1) := by decide +kernel
theorem dModel_init_281 : decode nModel_init.2.1 281 = .ok (.iinc 1 1, 3) := by decide +kernel
theorem dModel_init_284 : decode nModel_init.2.1 284 = .ok (.goto (-16), 3) := by decide +kernel
theorem dModel_init_287 : decode nModel_init.2.1 287 = .ok (.aload_n 0, 1) := by decide +kernel
theorem dModel_init_288 : decode nModel_init.2.1 288 = .ok (.getfield 52, 3) := by decide +kernel
theorem dModel_init_291 : decode nModel_init.2.1 291 = .ok (.iconst 0, 1) := by decide +kernel
theorem dModel_init_292 : decode nModel_init.2.1 292 = .ok (.iconst (-1), 1) := by decide +kernel
theorem dModel_init_293 : decode nModel_init.2.1 293 = .ok (.iastore, 1) := by decide +kernel
theorem dModel_init_294 : decode nModel_init.2.1 294 = .ok (.aload_n 0, 1) := by decide +kernel
theorem dModel_init_295 : decode nModel_init.2.1 295 = .ok (.getfield 52, 3) := by decide +kernel
theorem dModel_init_298 : decode nModel_init.2.1 298 = .ok (.iconst 1, 1) := by decide +kernel
theorem dModel_init_299 : decode nModel_init.2.1 299 = .ok (.iconst (-1), 1) := by decide +kernel
theorem dModel_init_300 : decode nModel_init.2.1 300 = .ok (.iastore, 1) := by decide +kernel
theorem dModel_init_301 : decode nModel_init.2.1 301 = .ok (.return_, 1) := by decide +kernel
theorem dModel_isIn_0 : decode nModel_isIn.2.1 0 = .ok (.iload_n 0, 1) := by decide +kernel
theorem dModel_isIn_1 : decode nModel_isIn.2.1 1 = .ok (.iload_n 1, 1) := by decide +kernel
theorem dModel_isIn_2 : decode nModel_isIn.2.1 2 = .ok (.if_icmp .lt 12, 3) := by decide +kernel
theorem dModel_isIn_5 : decode nModel_isIn.2.1 5 = .ok (.iload_n 0, 1) := by decide +kernel
theorem dModel_isIn_6 : decode nModel_isIn.2.1 6 = .ok (.iload_n 2, 1) := by decide +kernel
theorem dModel_isIn_7 : decode nModel_isIn.2.1 7 = .ok (.if_icmp .gt 7, 3) := by decide +kernel
theorem dModel_isIn_10 : decode nModel_isIn.2.1 10 = .ok (.iconst 1, 1) := by decide +kernel
theorem dModel_isIn_11 : decode nModel_isIn.2.1 11 = .ok (.goto 4, 3) := by decide +kernel
theorem dModel_isIn_14 : decode nModel_isIn.2.1 14 = .ok (.iconst 0, 1) := by decide +kernel
theorem dModel_isIn_15 : decode nModel_isIn.2.1 15 = .ok (.ireturn, 1) := by decide +kernel
theorem dModel_isTrack_0 : decode nModel_isTrack.2.1 0 = .ok (.iload_n 1, 1) := by decide +kernel
theorem dModel_isTrack_1 : decode nModel_isTrack.2.1 1 = .ok (.iconst 0, 1) := by decide +kernel
theorem dModel_isTrack_2 : decode nModel_isTrack.2.1 2 = .ok (.aload_n 0, 1) := by decide +kernel
theorem dModel_isTrack_3 : decode nModel_isTrack.2.1 3 = .ok (.getfield 74, 3) := by decide +kernel
theorem dModel_isTrack_6 : decode nModel_isTrack.2.1 6 = .ok (.iconst 1, 1) := by decide +kernel
theorem dModel_isTrack_7 : decode nModel_isTrack.2.1 7 = .ok (.isub, 1) := by decide +kernel
theorem dModel_isTrack_8 : decode nModel_isTrack.2.1 8 = .ok (.invokestatic 78, 3) := by decide +kernel
theorem dModel_isTrack_11 : decode nModel_isTrack.2.1 11 = .ok (.ireturn, 1) := by decide +kernel
theorem dModel_isPerson_0 : decode nModel_isPerson.2.1 0 = .ok (.iload_n 1, 1) := by decide +kernel
theorem dModel_isPerson_1 : decode nModel_isPerson.2.1 1 = .ok (.iconst 0, 1) := by decide +kernel
theorem dModel_isPerson_2 : decode nModel_isPerson.2.1 2 = .ok (.aload_n 0, 1) := by decide +kernel
theorem dModel_isPerson_3 : decode nModel_isPerson.2.1 3 = .ok (.getfield 82, 3) := by decide +kernel
theorem dModel_isPerson_6 : decode nModel_isPerson.2.1 6 = .ok (.iconst 1, 1) := by decide +kernel
theorem dModel_isPerson_7 : decode nModel_isPerson.2.1 7 = .ok (.isub, 1) := by decide +kernel
theorem dModel_isPerson_8 : decode nModel_isPerson.2.1 8 = .ok (.invokestatic 78, 3) := by decide +kernel
theorem dModel_isPerson_11 : decode nModel_isPerson.2.1 11 = .ok (.ireturn, 1) := by decide +kernel
theorem dModel_isCue_0 : decode nModel_isCue.2.1 0 = .ok (.iload_n 0, 1) := by decide +kernel
theorem dModel_isCue_1 : decode nModel_isCue.2.1 1 = .ok (.iconst 0, 1) := by decide +kernel
theorem dModel_isCue_2 : decode nModel_isCue.2.1 2 = .ok (.bipush 29, 2) := by decide +kernel
theorem dModel_isCue_4 : decode nModel_isCue.2.1 4 = .ok (.invokestatic 78, 3) := by decide +kernel
theorem dModel_isCue_7 : decode nModel_isCue.2.1 7 = .ok (.ireturn, 1) := by decide +kernel
theorem dModel_far_0 : decode nModel_far.2.1 0 = .ok (.iload_n 0, 1) := by decide +kernel
theorem dModel_far_1 : decode nModel_far.2.1 1 = .ok (.iload_n 1, 1) := by decide +kernel
theorem dModel_far_2 : decode nModel_far.2.1 2 = .ok (.if_icmp .ge 9, 3) := by decide +kernel
theorem dModel_far_5 : decode nModel_far.2.1 5 = .ok (.iload_n 1, 1) := by decide +kernel
theorem dModel_far_6 : decode nModel_far.2.1 6 = .ok (.iload_n 0, 1) := by decide +kernel
theorem dModel_far_7 : decode nModel_far.2.1 7 = .ok (.isub, 1) := by decide +kernel
theorem dModel_far_8 : decode nModel_far.2.1 8 = .ok (.goto 6, 3) := by decide +kernel
theorem dModel_far_11 : decode nModel_far.2.1 11 = .ok (.iload_n 0, 1) := by decide +kernel
theorem dModel_far_12 : decode nModel_far.2.1 12 = .ok (.iload_n 1, 1) := by decide +kernel
theorem dModel_far_13 : decode nModel_far.2.1 13 = .ok (.isub, 1) := by decide +kernel
theorem dModel_far_14 : decode nModel_far.2.1 14 = .ok (.ireturn, 1) := by decide +kernel
theorem dModel_track_0 : decode nModel_track.2.1 0 = .ok (.iload_n 1, 1) := by decide +kernel
theorem dModel_track_1 : decode nModel_track.2.1 1 = .ok (.iconst 1, 1) := by decide +kernel
theorem dModel_track_2 : decode nModel_track.2.1 2 = .ok (.bipush 9, 2) := by decide +kernel
theorem dModel_track_4 : decode nModel_track.2.1 4 = .ok (.invokestatic 78, 3) := by decide +kernel
theorem dModel_track_7 : decode nModel_track.2.1 7 = .ok (.ifCond .ne 6, 3) := by decide +kernel
theorem dModel_track_10 : decode nModel_track.2.1 10 = .ok (.ldc 85, 2) := by decide +kernel
theorem dModel_track_12 : decode nModel_track.2.1 12 = .ok (.ireturn, 1) := by decide +kernel
theorem dModel_track_13 : decode nModel_track.2.1 13 = .ok (.aload_n 0, 1) := by decide +kernel
theorem dModel_track_14 : decode nModel_track.2.1 14 = .ok (.getfield 74, 3) := by decide +kernel
theorem dModel_track_17 : decode nModel_track.2.1 17 = .ok (.bipush 8, 2) := by decide +kernel
theorem dModel_track_19 : decode nModel_track.2.1 19 = .ok (.if_icmp .ne 6, 3) := by decide +kernel
theorem dModel_track_22 : decode nModel_track.2.1 22 = .ok (.ldc 86, 2) := by decide +kernel
theorem dModel_track_24 : decode nModel_track.2.1 24 = .ok (.ireturn, 1) := by decide +kernel
theorem dModel_track_25 : decode nModel_track.2.1 25 = .ok (.aload_n 0, 1) := by decide +kernel
theorem dModel_track_26 : decode nModel_track.2.1 26 = .ok (.getfield 7, 3) := by decide +kernel
theorem dModel_track_29 : decode nModel_track.2.1 29 = .ok (.aload_n 0, 1) := by decide +kernel
theorem dModel_track_30 : decode nModel_track.2.1 30 = .ok (.getfield 74, 3) := by decide +kernel
theorem dModel_track_33 : decode nModel_track.2.1 33 = .ok (.iload_n 1, 1) := by decide +kernel
theorem dModel_track_34 : decode nModel_track.2.1 34 = .ok (.iastore, 1) := by decide +kernel
theorem dModel_track_35 : decode nModel_track.2.1 35 = .ok (.aload_n 0, 1) := by decide +kernel
theorem dModel_track_36 : decode nModel_track.2.1 36 = .ok (.dup, 1) := by decide +kernel
theorem dModel_track_37 : decode nModel_track.2.1 37 = .ok (.getfield 74, 3) := by decide +kernel
theorem dModel_track_40 : decode nModel_track.2.1 40 = .ok (.iconst 1, 1) := by decide +kernel
theorem dModel_track_41 : decode nModel_track.2.1 41 = .ok (.iadd, 1) := by decide +kernel
theorem dModel_track_42 : decode nModel_track.2.1 42 = .ok (.putfield 74, 3) := by decide +kernel
theorem dModel_track_45 : decode nModel_track.2.1 45 = .ok (.aload_n 0, 1) := by decide +kernel
theorem dModel_track_46 : decode nModel_track.2.1 46 = .ok (.getfield 74, 3) := by decide +kernel
theorem dModel_track_49 : decode nModel_track.2.1 49 = .ok (.iconst 1, 1) := by decide +kernel
theorem dModel_track_50 : decode nModel_track.2.1 50 = .ok (.isub, 1) := by decide +kernel
theorem dModel_track_51 : decode nModel_track.2.1 51 = .ok (.ireturn, 1) := by decide +kernel
theorem dModel_is_0 : decode nModel_is.2.1 0 = .ok (.aload_n 0, 1) := by decide +kernel
theorem dModel_is_1 : decode nModel_is.2.1 1 = .ok (.getfield 13, 3) := by decide +kernel
theorem dModel_is_4 : decode nModel_is.2.1 4 = .ok (.bipush 30, 2) := by decide +kernel
theorem dModel_is_6 : decode nModel_is.2.1 6 = .ok (.iload_n 1, 1) := by decide +kernel
theorem dModel_is_7 : decode nModel_is.2.1 7 = .ok (.imul, 1) := by decide +kernel
theorem dModel_is_8 : decode nModel_is.2.1 8 = .ok (.iload_n 2, 1) := by decide +kernel
theorem dModel_is_9 : decode nModel_is.2.1 9 = .ok (.iadd, 1) := by decide +kernel
theorem dModel_is_10 : decode nModel_is.2.1 10 = .ok (.iaload, 1) := by decide +kernel
theorem dModel_is_11 : decode nModel_is.2.1 11 = .ok (.ifCond .lt 7, 3) := by decide +kernel
theorem dModel_is_14 : decode nModel_is.2.1 14 = .ok (.iconst 1, 1) := by decide +kernel
theorem dModel_is_15 : decode nModel_is.2.1 15 = .ok (.goto 4, 3) := by decide +kernel
theorem dModel_is_18 : decode nModel_is.2.1 18 = .ok (.iconst 0, 1) := by decide +kernel
theorem dModel_is_19 : decode nModel_is.2.1 19 = .ok (.ireturn, 1) := by decide +kernel
theorem dModel_put_0 : decode nModel_put.2.1 0 = .ok (.aload_n 0, 1) := by decide +kernel
theorem dModel_put_1 : decode nModel_put.2.1 1 = .ok (.getfield 13, 3) := by decide +kernel
theorem dModel_put_4 : decode nModel_put.2.1 4 = .ok (.bipush 30, 2) := by decide +kernel
theorem dModel_put_6 : decode nModel_put.2.1 6 = .ok (.iload_n 1, 1) := by decide +kernel
theorem dModel_put_7 : decode nModel_put.2.1 7 = .ok (.imul, 1) := by decide +kernel
theorem dModel_put_8 : decode nModel_put.2.1 8 = .ok (.iload_n 2, 1) := by decide +kernel
theorem dModel_put_9 : decode nModel_put.2.1 9 = .ok (.iadd, 1) := by decide +kernel
theorem dModel_put_10 : decode nModel_put.2.1 10 = .ok (.iload_n 3, 1) := by decide +kernel
theorem dModel_put_11 : decode nModel_put.2.1 11 = .ok (.iastore, 1) := by decide +kernel
theorem dModel_put_12 : decode nModel_put.2.1 12 = .ok (.aload_n 0, 1) := by decide +kernel
theorem dModel_put_13 : decode nModel_put.2.1 13 = .ok (.getfield 16, 3) := by decide +kernel
theorem dModel_put_16 : decode nModel_put.2.1 16 = .ok (.bipush 30, 2) := by decide +kernel
theorem dModel_put_18 : decode nModel_put.2.1 18 = .ok (.iload_n 1, 1) := by decide +kernel
theorem dModel_put_19 : decode nModel_put.2.1 19 = .ok (.imul, 1) := by decide +kernel
theorem dModel_put_20 : decode nModel_put.2.1 20 = .ok (.iload_n 2, 1) := by decide +kernel
theorem dModel_put_21 : decode nModel_put.2.1 21 = .ok (.iadd, 1) := by decide +kernel
theorem dModel_put_22 : decode nModel_put.2.1 22 = .ok (.iload_n 3, 1) := by decide +kernel
theorem dModel_put_23 : decode nModel_put.2.1 23 = .ok (.ifCond .ge 7, 3) := by decide +kernel
theorem dModel_put_26 : decode nModel_put.2.1 26 = .ok (.iconst 0, 1) := by decide +kernel
theorem dModel_put_27 : decode nModel_put.2.1 27 = .ok (.goto 5, 3) := by decide +kernel
theorem dModel_put_30 : decode nModel_put.2.1 30 = .ok (.iload 4, 2) := by decide +kernel
theorem dModel_put_32 : decode nModel_put.2.1 32 = .ok (.iastore, 1) := by decide +kernel
theorem dModel_put_33 : decode nModel_put.2.1 33 = .ok (.aload_n 0, 1) := by decide +kernel
theorem dModel_put_34 : decode nModel_put.2.1 34 = .ok (.getfield 19, 3) := by decide +kernel
theorem dModel_put_37 : decode nModel_put.2.1 37 = .ok (.iload_n 2, 1) := by decide +kernel
theorem dModel_put_38 : decode nModel_put.2.1 38 = .ok (.iaload, 1) := by decide +kernel
theorem dModel_put_39 : decode nModel_put.2.1 39 = .ok (.iload_n 1, 1) := by decide +kernel
theorem dModel_put_40 : decode nModel_put.2.1 40 = .ok (.if_icmp .eq 22, 3) := by decide +kernel
theorem dModel_put_43 : decode nModel_put.2.1 43 = .ok (.aload_n 0, 1) := by decide +kernel
theorem dModel_put_44 : decode nModel_put.2.1 44 = .ok (.getfield 19, 3) := by decide +kernel
theorem dModel_put_47 : decode nModel_put.2.1 47 = .ok (.iload_n 2, 1) := by decide +kernel
theorem dModel_put_48 : decode nModel_put.2.1 48 = .ok (.iaload, 1) := by decide +kernel
theorem dModel_put_49 : decode nModel_put.2.1 49 = .ok (.ifCond .lt 20, 3) := by decide +kernel
theorem dModel_put_52 : decode nModel_put.2.1 52 = .ok (.aload_n 0, 1) := by decide +kernel
theorem dModel_put_53 : decode nModel_put.2.1 53 = .ok (.getfield 22, 3) := by decide +kernel
theorem dModel_put_56 : decode nModel_put.2.1 56 = .ok (.iload_n 2, 1) := by decide +kernel
theorem dModel_put_57 : decode nModel_put.2.1 57 = .ok (.iaload, 1) := by decide +kernel
theorem dModel_put_58 : decode nModel_put.2.1 58 = .ok (.iload_n 1, 1) := by decide +kernel
theorem dModel_put_59 : decode nModel_put.2.1 59 = .ok (.if_icmp .ne 10, 3) := by decide +kernel
theorem dModel_put_62 : decode nModel_put.2.1 62 = .ok (.aload_n 0, 1) := by decide +kernel
theorem dModel_put_63 : decode nModel_put.2.1 63 = .ok (.getfield 19, 3) := by decide +kernel
theorem dModel_put_66 : decode nModel_put.2.1 66 = .ok (.iload_n 2, 1) := by decide +kernel
theorem dModel_put_67 : decode nModel_put.2.1 67 = .ok (.iconst (-1), 1) := by decide +kernel
theorem dModel_put_68 : decode nModel_put.2.1 68 = .ok (.iastore, 1) := by decide +kernel
theorem dModel_put_69 : decode nModel_put.2.1 69 = .ok (.return_, 1) := by decide +kernel
theorem dModel_in_0 : decode nModel_in.2.1 0 = .ok (.aload_n 0, 1) := by decide +kernel
theorem dModel_in_1 : decode nModel_in.2.1 1 = .ok (.iload_n 1, 1) := by decide +kernel
theorem dModel_in_2 : decode nModel_in.2.1 2 = .ok (.invokevirtual 87, 3) := by decide +kernel
theorem dModel_in_5 : decode nModel_in.2.1 5 = .ok (.ifCond .eq 36, 3) := by decide +kernel
theorem dModel_in_8 : decode nModel_in.2.1 8 = .ok (.iload_n 2, 1) := by decide +kernel
theorem dModel_in_9 : decode nModel_in.2.1 9 = .ok (.invokestatic 91, 3) := by decide +kernel
theorem dModel_in_12 : decode nModel_in.2.1 12 = .ok (.ifCond .eq 29, 3) := by decide +kernel
theorem dModel_in_15 : decode nModel_in.2.1 15 = .ok (.iload_n 3, 1) := by decide +kernel
theorem dModel_in_16 : decode nModel_in.2.1 16 = .ok (.ldc 94, 2) := by decide +kernel
theorem dModel_in_18 : decode nModel_in.2.1 18 = .ok (.if_icmp .eq 13, 3) := by decide +kernel
theorem dModel_in_21 : decode nModel_in.2.1 21 = .ok (.iload_n 3, 1) := by decide +kernel
theorem dModel_in_22 : decode nModel_in.2.1 22 = .ok (.iconst 0, 1) := by decide +kernel
theorem dModel_in_23 : decode nModel_in.2.1 23 = .ok (.bipush 9, 2) := by decide +kernel
theorem dModel_in_25 : decode nModel_in.2.1 25 = .ok (.invokestatic 78, 3) := by decide +kernel
theorem dModel_in_28 : decode nModel_in.2.1 28 = .ok (.ifCond .eq 13, 3) := by decide +kernel
theorem dModel_in_31 : decode nModel_in.2.1 31 = .ok (.iload 4, 2) := by decide +kernel
theorem dModel_in_33 : decode nModel_in.2.1 33 = .ok (.iconst 0, 1) := by decide +kernel
theorem dModel_in_34 : decode nModel_in.2.1 34 = .ok (.iconst 1, 1) := by decide +kernel
theorem dModel_in_35 : decode nModel_in.2.1 35 = .ok (.invokestatic 78, 3) := by decide +kernel
theorem dModel_in_38 : decode nModel_in.2.1 38 = .ok (.ifCond .ne 6, 3) := by decide +kernel
theorem dModel_in_41 : decode nModel_in.2.1 41 = .ok (.ldc 85, 2) := by decide +kernel
theorem dModel_in_43 : decode nModel_in.2.1 43 = .ok (.ireturn, 1) := by decide +kernel
theorem dModel_in_44 : decode nModel_in.2.1 44 = .ok (.aload_n 0, 1) := by decide +kernel
theorem dModel_in_45 : decode nModel_in.2.1 45 = .ok (.getfield 13, 3) := by decide +kernel
theorem dModel_in_48 : decode nModel_in.2.1 48 = .ok (.bipush 30, 2) := by decide +kernel
theorem dModel_in_50 : decode nModel_in.2.1 50 = .ok (.iload_n 1, 1) := by decide +kernel
theorem dModel_in_51 : decode nModel_in.2.1 51 = .ok (.imul, 1) := by decide +kernel
theorem dModel_in_52 : decode nModel_in.2.1 52 = .ok (.iload_n 2, 1) := by decide +kernel
theorem dModel_in_53 : decode nModel_in.2.1 53 = .ok (.iadd, 1) := by decide +kernel
theorem dModel_in_54 : decode nModel_in.2.1 54 = .ok (.iaload, 1) := by decide +kernel
theorem dModel_in_55 : decode nModel_in.2.1 55 = .ok (.istore 5, 2) := by decide +kernel
theorem dModel_in_57 : decode nModel_in.2.1 57 = .ok (.aload_n 0, 1) := by decide +kernel
theorem dModel_in_58 : decode nModel_in.2.1 58 = .ok (.iload_n 1, 1) := by decide +kernel
theorem dModel_in_59 : decode nModel_in.2.1 59 = .ok (.iload_n 2, 1) := by decide +kernel
theorem dModel_in_60 : decode nModel_in.2.1 60 = .ok (.iload_n 3, 1) := by decide +kernel
theorem dModel_in_61 : decode nModel_in.2.1 61 = .ok (.ldc 94, 2) := by decide +kernel
theorem dModel_in_63 : decode nModel_in.2.1 63 = .ok (.if_icmp .ne 7, 3) := by decide +kernel
theorem dModel_in_66 : decode nModel_in.2.1 66 = .ok (.iconst (-1), 1) := by decide +kernel
theorem dModel_in_67 : decode nModel_in.2.1 67 = .ok (.goto 4, 3) := by decide +kernel
theorem dModel_in_70 : decode nModel_in.2.1 70 = .ok (.iload_n 3, 1) := by decide +kernel
theorem dModel_in_71 : decode nModel_in.2.1 71 = .ok (.iload 4, 2) := by decide +kernel
theorem dModel_in_73 : decode nModel_in.2.1 73 = .ok (.invokevirtual 95, 3) := by decide +kernel
theorem dModel_in_76 : decode nModel_in.2.1 76 = .ok (.iload 5, 2) := by decide +kernel
theorem dModel_in_78 : decode nModel_in.2.1 78 = .ok (.ifCond .ge 8, 3) := by decide +kernel
theorem dModel_in_81 : decode nModel_in.2.1 81 = .ok (.ldc 94, 2) := by decide +kernel
theorem dModel_in_83 : decode nModel_in.2.1 83 = .ok (.goto 5, 3) := by decide +kernel
theorem dModel_in_86 : decode nModel_in.2.1 86 = .ok (.iload 5, 2) := by decide +kernel
theorem dModel_in_88 : decode nModel_in.2.1 88 = .ok (.ireturn, 1) := by decide +kernel
theorem dModel_lift_0 : decode nModel_lift.2.1 0 = .ok (.iload_n 1, 1) := by decide +kernel
theorem dModel_lift_1 : decode nModel_lift.2.1 1 = .ok (.invokestatic 91, 3) := by decide +kernel
theorem dModel_lift_4 : decode nModel_lift.2.1 4 = .ok (.ifCond .eq 30, 3) := by decide +kernel
theorem dModel_lift_7 : decode nModel_lift.2.1 7 = .ok (.iload_n 2, 1) := by decide +kernel
theorem dModel_lift_8 : decode nModel_lift.2.1 8 = .ok (.ldc 94, 2) := by decide +kernel
theorem dModel_lift_10 : decode nModel_lift.2.1 10 = .ok (.if_icmp .eq 27, 3) := by decide +kernel
theorem dModel_lift_13 : decode nModel_lift.2.1 13 = .ok (.aload_n 0, 1) := by decide +kernel
theorem dModel_lift_14 : decode nModel_lift.2.1 14 = .ok (.iload_n 2, 1) := by decide +kernel
theorem dModel_lift_15 : decode nModel_lift.2.1 15 = .ok (.invokevirtual 87, 3) := by decide +kernel
theorem dModel_lift_18 : decode nModel_lift.2.1 18 = .ok (.ifCond .eq 16, 3) := by decide +kernel
theorem dModel_lift_21 : decode nModel_lift.2.1 21 = .ok (.aload_n 0, 1) := by decide +kernel
theorem dModel_lift_22 : decode nModel_lift.2.1 22 = .ok (.iload_n 3, 1) := by decide +kernel
theorem dModel_lift_23 : decode nModel_lift.2.1 23 = .ok (.invokevirtual 87, 3) := by decide +kernel
theorem dModel_lift_26 : decode nModel_lift.2.1 26 = .ok (.ifCond .eq 8, 3) := by decide +kernel
theorem dModel_lift_29 : decode nModel_lift.2.1 29 = .ok (.iload_n 2, 1) := by decide +kernel
theorem dModel_lift_30 : decode nModel_lift.2.1 30 = .ok (.iload_n 3, 1) := by decide +kernel
theorem dModel_lift_31 : decode nModel_lift.2.1 31 = .ok (.if_icmp .ne 6, 3) := by decide +kernel
theorem dModel_lift_34 : decode nModel_lift.2.1 34 = .ok (.ldc 85, 2) := by decide +kernel
theorem dModel_lift_36 : decode nModel_lift.2.1 36 = .ok (.ireturn, 1) := by decide +kernel
theorem dModel_lift_37 : decode nModel_lift.2.1 37 = .ok (.iload_n 2, 1) := by decide +kernel
theorem dModel_lift_38 : decode nModel_lift.2.1 38 = .ok (.ldc 94, 2) := by decide +kernel
theorem dModel_lift_40 : decode nModel_lift.2.1 40 = .ok (.if_icmp .eq 24, 3) := by decide +kernel
theorem dModel_lift_43 : decode nModel_lift.2.1 43 = .ok (.aload_n 0, 1) := by decide +kernel
theorem dModel_lift_44 : decode nModel_lift.2.1 44 = .ok (.iload_n 2, 1) := by decide +kernel
theorem dModel_lift_45 : decode nModel_lift.2.1 45 = .ok (.iload_n 1, 1) := by decide +kernel
theorem dModel_lift_46 : decode nModel_lift.2.1 46 = .ok (.invokevirtual 99, 3) := by decide +kernel
theorem dModel_lift_49 : decode nModel_lift.2.1 49 = .ok (.ifCond .eq 12, 3) := by decide +kernel
theorem dModel_lift_52 : decode nModel_lift.2.1 52 = .ok (.aload_n 0, 1) := by decide +kernel
theorem dModel_lift_53 : decode nModel_lift.2.1 53 = .ok (.iload_n 3, 1) := by decide +kernel
theorem dModel_lift_54 : decode nModel_lift.2.1 54 = .ok (.iload_n 1, 1) := by decide +kernel
theorem dModel_lift_55 : decode nModel_lift.2.1 55 = .ok (.invokevirtual 99, 3) := by decide +kernel
theorem dModel_lift_58 : decode nModel_lift.2.1 58 = .ok (.ifCond .ne 6, 3) := by decide +kernel
theorem dModel_lift_61 : decode nModel_lift.2.1 61 = .ok (.ldc 103, 2) := by decide +kernel
theorem dModel_lift_63 : decode nModel_lift.2.1 63 = .ok (.ireturn, 1) := by decide +kernel
theorem dModel_lift_64 : decode nModel_lift.2.1 64 = .ok (.aload_n 0, 1) := by decide +kernel
theorem dModel_lift_65 : decode nModel_lift.2.1 65 = .ok (.getfield 19, 3) := by decide +kernel
theorem dModel_lift_68 : decode nModel_lift.2.1 68 = .ok (.iload_n 1, 1) := by decide +kernel
theorem dModel_lift_69 : decode nModel_lift.2.1 69 = .ok (.iaload, 1) := by decide +kernel
theorem dModel_lift_70 : decode nModel_lift.2.1 70 = .ok (.ifCond .ge 7, 3) := by decide +kernel
theorem dModel_lift_73 : decode nModel_lift.2.1 73 = .ok (.iconst 0, 1) := by decide +kernel
theorem dModel_lift_74 : decode nModel_lift.2.1 74 = .ok (.goto 4, 3) := by decide +kernel
theorem dModel_lift_77 : decode nModel_lift.2.1 77 = .ok (.iconst 1, 1) := by decide +kernel
theorem dModel_lift_78 : decode nModel_lift.2.1 78 = .ok (.istore 4, 2) := by decide +kernel
theorem dModel_lift_80 : decode nModel_lift.2.1 80 = .ok (.aload_n 0, 1) := by decide +kernel
theorem dModel_lift_81 : decode nModel_lift.2.1 81 = .ok (.getfield 19, 3) := by decide +kernel
theorem dModel_lift_84 : decode nModel_lift.2.1 84 = .ok (.iload_n 1, 1) := by decide +kernel
theorem dModel_lift_85 : decode nModel_lift.2.1 85 = .ok (.iload_n 2, 1) := by decide +kernel
theorem dModel_lift_86 : decode nModel_lift.2.1 86 = .ok (.ldc 94, 2) := by decide +kernel
theorem dModel_lift_88 : decode nModel_lift.2.1 88 = .ok (.if_icmp .ne 7, 3) := by decide +kernel
theorem dModel_lift_91 : decode nModel_lift.2.1 91 = .ok (.iconst (-1), 1) := by decide +kernel
theorem dModel_lift_92 : decode nModel_lift.2.1 92 = .ok (.goto 4, 3) := by decide +kernel
theorem dModel_lift_95 : decode nModel_lift.2.1 95 = .ok (.iload_n 2, 1) := by decide +kernel
theorem dModel_lift_96 : decode nModel_lift.2.1 96 = .ok (.iastore, 1) := by decide +kernel
theorem dModel_lift_97 : decode nModel_lift.2.1 97 = .ok (.aload_n 0, 1) := by decide +kernel
theorem dModel_lift_98 : decode nModel_lift.2.1 98 = .ok (.getfield 22, 3) := by decide +kernel
theorem dModel_lift_101 : decode nModel_lift.2.1 101 = .ok (.iload_n 1, 1) := by decide +kernel
theorem dModel_lift_102 : decode nModel_lift.2.1 102 = .ok (.iload_n 3, 1) := by decide +kernel
theorem dModel_lift_103 : decode nModel_lift.2.1 103 = .ok (.iastore, 1) := by decide +kernel
theorem dModel_lift_104 : decode nModel_lift.2.1 104 = .ok (.iload 4, 2) := by decide +kernel
theorem dModel_lift_106 : decode nModel_lift.2.1 106 = .ok (.ireturn, 1) := by decide +kernel
theorem dModel_isSheet_0 : decode nModel_isSheet.2.1 0 = .ok (.iload_n 0, 1) := by decide +kernel
theorem dModel_isSheet_1 : decode nModel_isSheet.2.1 1 = .ok (.iconst 0, 1) := by decide +kernel
theorem dModel_isSheet_2 : decode nModel_isSheet.2.1 2 = .ok (.iconst 1, 1) := by decide +kernel
theorem dModel_isSheet_3 : decode nModel_isSheet.2.1 3 = .ok (.invokestatic 78, 3) := by decide +kernel
theorem dModel_isSheet_6 : decode nModel_isSheet.2.1 6 = .ok (.ireturn, 1) := by decide +kernel
theorem dModel_lay_0 : decode nModel_lay.2.1 0 = .ok (.aload_n 0, 1) := by decide +kernel
theorem dModel_lay_1 : decode nModel_lay.2.1 1 = .ok (.iload_n 1, 1) := by decide +kernel
theorem dModel_lay_2 : decode nModel_lay.2.1 2 = .ok (.invokevirtual 87, 3) := by decide +kernel
theorem dModel_lay_5 : decode nModel_lay.2.1 5 = .ok (.ifCond .eq 17, 3) := by decide +kernel
theorem dModel_lay_8 : decode nModel_lay.2.1 8 = .ok (.iload_n 2, 1) := by decide +kernel
theorem dModel_lay_9 : decode nModel_lay.2.1 9 = .ok (.invokestatic 91, 3) := by decide +kernel
theorem dModel_lay_12 : decode nModel_lay.2.1 12 = .ok (.ifCond .eq 10, 3) := by decide +kernel
theorem dModel_lay_15 : decode nModel_lay.2.1 15 = .ok (.iload_n 3, 1) := by decide +kernel
theorem dModel_lay_16 : decode nModel_lay.2.1 16 = .ok (.invokestatic 104, 3) := by decide +kernel
theorem dModel_lay_19 : decode nModel_lay.2.1 19 = .ok (.ifCond .ne 6, 3) := by decide +kernel
theorem dModel_lay_22 : decode nModel_lay.2.1 22 = .ok (.ldc 85, 2) := by decide +kernel
theorem dModel_lay_24 : decode nModel_lay.2.1 24 = .ok (.ireturn, 1) := by decide +kernel
theorem dModel_lay_25 : decode nModel_lay.2.1 25 = .ok (.aload_n 0, 1) := by decide +kernel
theorem dModel_lay_26 : decode nModel_lay.2.1 26 = .ok (.getfield 52, 3) := by decide +kernel
theorem dModel_lay_29 : decode nModel_lay.2.1 29 = .ok (.iload_n 3, 1) := by decide +kernel
theorem dModel_lay_30 : decode nModel_lay.2.1 30 = .ok (.iaload, 1) := by decide +kernel
theorem dModel_lay_31 : decode nModel_lay.2.1 31 = .ok (.ifCond .ge 6, 3) := by decide +kernel
theorem dModel_lay_34 : decode nModel_lay.2.1 34 = .ok (.ldc 107, 2) := by decide +kernel
theorem dModel_lay_36 : decode nModel_lay.2.1 36 = .ok (.ireturn, 1) := by decide +kernel
theorem dModel_lay_37 : decode nModel_lay.2.1 37 = .ok (.aload_n 0, 1) := by decide +kernel
theorem dModel_lay_38 : decode nModel_lay.2.1 38 = .ok (.getfield 52, 3) := by decide +kernel
theorem dModel_lay_41 : decode nModel_lay.2.1 41 = .ok (.iload_n 3, 1) := by decide +kernel
theorem dModel_lay_42 : decode nModel_lay.2.1 42 = .ok (.iaload, 1) := by decide +kernel
theorem dModel_lay_43 : decode nModel_lay.2.1 43 = .ok (.bipush 30, 2) := by decide +kernel
theorem dModel_lay_45 : decode nModel_lay.2.1 45 = .ok (.iload_n 2, 1) := by decide +kernel
theorem dModel_lay_46 : decode nModel_lay.2.1 46 = .ok (.isub, 1) := by decide +kernel
theorem dModel_lay_47 : decode nModel_lay.2.1 47 = .ok (.if_icmp .le 6, 3) := by decide +kernel
theorem dModel_lay_50 : decode nModel_lay.2.1 50 = .ok (.ldc 108, 2) := by decide +kernel
theorem dModel_lay_52 : decode nModel_lay.2.1 52 = .ok (.ireturn, 1) := by decide +kernel
theorem dModel_lay_53 : decode nModel_lay.2.1 53 = .ok (.iconst 0, 1) := by decide +kernel
theorem dModel_lay_54 : decode nModel_lay.2.1 54 = .ok (.istore 4, 2) := by decide +kernel
theorem dModel_lay_56 : decode nModel_lay.2.1 56 = .ok (.iload 4, 2) := by decide +kernel
theorem dModel_lay_58 : decode nModel_lay.2.1 58 = .ok (.aload_n 0, 1) := by decide +kernel
theorem dModel_lay_59 : decode nModel_lay.2.1 59 = .ok (.getfield 52, 3) := by decide +kernel
theorem dModel_lay_62 : decode nModel_lay.2.1 62 = .ok (.iload_n 3, 1) := by decide +kernel
theorem dModel_lay_63 : decode nModel_lay.2.1 63 = .ok (.iaload, 1) := by decide +kernel
theorem dModel_lay_64 : decode nModel_lay.2.1 64 = .ok (.if_icmp .ge 50, 3) := by decide +kernel
theorem dModel_lay_67 : decode nModel_lay.2.1 67 = .ok (.aload_n 0, 1) := by decide +kernel
theorem dModel_lay_68 : decode nModel_lay.2.1 68 = .ok (.getfield 55, 3) := by decide +kernel
theorem dModel_lay_71 : decode nModel_lay.2.1 71 = .ok (.bipush 30, 2) := by decide +kernel
theorem dModel_lay_73 : decode nModel_lay.2.1 73 = .ok (.iload_n 3, 1) := by decide +kernel
theorem dModel_lay_74 : decode nModel_lay.2.1 74 = .ok (.imul, 1) := by decide +kernel
theorem dModel_lay_75 : decode nModel_lay.2.1 75 = .ok (.iload 4, 2) := by decide +kernel
theorem dModel_lay_77 : decode nModel_lay.2.1 77 = .ok (.iadd, 1) := by decide +kernel
theorem dModel_lay_78 : decode nModel_lay.2.1 78 = .ok (.iaload, 1) := by decide +kernel
theorem dModel_lay_79 : decode nModel_lay.2.1 79 = .ok (.istore 5, 2) := by decide +kernel
theorem dModel_lay_81 : decode nModel_lay.2.1 81 = .ok (.aload_n 0, 1) := by decide +kernel
theorem dModel_lay_82 : decode nModel_lay.2.1 82 = .ok (.iload_n 1, 1) := by decide +kernel
theorem dModel_lay_83 : decode nModel_lay.2.1 83 = .ok (.iload_n 2, 1) := by decide +kernel
theorem dModel_lay_84 : decode nModel_lay.2.1 84 = .ok (.iload 4, 2) := by decide +kernel
theorem dModel_lay_86 : decode nModel_lay.2.1 86 = .ok (.iadd, 1) := by decide +kernel
theorem dModel_lay_87 : decode nModel_lay.2.1 87 = .ok (.iload 5, 2) := by decide +kernel
theorem dModel_lay_89 : decode nModel_lay.2.1 89 = .ok (.iconst 0, 1) := by decide +kernel
theorem dModel_lay_90 : decode nModel_lay.2.1 90 = .ok (.bipush 9, 2) := by decide +kernel
theorem dModel_lay_92 : decode nModel_lay.2.1 92 = .ok (.invokestatic 78, 3) := by decide +kernel
theorem dModel_lay_95 : decode nModel_lay.2.1 95 = .ok (.ifCond .eq 8, 3) := by decide +kernel
theorem dModel_lay_98 : decode nModel_lay.2.1 98 = .ok (.iload 5, 2) := by decide +kernel
theorem dModel_lay_100 : decode nModel_lay.2.1 100 = .ok (.goto 4, 3) := by decide +kernel
theorem dModel_lay_103 : decode nModel_lay.2.1 103 = .ok (.iconst (-1), 1) := by decide +kernel
theorem dModel_lay_104 : decode nModel_lay.2.1 104 = .ok (.iconst 0, 1) := by decide +kernel
theorem dModel_lay_105 : decode nModel_lay.2.1 105 = .ok (.invokevirtual 95, 3) := by decide +kernel
theorem dModel_lay_108 : decode nModel_lay.2.1 108 = .ok (.iinc 4 1, 3) := by decide +kernel
theorem dModel_lay_111 : decode nModel_lay.2.1 111 = .ok (.goto (-55), 3) := by decide +kernel
theorem dModel_lay_114 : decode nModel_lay.2.1 114 = .ok (.aload_n 0, 1) := by decide +kernel
theorem dModel_lay_115 : decode nModel_lay.2.1 115 = .ok (.getfield 52, 3) := by decide +kernel
theorem dModel_lay_118 : decode nModel_lay.2.1 118 = .ok (.iload_n 3, 1) := by decide +kernel
theorem dModel_lay_119 : decode nModel_lay.2.1 119 = .ok (.iaload, 1) := by decide +kernel
theorem dModel_lay_120 : decode nModel_lay.2.1 120 = .ok (.ireturn, 1) := by decide +kernel
theorem dModel_told_0 : decode nModel_told.2.1 0 = .ok (.aload_n 0, 1) := by decide +kernel
theorem dModel_told_1 : decode nModel_told.2.1 1 = .ok (.iload_n 1, 1) := by decide +kernel
theorem dModel_told_2 : decode nModel_told.2.1 2 = .ok (.invokevirtual 87, 3) := by decide +kernel
theorem dModel_told_5 : decode nModel_told.2.1 5 = .ok (.ifCond .eq 19, 3) := by decide +kernel
theorem dModel_told_8 : decode nModel_told.2.1 8 = .ok (.iload_n 2, 1) := by decide +kernel
theorem dModel_told_9 : decode nModel_told.2.1 9 = .ok (.invokestatic 91, 3) := by decide +kernel
theorem dModel_told_12 : decode nModel_told.2.1 12 = .ok (.ifCond .eq 12, 3) := by decide +kernel
theorem dModel_told_15 : decode nModel_told.2.1 15 = .ok (.iload_n 3, 1) := by decide +kernel
theorem dModel_told_16 : decode nModel_told.2.1 16 = .ok (.iconst 0, 1) := by decide +kernel
theorem dModel_told_17 : decode nModel_told.2.1 17 = .ok (.iconst 2, 1) := by decide +kernel
theorem dModel_told_18 : decode nModel_told.2.1 18 = .ok (.invokestatic 78, 3) := by decide +kernel
theorem dModel_told_21 : decode nModel_told.2.1 21 = .ok (.ifCond .ne 6, 3) := by decide +kernel
theorem dModel_told_24 : decode nModel_told.2.1 24 = .ok (.ldc 85, 2) := by decide +kernel
theorem dModel_told_26 : decode nModel_told.2.1 26 = .ok (.ireturn, 1) := by decide +kernel
theorem dModel_told_27 : decode nModel_told.2.1 27 = .ok (.iload_n 3, 1) := by decide +kernel
theorem dModel_told_28 : decode nModel_told.2.1 28 = .ok (.ifCond .ne 29, 3) := by decide +kernel
theorem dModel_told_31 : decode nModel_told.2.1 31 = .ok (.aload_n 0, 1) := by decide +kernel
theorem dModel_told_32 : decode nModel_told.2.1 32 = .ok (.iload_n 1, 1) := by decide +kernel
theorem dModel_told_33 : decode nModel_told.2.1 33 = .ok (.iload_n 2, 1) := by decide +kernel
theorem dModel_told_34 : decode nModel_told.2.1 34 = .ok (.invokevirtual 99, 3) := by decide +kernel
theorem dModel_told_37 : decode nModel_told.2.1 37 = .ok (.ifCond .eq 17, 3) := by decide +kernel
theorem dModel_told_40 : decode nModel_told.2.1 40 = .ok (.aload_n 0, 1) := by decide +kernel
theorem dModel_told_41 : decode nModel_told.2.1 41 = .ok (.getfield 13, 3) := by decide +kernel
theorem dModel_told_44 : decode nModel_told.2.1 44 = .ok (.bipush 30, 2) := by decide +kernel
theorem dModel_told_46 : decode nModel_told.2.1 46 = .ok (.iload_n 1, 1) := by decide +kernel
theorem dModel_told_47 : decode nModel_told.2.1 47 = .ok (.imul, 1) := by decide +kernel
theorem dModel_told_48 : decode nModel_told.2.1 48 = .ok (.iload_n 2, 1) := by decide +kernel
theorem dModel_told_49 : decode nModel_told.2.1 49 = .ok (.iadd, 1) := by decide +kernel
theorem dModel_told_50 : decode nModel_told.2.1 50 = .ok (.iaload, 1) := by decide +kernel
theorem dModel_told_51 : decode nModel_told.2.1 51 = .ok (.goto 5, 3) := by decide +kernel
theorem dModel_told_54 : decode nModel_told.2.1 54 = .ok (.ldc 94, 2) := by decide +kernel
theorem dModel_told_56 : decode nModel_told.2.1 56 = .ok (.ireturn, 1) := by decide +kernel
theorem dModel_told_57 : decode nModel_told.2.1 57 = .ok (.iload_n 3, 1) := by decide +kernel
theorem dModel_told_58 : decode nModel_told.2.1 58 = .ok (.iconst 1, 1) := by decide +kernel
theorem dModel_told_59 : decode nModel_told.2.1 59 = .ok (.if_icmp .ne 15, 3) := by decide +kernel
theorem dModel_told_62 : decode nModel_told.2.1 62 = .ok (.aload_n 0, 1) := by decide +kernel
theorem dModel_told_63 : decode nModel_told.2.1 63 = .ok (.getfield 16, 3) := by decide +kernel
theorem dModel_told_66 : decode nModel_told.2.1 66 = .ok (.bipush 30, 2) := by decide +kernel
theorem dModel_told_68 : decode nModel_told.2.1 68 = .ok (.iload_n 1, 1) := by decide +kernel
theorem dModel_told_69 : decode nModel_told.2.1 69 = .ok (.imul, 1) := by decide +kernel
theorem dModel_told_70 : decode nModel_told.2.1 70 = .ok (.iload_n 2, 1) := by decide +kernel
theorem dModel_told_71 : decode nModel_told.2.1 71 = .ok (.iadd, 1) := by decide +kernel
theorem dModel_told_72 : decode nModel_told.2.1 72 = .ok (.iaload, 1) := by decide +kernel
theorem dModel_told_73 : decode nModel_told.2.1 73 = .ok (.ireturn, 1) := by decide +kernel
theorem dModel_told_74 : decode nModel_told.2.1 74 = .ok (.aload_n 0, 1) := by decide +kernel
theorem dModel_told_75 : decode nModel_told.2.1 75 = .ok (.getfield 19, 3) := by decide +kernel
theorem dModel_told_78 : decode nModel_told.2.1 78 = .ok (.iload_n 2, 1) := by decide +kernel
theorem dModel_told_79 : decode nModel_told.2.1 79 = .ok (.iaload, 1) := by decide +kernel
theorem dModel_told_80 : decode nModel_told.2.1 80 = .ok (.ifCond .ge 6, 3) := by decide +kernel
theorem dModel_told_83 : decode nModel_told.2.1 83 = .ok (.ldc 94, 2) := by decide +kernel
theorem dModel_told_85 : decode nModel_told.2.1 85 = .ok (.ireturn, 1) := by decide +kernel
theorem dModel_told_86 : decode nModel_told.2.1 86 = .ok (.aload_n 0, 1) := by decide +kernel
theorem dModel_told_87 : decode nModel_told.2.1 87 = .ok (.getfield 19, 3) := by decide +kernel
theorem dModel_told_90 : decode nModel_told.2.1 90 = .ok (.iload_n 2, 1) := by decide +kernel
theorem dModel_told_91 : decode nModel_told.2.1 91 = .ok (.iaload, 1) := by decide +kernel
theorem dModel_told_92 : decode nModel_told.2.1 92 = .ok (.iload_n 1, 1) := by decide +kernel
theorem dModel_told_93 : decode nModel_told.2.1 93 = .ok (.if_icmp .ne 12, 3) := by decide +kernel
theorem dModel_told_96 : decode nModel_told.2.1 96 = .ok (.aload_n 0, 1) := by decide +kernel
theorem dModel_told_97 : decode nModel_told.2.1 97 = .ok (.getfield 22, 3) := by decide +kernel
theorem dModel_told_100 : decode nModel_told.2.1 100 = .ok (.iload_n 2, 1) := by decide +kernel
theorem dModel_told_101 : decode nModel_told.2.1 101 = .ok (.iaload, 1) := by decide +kernel
theorem dModel_told_102 : decode nModel_told.2.1 102 = .ok (.goto 24, 3) := by decide +kernel
theorem dModel_told_105 : decode nModel_told.2.1 105 = .ok (.aload_n 0, 1) := by decide +kernel
theorem dModel_told_106 : decode nModel_told.2.1 106 = .ok (.getfield 22, 3) := by decide +kernel
theorem dModel_told_109 : decode nModel_told.2.1 109 = .ok (.iload_n 2, 1) := by decide +kernel
theorem dModel_told_110 : decode nModel_told.2.1 110 = .ok (.iaload, 1) := by decide +kernel
theorem dModel_told_111 : decode nModel_told.2.1 111 = .ok (.iload_n 1, 1) := by decide +kernel
theorem dModel_told_112 : decode nModel_told.2.1 112 = .ok (.if_icmp .ne 12, 3) := by decide +kernel
theorem dModel_told_115 : decode nModel_told.2.1 115 = .ok (.aload_n 0, 1) := by decide +kernel
theorem dModel_told_116 : decode nModel_told.2.1 116 = .ok (.getfield 19, 3) := by decide +kernel
theorem dModel_told_119 : decode nModel_told.2.1 119 = .ok (.iload_n 2, 1) := by decide +kernel
theorem dModel_told_120 : decode nModel_told.2.1 120 = .ok (.iaload, 1) := by decide +kernel
theorem dModel_told_121 : decode nModel_told.2.1 121 = .ok (.goto 5, 3) := by decide +kernel
theorem dModel_told_124 : decode nModel_told.2.1 124 = .ok (.ldc 94, 2) := by decide +kernel
theorem dModel_told_126 : decode nModel_told.2.1 126 = .ok (.ireturn, 1) := by decide +kernel
theorem dModel_person_0 : decode nModel_person.2.1 0 = .ok (.iload_n 1, 1) := by decide +kernel
theorem dModel_person_1 : decode nModel_person.2.1 1 = .ok (.iconst 0, 1) := by decide +kernel
theorem dModel_person_2 : decode nModel_person.2.1 2 = .ok (.iconst 3, 1) := by decide +kernel
theorem dModel_person_3 : decode nModel_person.2.1 3 = .ok (.invokestatic 78, 3) := by decide +kernel
theorem dModel_person_6 : decode nModel_person.2.1 6 = .ok (.ifCond .eq 13, 3) := by decide +kernel
theorem dModel_person_9 : decode nModel_person.2.1 9 = .ok (.iload_n 2, 1) := by decide +kernel
theorem dModel_person_10 : decode nModel_person.2.1 10 = .ok (.iconst 1, 1) := by decide +kernel
theorem dModel_person_11 : decode nModel_person.2.1 11 = .ok (.bipush 9, 2) := by decide +kernel
theorem dModel_person_13 : decode nModel_person.2.1 13 = .ok (.invokestatic 78, 3) := by decide +kernel
theorem dModel_person_16 : decode nModel_person.2.1 16 = .ok (.ifCond .ne 6, 3) := by decide +kernel
theorem dModel_person_19 : decode nModel_person.2.1 19 = .ok (.ldc 85, 2) := by decide +kernel
theorem dModel_person_21 : decode nModel_person.2.1 21 = .ok (.ireturn, 1) := by decide +kernel
theorem dModel_person_22 : decode nModel_person.2.1 22 = .ok (.aload_n 0, 1) := by decide +kernel
theorem dModel_person_23 : decode nModel_person.2.1 23 = .ok (.getfield 82, 3) := by decide +kernel
theorem dModel_person_26 : decode nModel_person.2.1 26 = .ok (.bipush 10, 2) := by decide +kernel
theorem dModel_person_28 : decode nModel_person.2.1 28 = .ok (.if_icmp .ne 6, 3) := by decide +kernel
theorem dModel_person_31 : decode nModel_person.2.1 31 = .ok (.ldc 86, 2) := by decide +kernel
theorem dModel_person_33 : decode nModel_person.2.1 33 = .ok (.ireturn, 1) := by decide +kernel
theorem dModel_person_34 : decode nModel_person.2.1 34 = .ok (.aload_n 0, 1) := by decide +kernel
theorem dModel_person_35 : decode nModel_person.2.1 35 = .ok (.getfield 25, 3) := by decide +kernel
theorem dModel_person_38 : decode nModel_person.2.1 38 = .ok (.aload_n 0, 1) := by decide +kernel
theorem dModel_person_39 : decode nModel_person.2.1 39 = .ok (.getfield 82, 3) := by decide +kernel
theorem dModel_person_42 : decode nModel_person.2.1 42 = .ok (.iload_n 1, 1) := by decide +kernel
theorem dModel_person_43 : decode nModel_person.2.1 43 = .ok (.iastore, 1) := by decide +kernel
theorem dModel_person_44 : decode nModel_person.2.1 44 = .ok (.aload_n 0, 1) := by decide +kernel
theorem dModel_person_45 : decode nModel_person.2.1 45 = .ok (.getfield 28, 3) := by decide +kernel
theorem dModel_person_48 : decode nModel_person.2.1 48 = .ok (.aload_n 0, 1) := by decide +kernel
theorem dModel_person_49 : decode nModel_person.2.1 49 = .ok (.getfield 82, 3) := by decide +kernel
theorem dModel_person_52 : decode nModel_person.2.1 52 = .ok (.iload_n 2, 1) := by decide +kernel
theorem dModel_person_53 : decode nModel_person.2.1 53 = .ok (.iastore, 1) := by decide +kernel
theorem dModel_person_54 : decode nModel_person.2.1 54 = .ok (.aload_n 0, 1) := by decide +kernel
theorem dModel_person_55 : decode nModel_person.2.1 55 = .ok (.getfield 31, 3) := by decide +kernel
theorem dModel_person_58 : decode nModel_person.2.1 58 = .ok (.aload_n 0, 1) := by decide +kernel
theorem dModel_person_59 : decode nModel_person.2.1 59 = .ok (.getfield 82, 3) := by decide +kernel
theorem dModel_person_62 : decode nModel_person.2.1 62 = .ok (.iconst (-1), 1) := by decide +kernel
theorem dModel_person_63 : decode nModel_person.2.1 63 = .ok (.iastore, 1) := by decide +kernel
theorem dModel_person_64 : decode nModel_person.2.1 64 = .ok (.aload_n 0, 1) := by decide +kernel
theorem dModel_person_65 : decode nModel_person.2.1 65 = .ok (.getfield 43, 3) := by decide +kernel
theorem dModel_person_68 : decode nModel_person.2.1 68 = .ok (.aload_n 0, 1) := by decide +kernel
theorem dModel_person_69 : decode nModel_person.2.1 69 = .ok (.getfield 82, 3) := by decide +kernel
theorem dModel_person_72 : decode nModel_person.2.1 72 = .ok (.bipush 30, 2) := by decide +kernel
theorem dModel_person_74 : decode nModel_person.2.1 74 = .ok (.iastore, 1) := by decide +kernel
theorem dModel_person_75 : decode nModel_person.2.1 75 = .ok (.aload_n 0, 1) := by decide +kernel
theorem dModel_person_76 : decode nModel_person.2.1 76 = .ok (.dup, 1) := by decide +kernel
theorem dModel_person_77 : decode nModel_person.2.1 77 = .ok (.getfield 82, 3) := by decide +kernel
theorem dModel_person_80 : decode nModel_person.2.1 80 = .ok (.iconst 1, 1) := by decide +kernel
theorem dModel_person_81 : decode nModel_person.2.1 81 = .ok (.iadd, 1) := by decide +kernel
theorem dModel_person_82 : decode nModel_person.2.1 82 = .ok (.putfield 82, 3) := by decide +kernel
theorem dModel_person_85 : decode nModel_person.2.1 85 = .ok (.aload_n 0, 1) := by decide +kernel
theorem dModel_person_86 : decode nModel_person.2.1 86 = .ok (.getfield 82, 3) := by decide +kernel
theorem dModel_person_89 : decode nModel_person.2.1 89 = .ok (.iconst 1, 1) := by decide +kernel
theorem dModel_person_90 : decode nModel_person.2.1 90 = .ok (.isub, 1) := by decide +kernel
theorem dModel_person_91 : decode nModel_person.2.1 91 = .ok (.ireturn, 1) := by decide +kernel
theorem dModel_isSwing_0 : decode nModel_isSwing.2.1 0 = .ok (.aload_n 0, 1) := by decide +kernel
theorem dModel_isSwing_1 : decode nModel_isSwing.2.1 1 = .ok (.getfield 25, 3) := by decide +kernel
theorem dModel_isSwing_4 : decode nModel_isSwing.2.1 4 = .ok (.iload_n 1, 1) := by decide +kernel
theorem dModel_isSwing_5 : decode nModel_isSwing.2.1 5 = .ok (.iaload, 1) := by decide +kernel
theorem dModel_isSwing_6 : decode nModel_isSwing.2.1 6 = .ok (.iconst 2, 1) := by decide +kernel
theorem dModel_isSwing_7 : decode nModel_isSwing.2.1 7 = .ok (.if_icmp .eq 13, 3) := by decide +kernel
theorem dModel_isSwing_10 : decode nModel_isSwing.2.1 10 = .ok (.aload_n 0, 1) := by decide +kernel
theorem dModel_isSwing_11 : decode nModel_isSwing.2.1 11 = .ok (.getfield 25, 3) := by decide +kernel
theorem dModel_isSwing_14 : decode nModel_isSwing.2.1 14 = .ok (.iload_n 1, 1) := by decide +kernel
theorem dModel_isSwing_15 : decode nModel_isSwing.2.1 15 = .ok (.iaload, 1) := by decide +kernel
theorem dModel_isSwing_16 : decode nModel_isSwing.2.1 16 = .ok (.iconst 3, 1) := by decide +kernel
theorem dModel_isSwing_17 : decode nModel_isSwing.2.1 17 = .ok (.if_icmp .ne 7, 3) := by decide +kernel
theorem dModel_isSwing_20 : decode nModel_isSwing.2.1 20 = .ok (.iconst 1, 1) := by decide +kernel
theorem dModel_isSwing_21 : decode nModel_isSwing.2.1 21 = .ok (.goto 4, 3) := by decide +kernel
theorem dModel_isSwing_24 : decode nModel_isSwing.2.1 24 = .ok (.iconst 0, 1) := by decide +kernel
theorem dModel_isSwing_25 : decode nModel_isSwing.2.1 25 = .ok (.ireturn, 1) := by decide +kernel
theorem dModel_isOf_0 : decode nModel_isOf.2.1 0 = .ok (.aload_n 0, 1) := by decide +kernel
theorem dModel_isOf_1 : decode nModel_isOf.2.1 1 = .ok (.iload_n 1, 1) := by decide +kernel
theorem dModel_isOf_2 : decode nModel_isOf.2.1 2 = .ok (.invokevirtual 109, 3) := by decide +kernel
theorem dModel_isOf_5 : decode nModel_isOf.2.1 5 = .ok (.ifCond .eq 12, 3) := by decide +kernel
theorem dModel_isOf_8 : decode nModel_isOf.2.1 8 = .ok (.iload_n 2, 1) := by decide +kernel
theorem dModel_isOf_9 : decode nModel_isOf.2.1 9 = .ok (.iconst 0, 1) := by decide +kernel
theorem dModel_isOf_10 : decode nModel_isOf.2.1 10 = .ok (.iconst 3, 1) := by decide +kernel
theorem dModel_isOf_11 : decode nModel_isOf.2.1 11 = .ok (.invokestatic 78, 3) := by decide +kernel
theorem dModel_isOf_14 : decode nModel_isOf.2.1 14 = .ok (.ifCond .ne 6, 3) := by decide +kernel
theorem dModel_isOf_17 : decode nModel_isOf.2.1 17 = .ok (.ldc 85, 2) := by decide +kernel
theorem dModel_isOf_19 : decode nModel_isOf.2.1 19 = .ok (.ireturn, 1) := by decide +kernel
theorem dModel_isOf_20 : decode nModel_isOf.2.1 20 = .ok (.iload_n 2, 1) := by decide +kernel
theorem dModel_isOf_21 : decode nModel_isOf.2.1 21 = .ok (.ifCond .eq 26, 3) := by decide +kernel
theorem dModel_isOf_24 : decode nModel_isOf.2.1 24 = .ok (.aload_n 0, 1) := by decide +kernel
theorem dModel_isOf_25 : decode nModel_isOf.2.1 25 = .ok (.getfield 25, 3) := by decide +kernel
theorem dModel_isOf_28 : decode nModel_isOf.2.1 28 = .ok (.iload_n 1, 1) := by decide +kernel
theorem dModel_isOf_29 : decode nModel_isOf.2.1 29 = .ok (.iaload, 1) := by decide +kernel
theorem dModel_isOf_30 : decode nModel_isOf.2.1 30 = .ok (.iload_n 2, 1) := by decide +kernel
theorem dModel_isOf_31 : decode nModel_isOf.2.1 31 = .ok (.if_icmp .eq 16, 3) := by decide +kernel
theorem dModel_isOf_34 : decode nModel_isOf.2.1 34 = .ok (.iload_n 2, 1) := by decide +kernel
theorem dModel_isOf_35 : decode nModel_isOf.2.1 35 = .ok (.iconst 2, 1) := by decide +kernel
theorem dModel_isOf_36 : decode nModel_isOf.2.1 36 = .ok (.if_icmp .ne 15, 3) := by decide +kernel
theorem dModel_isOf_39 : decode nModel_isOf.2.1 39 = .ok (.aload_n 0, 1) := by decide +kernel
theorem dModel_isOf_40 : decode nModel_isOf.2.1 40 = .ok (.iload_n 1, 1) := by decide +kernel
theorem dModel_isOf_41 : decode nModel_isOf.2.1 41 = .ok (.invokevirtual 112, 3) := by decide +kernel
theorem dModel_isOf_44 : decode nModel_isOf.2.1 44 = .ok (.ifCond .eq 7, 3) := by decide +kernel
theorem dModel_isOf_47 : decode nModel_isOf.2.1 47 = .ok (.iconst 1, 1) := by decide +kernel
theorem dModel_isOf_48 : decode nModel_isOf.2.1 48 = .ok (.goto 4, 3) := by decide +kernel
theorem dModel_isOf_51 : decode nModel_isOf.2.1 51 = .ok (.iconst 0, 1) := by decide +kernel
theorem dModel_isOf_52 : decode nModel_isOf.2.1 52 = .ok (.ireturn, 1) := by decide +kernel
theorem dModel_owner_0 : decode nModel_owner.2.1 0 = .ok (.iconst (-1), 1) := by decide +kernel
theorem dModel_owner_1 : decode nModel_owner.2.1 1 = .ok (.istore_n 2, 1) := by decide +kernel
theorem dModel_owner_2 : decode nModel_owner.2.1 2 = .ok (.iconst 0, 1) := by decide +kernel
theorem dModel_owner_3 : decode nModel_owner.2.1 3 = .ok (.istore_n 3, 1) := by decide +kernel
theorem dModel_owner_4 : decode nModel_owner.2.1 4 = .ok (.iload_n 3, 1) := by decide +kernel
theorem dModel_owner_5 : decode nModel_owner.2.1 5 = .ok (.aload_n 0, 1) := by decide +kernel
theorem dModel_owner_6 : decode nModel_owner.2.1 6 = .ok (.getfield 82, 3) := by decide +kernel
theorem dModel_owner_9 : decode nModel_owner.2.1 9 = .ok (.if_icmp .ge 25, 3) := by decide +kernel
theorem dModel_owner_12 : decode nModel_owner.2.1 12 = .ok (.aload_n 0, 1) := by decide +kernel
theorem dModel_owner_13 : decode nModel_owner.2.1 13 = .ok (.getfield 31, 3) := by decide +kernel
theorem dModel_owner_16 : decode nModel_owner.2.1 16 = .ok (.iload_n 3, 1) := by decide +kernel
theorem dModel_owner_17 : decode nModel_owner.2.1 17 = .ok (.iaload, 1) := by decide +kernel
theorem dModel_owner_18 : decode nModel_owner.2.1 18 = .ok (.iload_n 1, 1) := by decide +kernel
theorem dModel_owner_19 : decode nModel_owner.2.1 19 = .ok (.if_icmp .ne 7, 3) := by decide +kernel
theorem dModel_owner_22 : decode nModel_owner.2.1 22 = .ok (.iload_n 3, 1) := by decide +kernel
theorem dModel_owner_23 : decode nModel_owner.2.1 23 = .ok (.goto 4, 3) := by decide +kernel
theorem dModel_owner_26 : decode nModel_owner.2.1 26 = .ok (.iload_n 2, 1) := by decide +kernel
theorem dModel_owner_27 : decode nModel_owner.2.1 27 = .ok (.istore_n 2, 1) := by decide +kernel
theorem dModel_owner_28 : decode nModel_owner.2.1 28 = .ok (.iinc 3 1, 3) := by decide +kernel
theorem dModel_owner_31 : decode nModel_owner.2.1 31 = .ok (.goto (-27), 3) := by decide +kernel
theorem dModel_owner_34 : decode nModel_owner.2.1 34 = .ok (.iload_n 2, 1) := by decide +kernel
theorem dModel_owner_35 : decode nModel_owner.2.1 35 = .ok (.ireturn, 1) := by decide +kernel
theorem dModel_own_0 : decode nModel_own.2.1 0 = .ok (.aload_n 0, 1) := by decide +kernel
theorem dModel_own_1 : decode nModel_own.2.1 1 = .ok (.iload_n 1, 1) := by decide +kernel
theorem dModel_own_2 : decode nModel_own.2.1 2 = .ok (.invokevirtual 109, 3) := by decide +kernel
theorem dModel_own_5 : decode nModel_own.2.1 5 = .ok (.ifCond .eq 17, 3) := by decide +kernel
theorem dModel_own_8 : decode nModel_own.2.1 8 = .ok (.iload_n 2, 1) := by decide +kernel
theorem dModel_own_9 : decode nModel_own.2.1 9 = .ok (.ldc 94, 2) := by decide +kernel
theorem dModel_own_11 : decode nModel_own.2.1 11 = .ok (.if_icmp .eq 14, 3) := by decide +kernel
theorem dModel_own_14 : decode nModel_own.2.1 14 = .ok (.aload_n 0, 1) := by decide +kernel
theorem dModel_own_15 : decode nModel_own.2.1 15 = .ok (.iload_n 2, 1) := by decide +kernel
theorem dModel_own_16 : decode nModel_own.2.1 16 = .ok (.invokevirtual 87, 3) := by decide +kernel
theorem dModel_own_19 : decode nModel_own.2.1 19 = .ok (.ifCond .ne 6, 3) := by decide +kernel
theorem dModel_own_22 : decode nModel_own.2.1 22 = .ok (.ldc 85, 2) := by decide +kernel
theorem dModel_own_24 : decode nModel_own.2.1 24 = .ok (.ireturn, 1) := by decide +kernel
theorem dModel_own_25 : decode nModel_own.2.1 25 = .ok (.iload_n 2, 1) := by decide +kernel
theorem dModel_own_26 : decode nModel_own.2.1 26 = .ok (.ldc 94, 2) := by decide +kernel
theorem dModel_own_28 : decode nModel_own.2.1 28 = .ok (.if_icmp .eq 23, 3) := by decide +kernel
theorem dModel_own_31 : decode nModel_own.2.1 31 = .ok (.aload_n 0, 1) := by decide +kernel
theorem dModel_own_32 : decode nModel_own.2.1 32 = .ok (.iload_n 2, 1) := by decide +kernel
theorem dModel_own_33 : decode nModel_own.2.1 33 = .ok (.invokevirtual 115, 3) := by decide +kernel
theorem dModel_own_36 : decode nModel_own.2.1 36 = .ok (.ifCond .lt 15, 3) := by decide +kernel
theorem dModel_own_39 : decode nModel_own.2.1 39 = .ok (.aload_n 0, 1) := by decide +kernel
theorem dModel_own_40 : decode nModel_own.2.1 40 = .ok (.iload_n 2, 1) := by decide +kernel
theorem dModel_own_41 : decode nModel_own.2.1 41 = .ok (.invokevirtual 115, 3) := by decide +kernel
theorem dModel_own_44 : decode nModel_own.2.1 44 = .ok (.iload_n 1, 1) := by decide +kernel
theorem dModel_own_45 : decode nModel_own.2.1 45 = .ok (.if_icmp .eq 6, 3) := by decide +kernel
theorem dModel_own_48 : decode nModel_own.2.1 48 = .ok (.ldc 103, 2) := by decide +kernel
theorem dModel_own_50 : decode nModel_own.2.1 50 = .ok (.ireturn, 1) := by decide +kernel
theorem dModel_own_51 : decode nModel_own.2.1 51 = .ok (.aload_n 0, 1) := by decide +kernel
theorem dModel_own_52 : decode nModel_own.2.1 52 = .ok (.getfield 31, 3) := by decide +kernel
theorem dModel_own_55 : decode nModel_own.2.1 55 = .ok (.iload_n 1, 1) := by decide +kernel
theorem dModel_own_56 : decode nModel_own.2.1 56 = .ok (.iaload, 1) := by decide +kernel
theorem dModel_own_57 : decode nModel_own.2.1 57 = .ok (.istore_n 3, 1) := by decide +kernel
theorem dModel_own_58 : decode nModel_own.2.1 58 = .ok (.aload_n 0, 1) := by decide +kernel
theorem dModel_own_59 : decode nModel_own.2.1 59 = .ok (.getfield 31, 3) := by decide +kernel
theorem dModel_own_62 : decode nModel_own.2.1 62 = .ok (.iload_n 1, 1) := by decide +kernel
theorem dModel_own_63 : decode nModel_own.2.1 63 = .ok (.iload_n 2, 1) := by decide +kernel
theorem dModel_own_64 : decode nModel_own.2.1 64 = .ok (.ldc 94, 2) := by decide +kernel
theorem dModel_own_66 : decode nModel_own.2.1 66 = .ok (.if_icmp .ne 7, 3) := by decide +kernel
theorem dModel_own_69 : decode nModel_own.2.1 69 = .ok (.iconst (-1), 1) := by decide +kernel
theorem dModel_own_70 : decode nModel_own.2.1 70 = .ok (.goto 4, 3) := by decide +kernel
theorem dModel_own_73 : decode nModel_own.2.1 73 = .ok (.iload_n 2, 1) := by decide +kernel
theorem dModel_own_74 : decode nModel_own.2.1 74 = .ok (.iastore, 1) := by decide +kernel
theorem dModel_own_75 : decode nModel_own.2.1 75 = .ok (.iload_n 3, 1) := by decide +kernel
theorem dModel_own_76 : decode nModel_own.2.1 76 = .ok (.ifCond .ge 8, 3) := by decide +kernel
theorem dModel_own_79 : decode nModel_own.2.1 79 = .ok (.ldc 94, 2) := by decide +kernel
theorem dModel_own_81 : decode nModel_own.2.1 81 = .ok (.goto 4, 3) := by decide +kernel
theorem dModel_own_84 : decode nModel_own.2.1 84 = .ok (.iload_n 3, 1) := by decide +kernel
theorem dModel_own_85 : decode nModel_own.2.1 85 = .ok (.ireturn, 1) := by decide +kernel
theorem dModel_did_0 : decode nModel_did.2.1 0 = .ok (.aload_n 0, 1) := by decide +kernel
theorem dModel_did_1 : decode nModel_did.2.1 1 = .ok (.iload_n 1, 1) := by decide +kernel
theorem dModel_did_2 : decode nModel_did.2.1 2 = .ok (.invokevirtual 109, 3) := by decide +kernel
theorem dModel_did_5 : decode nModel_did.2.1 5 = .ok (.ifCond .eq 11, 3) := by decide +kernel
theorem dModel_did_8 : decode nModel_did.2.1 8 = .ok (.aload_n 0, 1) := by decide +kernel
theorem dModel_did_9 : decode nModel_did.2.1 9 = .ok (.iload_n 2, 1) := by decide +kernel
theorem dModel_did_10 : decode nModel_did.2.1 10 = .ok (.invokevirtual 87, 3) := by decide +kernel
theorem dModel_did_13 : decode nModel_did.2.1 13 = .ok (.ifCond .ne 6, 3) := by decide +kernel
theorem dModel_did_16 : decode nModel_did.2.1 16 = .ok (.ldc 85, 2) := by decide +kernel
theorem dModel_did_18 : decode nModel_did.2.1 18 = .ok (.ireturn, 1) := by decide +kernel
theorem dModel_did_19 : decode nModel_did.2.1 19 = .ok (.aload_n 0, 1) := by decide +kernel
theorem dModel_did_20 : decode nModel_did.2.1 20 = .ok (.getfield 34, 3) := by decide +kernel
theorem dModel_did_23 : decode nModel_did.2.1 23 = .ok (.bipush 8, 2) := by decide +kernel
theorem dModel_did_25 : decode nModel_did.2.1 25 = .ok (.iload_n 1, 1) := by decide +kernel
theorem dModel_did_26 : decode nModel_did.2.1 26 = .ok (.imul, 1) := by decide +kernel
theorem dModel_did_27 : decode nModel_did.2.1 27 = .ok (.iload_n 2, 1) := by decide +kernel
theorem dModel_did_28 : decode nModel_did.2.1 28 = .ok (.iadd, 1) := by decide +kernel
theorem dModel_did_29 : decode nModel_did.2.1 29 = .ok (.iaload, 1) := by decide +kernel
theorem dModel_did_30 : decode nModel_did.2.1 30 = .ok (.istore_n 3, 1) := by decide +kernel
theorem dModel_did_31 : decode nModel_did.2.1 31 = .ok (.aload_n 0, 1) := by decide +kernel
theorem dModel_did_32 : decode nModel_did.2.1 32 = .ok (.getfield 34, 3) := by decide +kernel
theorem dModel_did_35 : decode nModel_did.2.1 35 = .ok (.bipush 8, 2) := by decide +kernel
theorem dModel_did_37 : decode nModel_did.2.1 37 = .ok (.iload_n 1, 1) := by decide +kernel
theorem dModel_did_38 : decode nModel_did.2.1 38 = .ok (.imul, 1) := by decide +kernel
theorem dModel_did_39 : decode nModel_did.2.1 39 = .ok (.iload_n 2, 1) := by decide +kernel
theorem dModel_did_40 : decode nModel_did.2.1 40 = .ok (.iadd, 1) := by decide +kernel
theorem dModel_did_41 : decode nModel_did.2.1 41 = .ok (.aload_n 0, 1) := by decide +kernel
theorem dModel_did_42 : decode nModel_did.2.1 42 = .ok (.getfield 119, 3) := by decide +kernel
theorem dModel_did_45 : decode nModel_did.2.1 45 = .ok (.iastore, 1) := by decide +kernel
theorem dModel_did_46 : decode nModel_did.2.1 46 = .ok (.iload_n 3, 1) := by decide +kernel
theorem dModel_did_47 : decode nModel_did.2.1 47 = .ok (.ifCond .ge 8, 3) := by decide +kernel
theorem dModel_did_50 : decode nModel_did.2.1 50 = .ok (.ldc 94, 2) := by decide +kernel
theorem dModel_did_52 : decode nModel_did.2.1 52 = .ok (.goto 9, 3) := by decide +kernel
theorem dModel_did_55 : decode nModel_did.2.1 55 = .ok (.aload_n 0, 1) := by decide +kernel
theorem dModel_did_56 : decode nModel_did.2.1 56 = .ok (.getfield 119, 3) := by decide +kernel
theorem dModel_did_59 : decode nModel_did.2.1 59 = .ok (.iload_n 3, 1) := by decide +kernel
theorem dModel_did_60 : decode nModel_did.2.1 60 = .ok (.isub, 1) := by decide +kernel
theorem dModel_did_61 : decode nModel_did.2.1 61 = .ok (.ireturn, 1) := by decide +kernel
theorem dModel_knows_0 : decode nModel_knows.2.1 0 = .ok (.aload_n 0, 1) := by decide +kernel
theorem dModel_knows_1 : decode nModel_knows.2.1 1 = .ok (.getfield 34, 3) := by decide +kernel
theorem dModel_knows_4 : decode nModel_knows.2.1 4 = .ok (.bipush 8, 2) := by decide +kernel
theorem dModel_knows_6 : decode nModel_knows.2.1 6 = .ok (.iload_n 1, 1) := by decide +kernel
theorem dModel_knows_7 : decode nModel_knows.2.1 7 = .ok (.imul, 1) := by decide +kernel
theorem dModel_knows_8 : decode nModel_knows.2.1 8 = .ok (.iload_n 2, 1) := by decide +kernel
theorem dModel_knows_9 : decode nModel_knows.2.1 9 = .ok (.iadd, 1) := by decide +kernel
theorem dModel_knows_10 : decode nModel_knows.2.1 10 = .ok (.iaload, 1) := by decide +kernel
theorem dModel_knows_11 : decode nModel_knows.2.1 11 = .ok (.ifCond .lt 7, 3) := by decide +kernel
theorem dModel_knows_14 : decode nModel_knows.2.1 14 = .ok (.iconst 1, 1) := by decide +kernel
theorem dModel_knows_15 : decode nModel_knows.2.1 15 = .ok (.goto 4, 3) := by decide +kernel
theorem dModel_knows_18 : decode nModel_knows.2.1 18 = .ok (.iconst 0, 1) := by decide +kernel
theorem dModel_knows_19 : decode nModel_knows.2.1 19 = .ok (.ireturn, 1) := by decide +kernel
theorem dModel_isFresh_0 : decode nModel_isFresh.2.1 0 = .ok (.aload_n 0, 1) := by decide +kernel
theorem dModel_isFresh_1 : decode nModel_isFresh.2.1 1 = .ok (.iload_n 1, 1) := by decide +kernel
theorem dModel_isFresh_2 : decode nModel_isFresh.2.1 2 = .ok (.iload_n 2, 1) := by decide +kernel
theorem dModel_isFresh_3 : decode nModel_isFresh.2.1 3 = .ok (.invokevirtual 122, 3) := by decide +kernel
theorem dModel_isFresh_6 : decode nModel_isFresh.2.1 6 = .ok (.ifCond .eq 41, 3) := by decide +kernel
theorem dModel_isFresh_9 : decode nModel_isFresh.2.1 9 = .ok (.aload_n 0, 1) := by decide +kernel
theorem dModel_isFresh_10 : decode nModel_isFresh.2.1 10 = .ok (.getfield 119, 3) := by decide +kernel
theorem dModel_isFresh_13 : decode nModel_isFresh.2.1 13 = .ok (.aload_n 0, 1) := by decide +kernel
theorem dModel_isFresh_14 : decode nModel_isFresh.2.1 14 = .ok (.getfield 34, 3) := by decide +kernel
theorem dModel_isFresh_17 : decode nModel_isFresh.2.1 17 = .ok (.bipush 8, 2) := by decide +kernel
theorem dModel_isFresh_19 : decode nModel_isFresh.2.1 19 = .ok (.iload_n 1, 1) := by decide +kernel
theorem dModel_isFresh_20 : decode nModel_isFresh.2.1 20 = .ok (.imul, 1) := by decide +kernel
theorem dModel_isFresh_21 : decode nModel_isFresh.2.1 21 = .ok (.iload_n 2, 1) := by decide +kernel
theorem dModel_isFresh_22 : decode nModel_isFresh.2.1 22 = .ok (.iadd, 1) := by decide +kernel
theorem dModel_isFresh_23 : decode nModel_isFresh.2.1 23 = .ok (.iaload, 1) := by decide +kernel
theorem dModel_isFresh_24 : decode nModel_isFresh.2.1 24 = .ok (.isub, 1) := by decide +kernel
theorem dModel_isFresh_25 : decode nModel_isFresh.2.1 25 = .ok (.aload_n 0, 1) := by decide +kernel
theorem dModel_isFresh_26 : decode nModel_isFresh.2.1 26 = .ok (.iload_n 1, 1) := by decide +kernel
theorem dModel_isFresh_27 : decode nModel_isFresh.2.1 27 = .ok (.invokevirtual 112, 3) := by decide +kernel
theorem dModel_isFresh_30 : decode nModel_isFresh.2.1 30 = .ok (.ifCond .eq 8, 3) := by decide +kernel
theorem dModel_isFresh_33 : decode nModel_isFresh.2.1 33 = .ok (.bipush 60, 2) := by decide +kernel
theorem dModel_isFresh_35 : decode nModel_isFresh.2.1 35 = .ok (.goto 5, 3) := by decide +kernel
theorem dModel_isFresh_38 : decode nModel_isFresh.2.1 38 = .ok (.bipush 30, 2) := by decide +kernel
theorem dModel_isFresh_40 : decode nModel_isFresh.2.1 40 = .ok (.if_icmp .ge 7, 3) := by decide +kernel
theorem dModel_isFresh_43 : decode nModel_isFresh.2.1 43 = .ok (.iconst 1, 1) := by decide +kernel
theorem dModel_isFresh_44 : decode nModel_isFresh.2.1 44 = .ok (.goto 4, 3) := by decide +kernel
theorem dModel_isFresh_47 : decode nModel_isFresh.2.1 47 = .ok (.iconst 0, 1) := by decide +kernel
theorem dModel_isFresh_48 : decode nModel_isFresh.2.1 48 = .ok (.ireturn, 1) := by decide +kernel
theorem dModel_fresh_0 : decode nModel_fresh.2.1 0 = .ok (.aload_n 0, 1) := by decide +kernel
theorem dModel_fresh_1 : decode nModel_fresh.2.1 1 = .ok (.iload_n 1, 1) := by decide +kernel
theorem dModel_fresh_2 : decode nModel_fresh.2.1 2 = .ok (.invokevirtual 109, 3) := by decide +kernel
theorem dModel_fresh_5 : decode nModel_fresh.2.1 5 = .ok (.ifCond .eq 11, 3) := by decide +kernel
theorem dModel_fresh_8 : decode nModel_fresh.2.1 8 = .ok (.aload_n 0, 1) := by decide +kernel
theorem dModel_fresh_9 : decode nModel_fresh.2.1 9 = .ok (.iload_n 2, 1) := by decide +kernel
theorem dModel_fresh_10 : decode nModel_fresh.2.1 10 = .ok (.invokevirtual 87, 3) := by decide +kernel
theorem dModel_fresh_13 : decode nModel_fresh.2.1 13 = .ok (.ifCond .ne 6, 3) := by decide +kernel
theorem dModel_fresh_16 : decode nModel_fresh.2.1 16 = .ok (.ldc 85, 2) := by decide +kernel
theorem dModel_fresh_18 : decode nModel_fresh.2.1 18 = .ok (.ireturn, 1) := by decide +kernel
theorem dModel_fresh_19 : decode nModel_fresh.2.1 19 = .ok (.aload_n 0, 1) := by decide +kernel
theorem dModel_fresh_20 : decode nModel_fresh.2.1 20 = .ok (.iload_n 1, 1) := by decide +kernel
theorem dModel_fresh_21 : decode nModel_fresh.2.1 21 = .ok (.iload_n 2, 1) := by decide +kernel
theorem dModel_fresh_22 : decode nModel_fresh.2.1 22 = .ok (.invokevirtual 122, 3) := by decide +kernel
theorem dModel_fresh_25 : decode nModel_fresh.2.1 25 = .ok (.ifCond .ne 8, 3) := by decide +kernel
theorem dModel_fresh_28 : decode nModel_fresh.2.1 28 = .ok (.ldc 103, 2) := by decide +kernel
theorem dModel_fresh_30 : decode nModel_fresh.2.1 30 = .ok (.goto 17, 3) := by decide +kernel
theorem dModel_fresh_33 : decode nModel_fresh.2.1 33 = .ok (.aload_n 0, 1) := by decide +kernel
theorem dModel_fresh_34 : decode nModel_fresh.2.1 34 = .ok (.iload_n 1, 1) := by decide +kernel
theorem dModel_fresh_35 : decode nModel_fresh.2.1 35 = .ok (.iload_n 2, 1) := by decide +kernel
theorem dModel_fresh_36 : decode nModel_fresh.2.1 36 = .ok (.invokevirtual 125, 3) := by decide +kernel
theorem dModel_fresh_39 : decode nModel_fresh.2.1 39 = .ok (.ifCond .eq 7, 3) := by decide +kernel
theorem dModel_fresh_42 : decode nModel_fresh.2.1 42 = .ok (.iconst 1, 1) := by decide +kernel
theorem dModel_fresh_43 : decode nModel_fresh.2.1 43 = .ok (.goto 4, 3) := by decide +kernel
theorem dModel_fresh_46 : decode nModel_fresh.2.1 46 = .ok (.iconst 0, 1) := by decide +kernel
theorem dModel_fresh_47 : decode nModel_fresh.2.1 47 = .ok (.ireturn, 1) := by decide +kernel
theorem dModel_rehearse_0 : decode nModel_rehearse.2.1 0 = .ok (.aload_n 0, 1) := by decide +kernel
theorem dModel_rehearse_1 : decode nModel_rehearse.2.1 1 = .ok (.iload_n 1, 1) := by decide +kernel
theorem dModel_rehearse_2 : decode nModel_rehearse.2.1 2 = .ok (.invokevirtual 109, 3) := by decide +kernel
theorem dModel_rehearse_5 : decode nModel_rehearse.2.1 5 = .ok (.ifCond .eq 16, 3) := by decide +kernel
theorem dModel_rehearse_8 : decode nModel_rehearse.2.1 8 = .ok (.aload_n 0, 1) := by decide +kernel
theorem dModel_rehearse_9 : decode nModel_rehearse.2.1 9 = .ok (.iload_n 2, 1) := by decide +kernel
theorem dModel_rehearse_10 : decode nModel_rehearse.2.1 10 = .ok (.invokevirtual 109, 3) := by decide +kernel
theorem dModel_rehearse_13 : decode nModel_rehearse.2.1 13 = .ok (.ifCond .eq 8, 3) := by decide +kernel
theorem dModel_rehearse_16 : decode nModel_rehearse.2.1 16 = .ok (.iload_n 1, 1) := by decide +kernel
theorem dModel_rehearse_17 : decode nModel_rehearse.2.1 17 = .ok (.iload_n 2, 1) := by decide +kernel
theorem dModel_rehearse_18 : decode nModel_rehearse.2.1 18 = .ok (.if_icmp .ne 6, 3) := by decide +kernel
theorem dModel_rehearse_21 : decode nModel_rehearse.2.1 21 = .ok (.ldc 85, 2) := by decide +kernel
theorem dModel_rehearse_23 : decode nModel_rehearse.2.1 23 = .ok (.ireturn, 1) := by decide +kernel
theorem dModel_rehearse_24 : decode nModel_rehearse.2.1 24 = .ok (.aload_n 0, 1) := by decide +kernel
theorem dModel_rehearse_25 : decode nModel_rehearse.2.1 25 = .ok (.getfield 37, 3) := by decide +kernel
theorem dModel_rehearse_28 : decode nModel_rehearse.2.1 28 = .ok (.bipush 10, 2) := by decide +kernel
theorem dModel_rehearse_30 : decode nModel_rehearse.2.1 30 = .ok (.iload_n 1, 1) := by decide +kernel
theorem dModel_rehearse_31 : decode nModel_rehearse.2.1 31 = .ok (.imul, 1) := by decide +kernel
theorem dModel_rehearse_32 : decode nModel_rehearse.2.1 32 = .ok (.iload_n 2, 1) := by decide +kernel
theorem dModel_rehearse_33 : decode nModel_rehearse.2.1 33 = .ok (.iadd, 1) := by decide +kernel
theorem dModel_rehearse_34 : decode nModel_rehearse.2.1 34 = .ok (.iaload, 1) := by decide +kernel
theorem dModel_rehearse_35 : decode nModel_rehearse.2.1 35 = .ok (.istore_n 3, 1) := by decide +kernel
theorem dModel_rehearse_36 : decode nModel_rehearse.2.1 36 = .ok (.aload_n 0, 1) := by decide +kernel
theorem dModel_rehearse_37 : decode nModel_rehearse.2.1 37 = .ok (.getfield 37, 3) := by decide +kernel
theorem dModel_rehearse_40 : decode nModel_rehearse.2.1 40 = .ok (.bipush 10, 2) := by decide +kernel
theorem dModel_rehearse_42 : decode nModel_rehearse.2.1 42 = .ok (.iload_n 1, 1) := by decide +kernel
theorem dModel_rehearse_43 : decode nModel_rehearse.2.1 43 = .ok (.imul, 1) := by decide +kernel
theorem dModel_rehearse_44 : decode nModel_rehearse.2.1 44 = .ok (.iload_n 2, 1) := by decide +kernel
theorem dModel_rehearse_45 : decode nModel_rehearse.2.1 45 = .ok (.iadd, 1) := by decide +kernel
theorem dModel_rehearse_46 : decode nModel_rehearse.2.1 46 = .ok (.aload_n 0, 1) := by decide +kernel
theorem dModel_rehearse_47 : decode nModel_rehearse.2.1 47 = .ok (.getfield 119, 3) := by decide +kernel
theorem dModel_rehearse_50 : decode nModel_rehearse.2.1 50 = .ok (.iastore, 1) := by decide +kernel
theorem dModel_rehearse_51 : decode nModel_rehearse.2.1 51 = .ok (.iload_n 3, 1) := by decide +kernel
theorem dModel_rehearse_52 : decode nModel_rehearse.2.1 52 = .ok (.ifCond .ge 8, 3) := by decide +kernel
theorem dModel_rehearse_55 : decode nModel_rehearse.2.1 55 = .ok (.ldc 94, 2) := by decide +kernel
theorem dModel_rehearse_57 : decode nModel_rehearse.2.1 57 = .ok (.goto 9, 3) := by decide +kernel
theorem dModel_rehearse_60 : decode nModel_rehearse.2.1 60 = .ok (.aload_n 0, 1) := by decide +kernel
theorem dModel_rehearse_61 : decode nModel_rehearse.2.1 61 = .ok (.getfield 119, 3) := by decide +kernel
theorem dModel_rehearse_64 : decode nModel_rehearse.2.1 64 = .ok (.iload_n 3, 1) := by decide +kernel
theorem dModel_rehearse_65 : decode nModel_rehearse.2.1 65 = .ok (.isub, 1) := by decide +kernel
theorem dModel_rehearse_66 : decode nModel_rehearse.2.1 66 = .ok (.ireturn, 1) := by decide +kernel
theorem dModel_isRehearsed_0 : decode nModel_isRehearsed.2.1 0 = .ok (.aload_n 0, 1) := by decide +kernel
theorem dModel_isRehearsed_1 : decode nModel_isRehearsed.2.1 1 = .ok (.getfield 37, 3) := by decide +kernel
theorem dModel_isRehearsed_4 : decode nModel_isRehearsed.2.1 4 = .ok (.bipush 10, 2) := by decide +kernel
theorem dModel_isRehearsed_6 : decode nModel_isRehearsed.2.1 6 = .ok (.iload_n 1, 1) := by decide +kernel
theorem dModel_isRehearsed_7 : decode nModel_isRehearsed.2.1 7 = .ok (.imul, 1) := by decide +kernel
theorem dModel_isRehearsed_8 : decode nModel_isRehearsed.2.1 8 = .ok (.iload_n 2, 1) := by decide +kernel
theorem dModel_isRehearsed_9 : decode nModel_isRehearsed.2.1 9 = .ok (.iadd, 1) := by decide +kernel
theorem dModel_isRehearsed_10 : decode nModel_isRehearsed.2.1 10 = .ok (.iaload, 1) := by decide +kernel
theorem dModel_isRehearsed_11 : decode nModel_isRehearsed.2.1 11 = .ok (.istore_n 3, 1) := by decide +kernel
theorem dModel_isRehearsed_12 : decode nModel_isRehearsed.2.1 12 = .ok (.iload_n 3, 1) := by decide +kernel
theorem dModel_isRehearsed_13 : decode nModel_isRehearsed.2.1 13 = .ok (.ifCond .lt 18, 3) := by decide +kernel
theorem dModel_isRehearsed_16 : decode nModel_isRehearsed.2.1 16 = .ok (.aload_n 0, 1) := by decide +kernel
theorem dModel_isRehearsed_17 : decode nModel_isRehearsed.2.1 17 = .ok (.getfield 119, 3) := by decide +kernel
theorem dModel_isRehearsed_20 : decode nModel_isRehearsed.2.1 20 = .ok (.iload_n 3, 1) := by decide +kernel
theorem dModel_isRehearsed_21 : decode nModel_isRehearsed.2.1 21 = .ok (.isub, 1) := by decide +kernel
theorem dModel_isRehearsed_22 : decode nModel_isRehearsed.2.1 22 = .ok (.bipush 30, 2) := by decide +kernel
theorem dModel_isRehearsed_24 : decode nModel_isRehearsed.2.1 24 = .ok (.if_icmp .ge 7, 3) := by decide +kernel
theorem dModel_isRehearsed_27 : decode nModel_isRehearsed.2.1 27 = .ok (.iconst 1, 1) := by decide +kernel
theorem dModel_isRehearsed_28 : decode nModel_isRehearsed.2.1 28 = .ok (.goto 4, 3) := by decide +kernel
theorem dModel_isRehearsed_31 : decode nModel_isRehearsed.2.1 31 = .ok (.iconst 0, 1) := by decide +kernel
theorem dModel_isRehearsed_32 : decode nModel_isRehearsed.2.1 32 = .ok (.ireturn, 1) := by decide +kernel
theorem dModel_feud_0 : decode nModel_feud.2.1 0 = .ok (.aload_n 0, 1) := by decide +kernel
theorem dModel_feud_1 : decode nModel_feud.2.1 1 = .ok (.iload_n 1, 1) := by decide +kernel
theorem dModel_feud_2 : decode nModel_feud.2.1 2 = .ok (.invokevirtual 109, 3) := by decide +kernel
theorem dModel_feud_5 : decode nModel_feud.2.1 5 = .ok (.ifCond .eq 25, 3) := by decide +kernel
theorem dModel_feud_8 : decode nModel_feud.2.1 8 = .ok (.aload_n 0, 1) := by decide +kernel
theorem dModel_feud_9 : decode nModel_feud.2.1 9 = .ok (.iload_n 2, 1) := by decide +kernel
theorem dModel_feud_10 : decode nModel_feud.2.1 10 = .ok (.invokevirtual 109, 3) := by decide +kernel
theorem dModel_feud_13 : decode nModel_feud.2.1 13 = .ok (.ifCond .eq 17, 3) := by decide +kernel
theorem dModel_feud_16 : decode nModel_feud.2.1 16 = .ok (.iload_n 1, 1) := by decide +kernel
theorem dModel_feud_17 : decode nModel_feud.2.1 17 = .ok (.iload_n 2, 1) := by decide +kernel
theorem dModel_feud_18 : decode nModel_feud.2.1 18 = .ok (.if_icmp .eq 12, 3) := by decide +kernel
theorem dModel_feud_21 : decode nModel_feud.2.1 21 = .ok (.iload_n 3, 1) := by decide +kernel
theorem dModel_feud_22 : decode nModel_feud.2.1 22 = .ok (.iconst 0, 1) := by decide +kernel
theorem dModel_feud_23 : decode nModel_feud.2.1 23 = .ok (.iconst 1, 1) := by decide +kernel
theorem dModel_feud_24 : decode nModel_feud.2.1 24 = .ok (.invokestatic 78, 3) := by decide +kernel
theorem dModel_feud_27 : decode nModel_feud.2.1 27 = .ok (.ifCond .ne 6, 3) := by decide +kernel
theorem dModel_feud_30 : decode nModel_feud.2.1 30 = .ok (.ldc 85, 2) := by decide +kernel
theorem dModel_feud_32 : decode nModel_feud.2.1 32 = .ok (.ireturn, 1) := by decide +kernel
theorem dModel_feud_33 : decode nModel_feud.2.1 33 = .ok (.aload_n 0, 1) := by decide +kernel
theorem dModel_feud_34 : decode nModel_feud.2.1 34 = .ok (.getfield 40, 3) := by decide +kernel
theorem dModel_feud_37 : decode nModel_feud.2.1 37 = .ok (.iload_n 1, 1) := by decide +kernel
theorem dModel_feud_38 : decode nModel_feud.2.1 38 = .ok (.iaload, 1) := by decide +kernel
theorem dModel_feud_39 : decode nModel_feud.2.1 39 = .ok (.iload_n 2, 1) := by decide +kernel
theorem dModel_feud_40 : decode nModel_feud.2.1 40 = .ok (.ishr, 1) := by decide +kernel
theorem dModel_feud_41 : decode nModel_feud.2.1 41 = .ok (.iconst 1, 1) := by decide +kernel
theorem dModel_feud_42 : decode nModel_feud.2.1 42 = .ok (.iand, 1) := by decide +kernel
theorem dModel_feud_43 : decode nModel_feud.2.1 43 = .ok (.istore 4, 2) := by decide +kernel
theorem dModel_feud_45 : decode nModel_feud.2.1 45 = .ok (.iload 4, 2) := by decide +kernel
theorem dModel_feud_47 : decode nModel_feud.2.1 47 = .ok (.iload_n 3, 1) := by decide +kernel
theorem dModel_feud_48 : decode nModel_feud.2.1 48 = .ok (.if_icmp .eq 27, 3) := by decide +kernel
theorem dModel_feud_51 : decode nModel_feud.2.1 51 = .ok (.aload_n 0, 1) := by decide +kernel
theorem dModel_feud_52 : decode nModel_feud.2.1 52 = .ok (.getfield 40, 3) := by decide +kernel
theorem dModel_feud_55 : decode nModel_feud.2.1 55 = .ok (.iload_n 1, 1) := by decide +kernel
theorem dModel_feud_56 : decode nModel_feud.2.1 56 = .ok (.dup2, 1) := by decide +kernel
theorem dModel_feud_57 : decode nModel_feud.2.1 57 = .ok (.iaload, 1) := by decide +kernel
theorem dModel_feud_58 : decode nModel_feud.2.1 58 = .ok (.iconst 1, 1) := by decide +kernel
theorem dModel_feud_59 : decode nModel_feud.2.1 59 = .ok (.iload_n 2, 1) := by decide +kernel
theorem dModel_feud_60 : decode nModel_feud.2.1 60 = .ok (.ishl, 1) := by decide +kernel
theorem dModel_feud_61 : decode nModel_feud.2.1 61 = .ok (.ixor, 1) := by decide +kernel
theorem dModel_feud_62 : decode nModel_feud.2.1 62 = .ok (.iastore, 1) := by decide +kernel
theorem dModel_feud_63 : decode nModel_feud.2.1 63 = .ok (.aload_n 0, 1) := by decide +kernel
theorem dModel_feud_64 : decode nModel_feud.2.1 64 = .ok (.getfield 40, 3) := by decide +kernel
theorem dModel_feud_67 : decode nModel_feud.2.1 67 = .ok (.iload_n 2, 1) := by decide +kernel
theorem dModel_feud_68 : decode nModel_feud.2.1 68 = .ok (.dup2, 1) := by decide +kernel
theorem dModel_feud_69 : decode nModel_feud.2.1 69 = .ok (.iaload, 1) := by decide +kernel
theorem dModel_feud_70 : decode nModel_feud.2.1 70 = .ok (.iconst 1, 1) := by decide +kernel
theorem dModel_feud_71 : decode nModel_feud.2.1 71 = .ok (.iload_n 1, 1) := by decide +kernel
theorem dModel_feud_72 : decode nModel_feud.2.1 72 = .ok (.ishl, 1) := by decide +kernel
theorem dModel_feud_73 : decode nModel_feud.2.1 73 = .ok (.ixor, 1) := by decide +kernel
theorem dModel_feud_74 : decode nModel_feud.2.1 74 = .ok (.iastore, 1) := by decide +kernel
theorem dModel_feud_75 : decode nModel_feud.2.1 75 = .ok (.iload 4, 2) := by decide +kernel
theorem dModel_feud_77 : decode nModel_feud.2.1 77 = .ok (.ireturn, 1) := by decide +kernel
theorem dModel_days_0 : decode nModel_days.2.1 0 = .ok (.iload_n 1, 1) := by decide +kernel
theorem dModel_days_1 : decode nModel_days.2.1 1 = .ok (.iconst 1, 1) := by decide +kernel
theorem dModel_days_2 : decode nModel_days.2.1 2 = .ok (.bipush 60, 2) := by decide +kernel
theorem dModel_days_4 : decode nModel_days.2.1 4 = .ok (.invokestatic 78, 3) := by decide +kernel
theorem dModel_days_7 : decode nModel_days.2.1 7 = .ok (.ifCond .eq 15, 3) := by decide +kernel
theorem dModel_days_10 : decode nModel_days.2.1 10 = .ok (.aload_n 0, 1) := by decide +kernel
theorem dModel_days_11 : decode nModel_days.2.1 11 = .ok (.getfield 119, 3) := by decide +kernel
theorem dModel_days_14 : decode nModel_days.2.1 14 = .ok (.iload_n 1, 1) := by decide +kernel
theorem dModel_days_15 : decode nModel_days.2.1 15 = .ok (.iadd, 1) := by decide +kernel
theorem dModel_days_16 : decode nModel_days.2.1 16 = .ok (.sipush 400, 3) := by decide +kernel
theorem dModel_days_19 : decode nModel_days.2.1 19 = .ok (.if_icmp .le 6, 3) := by decide +kernel
theorem dModel_days_22 : decode nModel_days.2.1 22 = .ok (.ldc 85, 2) := by decide +kernel
theorem dModel_days_24 : decode nModel_days.2.1 24 = .ok (.ireturn, 1) := by decide +kernel
theorem dModel_days_25 : decode nModel_days.2.1 25 = .ok (.aload_n 0, 1) := by decide +kernel
theorem dModel_days_26 : decode nModel_days.2.1 26 = .ok (.dup, 1) := by decide +kernel
theorem dModel_days_27 : decode nModel_days.2.1 27 = .ok (.getfield 119, 3) := by decide +kernel
theorem dModel_days_30 : decode nModel_days.2.1 30 = .ok (.iload_n 1, 1) := by decide +kernel
theorem dModel_days_31 : decode nModel_days.2.1 31 = .ok (.iadd, 1) := by decide +kernel
theorem dModel_days_32 : decode nModel_days.2.1 32 = .ok (.putfield 119, 3) := by decide +kernel
theorem dModel_days_35 : decode nModel_days.2.1 35 = .ok (.iconst 0, 1) := by decide +kernel
theorem dModel_days_36 : decode nModel_days.2.1 36 = .ok (.istore_n 2, 1) := by decide +kernel
theorem dModel_days_37 : decode nModel_days.2.1 37 = .ok (.iload_n 2, 1) := by decide +kernel
theorem dModel_days_38 : decode nModel_days.2.1 38 = .ok (.aload_n 0, 1) := by decide +kernel
theorem dModel_days_39 : decode nModel_days.2.1 39 = .ok (.getfield 82, 3) := by decide +kernel
theorem dModel_days_42 : decode nModel_days.2.1 42 = .ok (.if_icmp .ge 17, 3) := by decide +kernel
theorem dModel_days_45 : decode nModel_days.2.1 45 = .ok (.aload_n 0, 1) := by decide +kernel
theorem dModel_days_46 : decode nModel_days.2.1 46 = .ok (.getfield 43, 3) := by decide +kernel
theorem dModel_days_49 : decode nModel_days.2.1 49 = .ok (.iload_n 2, 1) := by decide +kernel
theorem dModel_days_50 : decode nModel_days.2.1 50 = .ok (.bipush 30, 2) := by decide +kernel
theorem dModel_days_52 : decode nModel_days.2.1 52 = .ok (.iastore, 1) := by decide +kernel
theorem dModel_days_53 : decode nModel_days.2.1 53 = .ok (.iinc 2 1, 3) := by decide +kernel
theorem dModel_days_56 : decode nModel_days.2.1 56 = .ok (.goto (-19), 3) := by decide +kernel
theorem dModel_days_59 : decode nModel_days.2.1 59 = .ok (.aload_n 0, 1) := by decide +kernel
theorem dModel_days_60 : decode nModel_days.2.1 60 = .ok (.iconst 0, 1) := by decide +kernel
theorem dModel_days_61 : decode nModel_days.2.1 61 = .ok (.putfield 128, 3) := by decide +kernel
theorem dModel_days_64 : decode nModel_days.2.1 64 = .ok (.aload_n 0, 1) := by decide +kernel
theorem dModel_days_65 : decode nModel_days.2.1 65 = .ok (.getfield 119, 3) := by decide +kernel
theorem dModel_days_68 : decode nModel_days.2.1 68 = .ok (.ireturn, 1) := by decide +kernel
theorem dModel_out_0 : decode nModel_out.2.1 0 = .ok (.aload_n 0, 1) := by decide +kernel
theorem dModel_out_1 : decode nModel_out.2.1 1 = .ok (.iload_n 1, 1) := by decide +kernel
theorem dModel_out_2 : decode nModel_out.2.1 2 = .ok (.invokevirtual 109, 3) := by decide +kernel
theorem dModel_out_5 : decode nModel_out.2.1 5 = .ok (.ifCond .eq 13, 3) := by decide +kernel
theorem dModel_out_8 : decode nModel_out.2.1 8 = .ok (.iload_n 2, 1) := by decide +kernel
theorem dModel_out_9 : decode nModel_out.2.1 9 = .ok (.iconst 0, 1) := by decide +kernel
theorem dModel_out_10 : decode nModel_out.2.1 10 = .ok (.bipush 30, 2) := by decide +kernel
theorem dModel_out_12 : decode nModel_out.2.1 12 = .ok (.invokestatic 78, 3) := by decide +kernel
theorem dModel_out_15 : decode nModel_out.2.1 15 = .ok (.ifCond .ne 6, 3) := by decide +kernel
theorem dModel_out_18 : decode nModel_out.2.1 18 = .ok (.ldc 85, 2) := by decide +kernel
theorem dModel_out_20 : decode nModel_out.2.1 20 = .ok (.ireturn, 1) := by decide +kernel
theorem dModel_out_21 : decode nModel_out.2.1 21 = .ok (.aload_n 0, 1) := by decide +kernel
theorem dModel_out_22 : decode nModel_out.2.1 22 = .ok (.getfield 43, 3) := by decide +kernel
theorem dModel_out_25 : decode nModel_out.2.1 25 = .ok (.iload_n 1, 1) := by decide +kernel
theorem dModel_out_26 : decode nModel_out.2.1 26 = .ok (.iaload, 1) := by decide +kernel
theorem dModel_out_27 : decode nModel_out.2.1 27 = .ok (.istore_n 3, 1) := by decide +kernel
theorem dModel_out_28 : decode nModel_out.2.1 28 = .ok (.aload_n 0, 1) := by decide +kernel
theorem dModel_out_29 : decode nModel_out.2.1 29 = .ok (.getfield 43, 3) := by decide +kernel
theorem dModel_out_32 : decode nModel_out.2.1 32 = .ok (.iload_n 1, 1) := by decide +kernel
theorem dModel_out_33 : decode nModel_out.2.1 33 = .ok (.iload_n 2, 1) := by decide +kernel
theorem dModel_out_34 : decode nModel_out.2.1 34 = .ok (.iastore, 1) := by decide +kernel
theorem dModel_out_35 : decode nModel_out.2.1 35 = .ok (.iload_n 3, 1) := by decide +kernel
theorem dModel_out_36 : decode nModel_out.2.1 36 = .ok (.ireturn, 1) := by decide +kernel
theorem dModel_canHave_0 : decode nModel_canHave.2.1 0 = .ok (.aload_n 0, 1) := by decide +kernel
theorem dModel_canHave_1 : decode nModel_canHave.2.1 1 = .ok (.getfield 31, 3) := by decide +kernel
theorem dModel_canHave_4 : decode nModel_canHave.2.1 4 = .ok (.iload_n 1, 1) := by decide +kernel
theorem dModel_canHave_5 : decode nModel_canHave.2.1 5 = .ok (.iaload, 1) := by decide +kernel
theorem dModel_canHave_6 : decode nModel_canHave.2.1 6 = .ok (.iload_n 2, 1) := by decide +kernel
theorem dModel_canHave_7 : decode nModel_canHave.2.1 7 = .ok (.if_icmp .eq 12, 3) := by decide +kernel
theorem dModel_canHave_10 : decode nModel_canHave.2.1 10 = .ok (.aload_n 0, 1) := by decide +kernel
theorem dModel_canHave_11 : decode nModel_canHave.2.1 11 = .ok (.iload_n 1, 1) := by decide +kernel
theorem dModel_canHave_12 : decode nModel_canHave.2.1 12 = .ok (.iload_n 2, 1) := by decide +kernel
theorem dModel_canHave_13 : decode nModel_canHave.2.1 13 = .ok (.invokevirtual 122, 3) := by decide +kernel
theorem dModel_canHave_16 : decode nModel_canHave.2.1 16 = .ok (.ifCond .eq 26, 3) := by decide +kernel
theorem dModel_canHave_19 : decode nModel_canHave.2.1 19 = .ok (.aload_n 0, 1) := by decide +kernel
theorem dModel_canHave_20 : decode nModel_canHave.2.1 20 = .ok (.getfield 28, 3) := by decide +kernel
theorem dModel_canHave_23 : decode nModel_canHave.2.1 23 = .ok (.iload_n 1, 1) := by decide +kernel
theorem dModel_canHave_24 : decode nModel_canHave.2.1 24 = .ok (.iaload, 1) := by decide +kernel
theorem dModel_canHave_25 : decode nModel_canHave.2.1 25 = .ok (.aload_n 0, 1) := by decide +kernel
theorem dModel_canHave_26 : decode nModel_canHave.2.1 26 = .ok (.getfield 7, 3) := by decide +kernel
theorem dModel_canHave_29 : decode nModel_canHave.2.1 29 = .ok (.iload_n 2, 1) := by decide +kernel
theorem dModel_canHave_30 : decode nModel_canHave.2.1 30 = .ok (.iaload, 1) := by decide +kernel
theorem dModel_canHave_31 : decode nModel_canHave.2.1 31 = .ok (.invokestatic 132, 3) := by decide +kernel
theorem dModel_canHave_34 : decode nModel_canHave.2.1 34 = .ok (.iconst 1, 1) := by decide +kernel
theorem dModel_canHave_35 : decode nModel_canHave.2.1 35 = .ok (.if_icmp .gt 7, 3) := by decide +kernel
theorem dModel_canHave_38 : decode nModel_canHave.2.1 38 = .ok (.iconst 1, 1) := by decide +kernel
theorem dModel_canHave_39 : decode nModel_canHave.2.1 39 = .ok (.goto 4, 3) := by decide +kernel
theorem dModel_canHave_42 : decode nModel_canHave.2.1 42 = .ok (.iconst 0, 1) := by decide +kernel
theorem dModel_canHave_43 : decode nModel_canHave.2.1 43 = .ok (.ireturn, 1) := by decide +kernel
theorem dModel_isInFrom_0 : decode nModel_isInFrom.2.1 0 = .ok (.iconst 0, 1) := by decide +kernel
theorem dModel_isInFrom_1 : decode nModel_isInFrom.2.1 1 = .ok (.istore_n 3, 1) := by decide +kernel
theorem dModel_isInFrom_2 : decode nModel_isInFrom.2.1 2 = .ok (.iload_n 2, 1) := by decide +kernel
theorem dModel_isInFrom_3 : decode nModel_isInFrom.2.1 3 = .ok (.istore 4, 2) := by decide +kernel
theorem dModel_isInFrom_5 : decode nModel_isInFrom.2.1 5 = .ok (.iload 4, 2) := by decide +kernel
theorem dModel_isInFrom_7 : decode nModel_isInFrom.2.1 7 = .ok (.bipush 30, 2) := by decide +kernel
theorem dModel_isInFrom_9 : decode nModel_isInFrom.2.1 9 = .ok (.if_icmp .ge 29, 3) := by decide +kernel
theorem dModel_isInFrom_12 : decode nModel_isInFrom.2.1 12 = .ok (.iload_n 3, 1) := by decide +kernel
theorem dModel_isInFrom_13 : decode nModel_isInFrom.2.1 13 = .ok (.ifCond .ne 13, 3) := by decide +kernel
theorem dModel_isInFrom_16 : decode nModel_isInFrom.2.1 16 = .ok (.aload_n 0, 1) := by decide +kernel
theorem dModel_isInFrom_17 : decode nModel_isInFrom.2.1 17 = .ok (.iload_n 1, 1) := by decide +kernel
theorem dModel_isInFrom_18 : decode nModel_isInFrom.2.1 18 = .ok (.iload 4, 2) := by decide +kernel
theorem dModel_isInFrom_20 : decode nModel_isInFrom.2.1 20 = .ok (.invokevirtual 99, 3) := by decide +kernel
theorem dModel_isInFrom_23 : decode nModel_isInFrom.2.1 23 = .ok (.ifCond .eq 7, 3) := by decide +kernel
theorem dModel_isInFrom_26 : decode nModel_isInFrom.2.1 26 = .ok (.iconst 1, 1) := by decide +kernel
theorem dModel_isInFrom_27 : decode nModel_isInFrom.2.1 27 = .ok (.goto 4, 3) := by decide +kernel
theorem dModel_isInFrom_30 : decode nModel_isInFrom.2.1 30 = .ok (.iconst 0, 1) := by decide +kernel
theorem dModel_isInFrom_31 : decode nModel_isInFrom.2.1 31 = .ok (.istore_n 3, 1) := by decide +kernel
theorem dModel_isInFrom_32 : decode nModel_isInFrom.2.1 32 = .ok (.iinc 4 1, 3) := by decide +kernel
theorem dModel_isInFrom_35 : decode nModel_isInFrom.2.1 35 = .ok (.goto (-30), 3) := by decide +kernel
theorem dModel_isInFrom_38 : decode nModel_isInFrom.2.1 38 = .ok (.iload_n 3, 1) := by decide +kernel
theorem dModel_isInFrom_39 : decode nModel_isInFrom.2.1 39 = .ok (.ireturn, 1) := by decide +kernel
theorem dModel_meet_0 : decode nModel_meet.2.1 0 = .ok (.iconst 0, 1) := by decide +kernel
theorem dModel_meet_1 : decode nModel_meet.2.1 1 = .ok (.istore_n 3, 1) := by decide +kernel
theorem dModel_meet_2 : decode nModel_meet.2.1 2 = .ok (.iload_n 3, 1) := by decide +kernel
theorem dModel_meet_3 : decode nModel_meet.2.1 3 = .ok (.bipush 30, 2) := by decide +kernel
theorem dModel_meet_5 : decode nModel_meet.2.1 5 = .ok (.if_icmp .ge 57, 3) := by decide +kernel
theorem dModel_meet_8 : decode nModel_meet.2.1 8 = .ok (.aload_n 0, 1) := by decide +kernel
theorem dModel_meet_9 : decode nModel_meet.2.1 9 = .ok (.iload_n 1, 1) := by decide +kernel
theorem dModel_meet_10 : decode nModel_meet.2.1 10 = .ok (.iload_n 3, 1) := by decide +kernel
theorem dModel_meet_11 : decode nModel_meet.2.1 11 = .ok (.invokevirtual 99, 3) := by decide +kernel
theorem dModel_meet_14 : decode nModel_meet.2.1 14 = .ok (.ifCond .eq 12, 3) := by decide +kernel
theorem dModel_meet_17 : decode nModel_meet.2.1 17 = .ok (.aload_n 0, 1) := by decide +kernel
theorem dModel_meet_18 : decode nModel_meet.2.1 18 = .ok (.iload_n 2, 1) := by decide +kernel
theorem dModel_meet_19 : decode nModel_meet.2.1 19 = .ok (.iload_n 3, 1) := by decide +kernel
theorem dModel_meet_20 : decode nModel_meet.2.1 20 = .ok (.invokevirtual 99, 3) := by decide +kernel
theorem dModel_meet_23 : decode nModel_meet.2.1 23 = .ok (.ifCond .ne 31, 3) := by decide +kernel
theorem dModel_meet_26 : decode nModel_meet.2.1 26 = .ok (.iload_n 3, 1) := by decide +kernel
theorem dModel_meet_27 : decode nModel_meet.2.1 27 = .ok (.iconst 1, 1) := by decide +kernel
theorem dModel_meet_28 : decode nModel_meet.2.1 28 = .ok (.iadd, 1) := by decide +kernel
theorem dModel_meet_29 : decode nModel_meet.2.1 29 = .ok (.bipush 30, 2) := by decide +kernel
theorem dModel_meet_31 : decode nModel_meet.2.1 31 = .ok (.if_icmp .ge 25, 3) := by decide +kernel
theorem dModel_meet_34 : decode nModel_meet.2.1 34 = .ok (.aload_n 0, 1) := by decide +kernel
theorem dModel_meet_35 : decode nModel_meet.2.1 35 = .ok (.iload_n 1, 1) := by decide +kernel
theorem dModel_meet_36 : decode nModel_meet.2.1 36 = .ok (.iload_n 2, 1) := by decide +kernel
theorem dModel_meet_37 : decode nModel_meet.2.1 37 = .ok (.iload_n 3, 1) := by decide +kernel
theorem dModel_meet_38 : decode nModel_meet.2.1 38 = .ok (.invokevirtual 136, 3) := by decide +kernel
theorem dModel_meet_41 : decode nModel_meet.2.1 41 = .ok (.ifCond .ne 13, 3) := by decide +kernel
theorem dModel_meet_44 : decode nModel_meet.2.1 44 = .ok (.aload_n 0, 1) := by decide +kernel
theorem dModel_meet_45 : decode nModel_meet.2.1 45 = .ok (.iload_n 2, 1) := by decide +kernel
theorem dModel_meet_46 : decode nModel_meet.2.1 46 = .ok (.iload_n 1, 1) := by decide +kernel
theorem dModel_meet_47 : decode nModel_meet.2.1 47 = .ok (.iload_n 3, 1) := by decide +kernel
theorem dModel_meet_48 : decode nModel_meet.2.1 48 = .ok (.invokevirtual 136, 3) := by decide +kernel
theorem dModel_meet_51 : decode nModel_meet.2.1 51 = .ok (.ifCond .eq 5, 3) := by decide +kernel
theorem dModel_meet_54 : decode nModel_meet.2.1 54 = .ok (.iconst 1, 1) := by decide +kernel
theorem dModel_meet_55 : decode nModel_meet.2.1 55 = .ok (.ireturn, 1) := by decide +kernel
theorem dModel_meet_56 : decode nModel_meet.2.1 56 = .ok (.iinc 3 1, 3) := by decide +kernel
theorem dModel_meet_59 : decode nModel_meet.2.1 59 = .ok (.goto (-57), 3) := by decide +kernel
theorem dModel_meet_62 : decode nModel_meet.2.1 62 = .ok (.iconst 0, 1) := by decide +kernel
theorem dModel_meet_63 : decode nModel_meet.2.1 63 = .ok (.ireturn, 1) := by decide +kernel
theorem dModel_isFar_0 : decode nModel_isFar.2.1 0 = .ok (.aload_n 0, 1) := by decide +kernel
theorem dModel_isFar_1 : decode nModel_isFar.2.1 1 = .ok (.iload_n 1, 1) := by decide +kernel
theorem dModel_isFar_2 : decode nModel_isFar.2.1 2 = .ok (.iload_n 3, 1) := by decide +kernel
theorem dModel_isFar_3 : decode nModel_isFar.2.1 3 = .ok (.invokevirtual 99, 3) := by decide +kernel
theorem dModel_isFar_6 : decode nModel_isFar.2.1 6 = .ok (.ifCond .eq 49, 3) := by decide +kernel
theorem dModel_isFar_9 : decode nModel_isFar.2.1 9 = .ok (.aload_n 0, 1) := by decide +kernel
theorem dModel_isFar_10 : decode nModel_isFar.2.1 10 = .ok (.iload_n 2, 1) := by decide +kernel
theorem dModel_isFar_11 : decode nModel_isFar.2.1 11 = .ok (.iload_n 3, 1) := by decide +kernel
theorem dModel_isFar_12 : decode nModel_isFar.2.1 12 = .ok (.iconst 1, 1) := by decide +kernel
theorem dModel_isFar_13 : decode nModel_isFar.2.1 13 = .ok (.iadd, 1) := by decide +kernel
theorem dModel_isFar_14 : decode nModel_isFar.2.1 14 = .ok (.invokevirtual 99, 3) := by decide +kernel
theorem dModel_isFar_17 : decode nModel_isFar.2.1 17 = .ok (.ifCond .eq 38, 3) := by decide +kernel
theorem dModel_isFar_20 : decode nModel_isFar.2.1 20 = .ok (.aload_n 0, 1) := by decide +kernel
theorem dModel_isFar_21 : decode nModel_isFar.2.1 21 = .ok (.getfield 13, 3) := by decide +kernel
theorem dModel_isFar_24 : decode nModel_isFar.2.1 24 = .ok (.bipush 30, 2) := by decide +kernel
theorem dModel_isFar_26 : decode nModel_isFar.2.1 26 = .ok (.iload_n 1, 1) := by decide +kernel
theorem dModel_isFar_27 : decode nModel_isFar.2.1 27 = .ok (.imul, 1) := by decide +kernel
theorem dModel_isFar_28 : decode nModel_isFar.2.1 28 = .ok (.iload_n 3, 1) := by decide +kernel
theorem dModel_isFar_29 : decode nModel_isFar.2.1 29 = .ok (.iadd, 1) := by decide +kernel
theorem dModel_isFar_30 : decode nModel_isFar.2.1 30 = .ok (.iaload, 1) := by decide +kernel
theorem dModel_isFar_31 : decode nModel_isFar.2.1 31 = .ok (.aload_n 0, 1) := by decide +kernel
theorem dModel_isFar_32 : decode nModel_isFar.2.1 32 = .ok (.getfield 13, 3) := by decide +kernel
theorem dModel_isFar_35 : decode nModel_isFar.2.1 35 = .ok (.bipush 30, 2) := by decide +kernel
theorem dModel_isFar_37 : decode nModel_isFar.2.1 37 = .ok (.iload_n 2, 1) := by decide +kernel
theorem dModel_isFar_38 : decode nModel_isFar.2.1 38 = .ok (.imul, 1) := by decide +kernel
theorem dModel_isFar_39 : decode nModel_isFar.2.1 39 = .ok (.iload_n 3, 1) := by decide +kernel
theorem dModel_isFar_40 : decode nModel_isFar.2.1 40 = .ok (.iadd, 1) := by decide +kernel
theorem dModel_isFar_41 : decode nModel_isFar.2.1 41 = .ok (.iconst 1, 1) := by decide +kernel
theorem dModel_isFar_42 : decode nModel_isFar.2.1 42 = .ok (.iadd, 1) := by decide +kernel
theorem dModel_isFar_43 : decode nModel_isFar.2.1 43 = .ok (.iaload, 1) := by decide +kernel
theorem dModel_isFar_44 : decode nModel_isFar.2.1 44 = .ok (.invokestatic 132, 3) := by decide +kernel
theorem dModel_isFar_47 : decode nModel_isFar.2.1 47 = .ok (.iconst 5, 1) := by decide +kernel
theorem dModel_isFar_48 : decode nModel_isFar.2.1 48 = .ok (.if_icmp .le 7, 3) := by decide +kernel
theorem dModel_isFar_51 : decode nModel_isFar.2.1 51 = .ok (.iconst 1, 1) := by decide +kernel
theorem dModel_isFar_52 : decode nModel_isFar.2.1 52 = .ok (.goto 4, 3) := by decide +kernel
theorem dModel_isFar_55 : decode nModel_isFar.2.1 55 = .ok (.iconst 0, 1) := by decide +kernel
theorem dModel_isFar_56 : decode nModel_isFar.2.1 56 = .ok (.ireturn, 1) := by decide +kernel
theorem dModel_areBeside_0 : decode nModel_areBeside.2.1 0 = .ok (.iconst 0, 1) := by decide +kernel
theorem dModel_areBeside_1 : decode nModel_areBeside.2.1 1 = .ok (.istore_n 3, 1) := by decide +kernel
theorem dModel_areBeside_2 : decode nModel_areBeside.2.1 2 = .ok (.iload_n 3, 1) := by decide +kernel
theorem dModel_areBeside_3 : decode nModel_areBeside.2.1 3 = .ok (.bipush 30, 2) := by decide +kernel
theorem dModel_areBeside_5 : decode nModel_areBeside.2.1 5 = .ok (.if_icmp .ge 58, 3) := by decide +kernel
theorem dModel_areBeside_8 : decode nModel_areBeside.2.1 8 = .ok (.aload_n 0, 1) := by decide +kernel
theorem dModel_areBeside_9 : decode nModel_areBeside.2.1 9 = .ok (.iload_n 1, 1) := by decide +kernel
theorem dModel_areBeside_10 : decode nModel_areBeside.2.1 10 = .ok (.iload_n 3, 1) := by decide +kernel
theorem dModel_areBeside_11 : decode nModel_areBeside.2.1 11 = .ok (.invokevirtual 99, 3) := by decide +kernel
theorem dModel_areBeside_14 : decode nModel_areBeside.2.1 14 = .ok (.ifCond .eq 43, 3) := by decide +kernel
theorem dModel_areBeside_17 : decode nModel_areBeside.2.1 17 = .ok (.aload_n 0, 1) := by decide +kernel
theorem dModel_areBeside_18 : decode nModel_areBeside.2.1 18 = .ok (.iload_n 2, 1) := by decide +kernel
theorem dModel_areBeside_19 : decode nModel_areBeside.2.1 19 = .ok (.iload_n 3, 1) := by decide +kernel
theorem dModel_areBeside_20 : decode nModel_areBeside.2.1 20 = .ok (.invokevirtual 99, 3) := by decide +kernel
theorem dModel_areBeside_23 : decode nModel_areBeside.2.1 23 = .ok (.ifCond .eq 34, 3) := by decide +kernel
theorem dModel_areBeside_26 : decode nModel_areBeside.2.1 26 = .ok (.aload_n 0, 1) := by decide +kernel
theorem dModel_areBeside_27 : decode nModel_areBeside.2.1 27 = .ok (.getfield 13, 3) := by decide +kernel
theorem dModel_areBeside_30 : decode nModel_areBeside.2.1 30 = .ok (.bipush 30, 2) := by decide +kernel
theorem dModel_areBeside_32 : decode nModel_areBeside.2.1 32 = .ok (.iload_n 1, 1) := by decide +kernel
theorem dModel_areBeside_33 : decode nModel_areBeside.2.1 33 = .ok (.imul, 1) := by decide +kernel
theorem dModel_areBeside_34 : decode nModel_areBeside.2.1 34 = .ok (.iload_n 3, 1) := by decide +kernel
theorem dModel_areBeside_35 : decode nModel_areBeside.2.1 35 = .ok (.iadd, 1) := by decide +kernel
theorem dModel_areBeside_36 : decode nModel_areBeside.2.1 36 = .ok (.iaload, 1) := by decide +kernel
theorem dModel_areBeside_37 : decode nModel_areBeside.2.1 37 = .ok (.aload_n 0, 1) := by decide +kernel
theorem dModel_areBeside_38 : decode nModel_areBeside.2.1 38 = .ok (.getfield 13, 3) := by decide +kernel
theorem dModel_areBeside_41 : decode nModel_areBeside.2.1 41 = .ok (.bipush 30, 2) := by decide +kernel
theorem dModel_areBeside_43 : decode nModel_areBeside.2.1 43 = .ok (.iload_n 2, 1) := by decide +kernel
theorem dModel_areBeside_44 : decode nModel_areBeside.2.1 44 = .ok (.imul, 1) := by decide +kernel
theorem dModel_areBeside_45 : decode nModel_areBeside.2.1 45 = .ok (.iload_n 3, 1) := by decide +kernel
theorem dModel_areBeside_46 : decode nModel_areBeside.2.1 46 = .ok (.iadd, 1) := by decide +kernel
theorem dModel_areBeside_47 : decode nModel_areBeside.2.1 47 = .ok (.iaload, 1) := by decide +kernel
theorem dModel_areBeside_48 : decode nModel_areBeside.2.1 48 = .ok (.invokestatic 132, 3) := by decide +kernel
theorem dModel_areBeside_51 : decode nModel_areBeside.2.1 51 = .ok (.iconst 2, 1) := by decide +kernel
theorem dModel_areBeside_52 : decode nModel_areBeside.2.1 52 = .ok (.if_icmp .ge 5, 3) := by decide +kernel
theorem dModel_areBeside_55 : decode nModel_areBeside.2.1 55 = .ok (.iconst 1, 1) := by decide +kernel
theorem dModel_areBeside_56 : decode nModel_areBeside.2.1 56 = .ok (.ireturn, 1) := by decide +kernel
theorem dModel_areBeside_57 : decode nModel_areBeside.2.1 57 = .ok (.iinc 3 1, 3) := by decide +kernel
theorem dModel_areBeside_60 : decode nModel_areBeside.2.1 60 = .ok (.goto (-58), 3) := by decide +kernel
theorem dModel_areBeside_63 : decode nModel_areBeside.2.1 63 = .ok (.iconst 0, 1) := by decide +kernel
theorem dModel_areBeside_64 : decode nModel_areBeside.2.1 64 = .ok (.ireturn, 1) := by decide +kernel
theorem dModel_fits_0 : decode nModel_fits.2.1 0 = .ok (.aload_n 0, 1) := by decide +kernel
theorem dModel_fits_1 : decode nModel_fits.2.1 1 = .ok (.iload_n 1, 1) := by decide +kernel
theorem dModel_fits_2 : decode nModel_fits.2.1 2 = .ok (.iload_n 2, 1) := by decide +kernel
theorem dModel_fits_3 : decode nModel_fits.2.1 3 = .ok (.invokevirtual 139, 3) := by decide +kernel
theorem dModel_fits_6 : decode nModel_fits.2.1 6 = .ok (.ifCond .eq 17, 3) := by decide +kernel
theorem dModel_fits_9 : decode nModel_fits.2.1 9 = .ok (.aload_n 0, 1) := by decide +kernel
theorem dModel_fits_10 : decode nModel_fits.2.1 10 = .ok (.iload_n 2, 1) := by decide +kernel
theorem dModel_fits_11 : decode nModel_fits.2.1 11 = .ok (.aload_n 0, 1) := by decide +kernel
theorem dModel_fits_12 : decode nModel_fits.2.1 12 = .ok (.getfield 43, 3) := by decide +kernel
theorem dModel_fits_15 : decode nModel_fits.2.1 15 = .ok (.iload_n 1, 1) := by decide +kernel
theorem dModel_fits_16 : decode nModel_fits.2.1 16 = .ok (.iaload, 1) := by decide +kernel
theorem dModel_fits_17 : decode nModel_fits.2.1 17 = .ok (.invokevirtual 142, 3) := by decide +kernel
theorem dModel_fits_20 : decode nModel_fits.2.1 20 = .ok (.ifCond .eq 5, 3) := by decide +kernel
theorem dModel_fits_23 : decode nModel_fits.2.1 23 = .ok (.iconst 0, 1) := by decide +kernel
theorem dModel_fits_24 : decode nModel_fits.2.1 24 = .ok (.ireturn, 1) := by decide +kernel
theorem dModel_fits_25 : decode nModel_fits.2.1 25 = .ok (.iconst 0, 1) := by decide +kernel
theorem dModel_fits_26 : decode nModel_fits.2.1 26 = .ok (.istore_n 3, 1) := by decide +kernel
theorem dModel_fits_27 : decode nModel_fits.2.1 27 = .ok (.iload_n 3, 1) := by decide +kernel
theorem dModel_fits_28 : decode nModel_fits.2.1 28 = .ok (.iload_n 2, 1) := by decide +kernel
theorem dModel_fits_29 : decode nModel_fits.2.1 29 = .ok (.if_icmp .ge 69, 3) := by decide +kernel
theorem dModel_fits_32 : decode nModel_fits.2.1 32 = .ok (.aload_n 0, 1) := by decide +kernel
theorem dModel_fits_33 : decode nModel_fits.2.1 33 = .ok (.getfield 58, 3) := by decide +kernel
theorem dModel_fits_36 : decode nModel_fits.2.1 36 = .ok (.iload_n 3, 1) := by decide +kernel
theorem dModel_fits_37 : decode nModel_fits.2.1 37 = .ok (.iaload, 1) := by decide +kernel
theorem dModel_fits_38 : decode nModel_fits.2.1 38 = .ok (.istore 4, 2) := by decide +kernel
theorem dModel_fits_40 : decode nModel_fits.2.1 40 = .ok (.iload 4, 2) := by decide +kernel
theorem dModel_fits_42 : decode nModel_fits.2.1 42 = .ok (.iload_n 1, 1) := by decide +kernel
theorem dModel_fits_43 : decode nModel_fits.2.1 43 = .ok (.if_icmp .ne 12, 3) := by decide +kernel
theorem dModel_fits_46 : decode nModel_fits.2.1 46 = .ok (.aload_n 0, 1) := by decide +kernel
theorem dModel_fits_47 : decode nModel_fits.2.1 47 = .ok (.iload_n 2, 1) := by decide +kernel
theorem dModel_fits_48 : decode nModel_fits.2.1 48 = .ok (.iload_n 3, 1) := by decide +kernel
theorem dModel_fits_49 : decode nModel_fits.2.1 49 = .ok (.invokevirtual 145, 3) := by decide +kernel
theorem dModel_fits_52 : decode nModel_fits.2.1 52 = .ok (.ifCond .ne 38, 3) := by decide +kernel
theorem dModel_fits_55 : decode nModel_fits.2.1 55 = .ok (.iload 4, 2) := by decide +kernel
theorem dModel_fits_57 : decode nModel_fits.2.1 57 = .ok (.ifCond .lt 35, 3) := by decide +kernel
theorem dModel_fits_60 : decode nModel_fits.2.1 60 = .ok (.iload 4, 2) := by decide +kernel
theorem dModel_fits_62 : decode nModel_fits.2.1 62 = .ok (.iload_n 1, 1) := by decide +kernel
theorem dModel_fits_63 : decode nModel_fits.2.1 63 = .ok (.if_icmp .eq 29, 3) := by decide +kernel
theorem dModel_fits_66 : decode nModel_fits.2.1 66 = .ok (.aload_n 0, 1) := by decide +kernel
theorem dModel_fits_67 : decode nModel_fits.2.1 67 = .ok (.getfield 40, 3) := by decide +kernel
theorem dModel_fits_70 : decode nModel_fits.2.1 70 = .ok (.iload_n 1, 1) := by decide +kernel
theorem dModel_fits_71 : decode nModel_fits.2.1 71 = .ok (.iaload, 1) := by decide +kernel
theorem dModel_fits_72 : decode nModel_fits.2.1 72 = .ok (.iload 4, 2) := by decide +kernel
theorem dModel_fits_74 : decode nModel_fits.2.1 74 = .ok (.ishr, 1) := by decide +kernel
theorem dModel_fits_75 : decode nModel_fits.2.1 75 = .ok (.iconst 1, 1) := by decide +kernel
theorem dModel_fits_76 : decode nModel_fits.2.1 76 = .ok (.iand, 1) := by decide +kernel
theorem dModel_fits_77 : decode nModel_fits.2.1 77 = .ok (.iconst 1, 1) := by decide +kernel
theorem dModel_fits_78 : decode nModel_fits.2.1 78 = .ok (.if_icmp .ne 14, 3) := by decide +kernel
theorem dModel_fits_81 : decode nModel_fits.2.1 81 = .ok (.aload_n 0, 1) := by decide +kernel
theorem dModel_fits_82 : decode nModel_fits.2.1 82 = .ok (.iload_n 2, 1) := by decide +kernel
theorem dModel_fits_83 : decode nModel_fits.2.1 83 = .ok (.iload_n 3, 1) := by decide +kernel
theorem dModel_fits_84 : decode nModel_fits.2.1 84 = .ok (.invokevirtual 148, 3) := by decide +kernel
theorem dModel_fits_87 : decode nModel_fits.2.1 87 = .ok (.ifCond .eq 5, 3) := by decide +kernel
theorem dModel_fits_90 : decode nModel_fits.2.1 90 = .ok (.iconst 0, 1) := by decide +kernel
theorem dModel_fits_91 : decode nModel_fits.2.1 91 = .ok (.ireturn, 1) := by decide +kernel
theorem dModel_fits_92 : decode nModel_fits.2.1 92 = .ok (.iinc 3 1, 3) := by decide +kernel
theorem dModel_fits_95 : decode nModel_fits.2.1 95 = .ok (.goto (-68), 3) := by decide +kernel
theorem dModel_fits_98 : decode nModel_fits.2.1 98 = .ok (.iconst 1, 1) := by decide +kernel
theorem dModel_fits_99 : decode nModel_fits.2.1 99 = .ok (.ireturn, 1) := by decide +kernel
theorem dModel_isDone_0 : decode nModel_isDone.2.1 0 = .ok (.aload_n 2, 1) := by decide +kernel
theorem dModel_isDone_1 : decode nModel_isDone.2.1 1 = .ok (.aload_n 0, 1) := by decide +kernel
theorem dModel_isDone_2 : decode nModel_isDone.2.1 2 = .ok (.getfield 19, 3) := by decide +kernel
theorem dModel_isDone_5 : decode nModel_isDone.2.1 5 = .ok (.iload_n 1, 1) := by decide +kernel
theorem dModel_isDone_6 : decode nModel_isDone.2.1 6 = .ok (.iaload, 1) := by decide +kernel
theorem dModel_isDone_7 : decode nModel_isDone.2.1 7 = .ok (.iaload, 1) := by decide +kernel
theorem dModel_isDone_8 : decode nModel_isDone.2.1 8 = .ok (.istore_n 3, 1) := by decide +kernel
theorem dModel_isDone_9 : decode nModel_isDone.2.1 9 = .ok (.aload_n 2, 1) := by decide +kernel
theorem dModel_isDone_10 : decode nModel_isDone.2.1 10 = .ok (.aload_n 0, 1) := by decide +kernel
theorem dModel_isDone_11 : decode nModel_isDone.2.1 11 = .ok (.getfield 22, 3) := by decide +kernel
theorem dModel_isDone_14 : decode nModel_isDone.2.1 14 = .ok (.iload_n 1, 1) := by decide +kernel
theorem dModel_isDone_15 : decode nModel_isDone.2.1 15 = .ok (.iaload, 1) := by decide +kernel
theorem dModel_isDone_16 : decode nModel_isDone.2.1 16 = .ok (.iaload, 1) := by decide +kernel
theorem dModel_isDone_17 : decode nModel_isDone.2.1 17 = .ok (.istore 4, 2) := by decide +kernel
theorem dModel_isDone_19 : decode nModel_isDone.2.1 19 = .ok (.iload_n 3, 1) := by decide +kernel
theorem dModel_isDone_20 : decode nModel_isDone.2.1 20 = .ok (.ifCond .lt 8, 3) := by decide +kernel
theorem dModel_isDone_23 : decode nModel_isDone.2.1 23 = .ok (.iload 4, 2) := by decide +kernel
theorem dModel_isDone_25 : decode nModel_isDone.2.1 25 = .ok (.ifCond .ge 5, 3) := by decide +kernel
theorem dModel_isDone_28 : decode nModel_isDone.2.1 28 = .ok (.iconst 0, 1) := by decide +kernel
theorem dModel_isDone_29 : decode nModel_isDone.2.1 29 = .ok (.ireturn, 1) := by decide +kernel
theorem dModel_isDone_30 : decode nModel_isDone.2.1 30 = .ok (.aload_n 0, 1) := by decide +kernel
theorem dModel_isDone_31 : decode nModel_isDone.2.1 31 = .ok (.getfield 31, 3) := by decide +kernel
theorem dModel_isDone_34 : decode nModel_isDone.2.1 34 = .ok (.iload_n 3, 1) := by decide +kernel
theorem dModel_isDone_35 : decode nModel_isDone.2.1 35 = .ok (.iaload, 1) := by decide +kernel
theorem dModel_isDone_36 : decode nModel_isDone.2.1 36 = .ok (.aload_n 0, 1) := by decide +kernel
theorem dModel_isDone_37 : decode nModel_isDone.2.1 37 = .ok (.getfield 19, 3) := by decide +kernel
theorem dModel_isDone_40 : decode nModel_isDone.2.1 40 = .ok (.iload_n 1, 1) := by decide +kernel
theorem dModel_isDone_41 : decode nModel_isDone.2.1 41 = .ok (.iaload, 1) := by decide +kernel
theorem dModel_isDone_42 : decode nModel_isDone.2.1 42 = .ok (.if_icmp .ne 19, 3) := by decide +kernel
theorem dModel_isDone_45 : decode nModel_isDone.2.1 45 = .ok (.aload_n 0, 1) := by decide +kernel
theorem dModel_isDone_46 : decode nModel_isDone.2.1 46 = .ok (.getfield 31, 3) := by decide +kernel
theorem dModel_isDone_49 : decode nModel_isDone.2.1 49 = .ok (.iload 4, 2) := by decide +kernel
theorem dModel_isDone_51 : decode nModel_isDone.2.1 51 = .ok (.iaload, 1) := by decide +kernel
theorem dModel_isDone_52 : decode nModel_isDone.2.1 52 = .ok (.aload_n 0, 1) := by decide +kernel
theorem dModel_isDone_53 : decode nModel_isDone.2.1 53 = .ok (.getfield 22, 3) := by decide +kernel
theorem dModel_isDone_56 : decode nModel_isDone.2.1 56 = .ok (.iload_n 1, 1) := by decide +kernel
theorem dModel_isDone_57 : decode nModel_isDone.2.1 57 = .ok (.iaload, 1) := by decide +kernel
theorem dModel_isDone_58 : decode nModel_isDone.2.1 58 = .ok (.if_icmp .eq 13, 3) := by decide +kernel
theorem dModel_isDone_61 : decode nModel_isDone.2.1 61 = .ok (.aload_n 0, 1) := by decide +kernel
theorem dModel_isDone_62 : decode nModel_isDone.2.1 62 = .ok (.iload_n 3, 1) := by decide +kernel
theorem dModel_isDone_63 : decode nModel_isDone.2.1 63 = .ok (.iload 4, 2) := by decide +kernel
theorem dModel_isDone_65 : decode nModel_isDone.2.1 65 = .ok (.invokevirtual 151, 3) := by decide +kernel
theorem dModel_isDone_68 : decode nModel_isDone.2.1 68 = .ok (.ifCond .eq 7, 3) := by decide +kernel
theorem dModel_isDone_71 : decode nModel_isDone.2.1 71 = .ok (.iconst 1, 1) := by decide +kernel
theorem dModel_isDone_72 : decode nModel_isDone.2.1 72 = .ok (.goto 4, 3) := by decide +kernel
theorem dModel_isDone_75 : decode nModel_isDone.2.1 75 = .ok (.iconst 0, 1) := by decide +kernel
theorem dModel_isDone_76 : decode nModel_isDone.2.1 76 = .ok (.ireturn, 1) := by decide +kernel
theorem dModel_lossOf_0 : decode nModel_lossOf.2.1 0 = .ok (.aload_n 0, 1) := by decide +kernel
theorem dModel_lossOf_1 : decode nModel_lossOf.2.1 1 = .ok (.getfield 58, 3) := by decide +kernel
theorem dModel_lossOf_4 : decode nModel_lossOf.2.1 4 = .ok (.iload_n 1, 1) := by decide +kernel
theorem dModel_lossOf_5 : decode nModel_lossOf.2.1 5 = .ok (.iaload, 1) := by decide +kernel
theorem dModel_lossOf_6 : decode nModel_lossOf.2.1 6 = .ok (.istore_n 2, 1) := by decide +kernel
theorem dModel_lossOf_7 : decode nModel_lossOf.2.1 7 = .ok (.iload_n 2, 1) := by decide +kernel
theorem dModel_lossOf_8 : decode nModel_lossOf.2.1 8 = .ok (.ifCond .ge 56, 3) := by decide +kernel
theorem dModel_lossOf_11 : decode nModel_lossOf.2.1 11 = .ok (.bipush 20, 2) := by decide +kernel
theorem dModel_lossOf_13 : decode nModel_lossOf.2.1 13 = .ok (.istore_n 3, 1) := by decide +kernel
theorem dModel_lossOf_14 : decode nModel_lossOf.2.1 14 = .ok (.iconst 0, 1) := by decide +kernel
theorem dModel_lossOf_15 : decode nModel_lossOf.2.1 15 = .ok (.istore 4, 2) := by decide +kernel
theorem dModel_lossOf_17 : decode nModel_lossOf.2.1 17 = .ok (.iload 4, 2) := by decide +kernel
theorem dModel_lossOf_19 : decode nModel_lossOf.2.1 19 = .ok (.bipush 30, 2) := by decide +kernel
theorem dModel_lossOf_21 : decode nModel_lossOf.2.1 21 = .ok (.if_icmp .ge 41, 3) := by decide +kernel
theorem dModel_lossOf_24 : decode nModel_lossOf.2.1 24 = .ok (.iload_n 3, 1) := by decide +kernel
theorem dModel_lossOf_25 : decode nModel_lossOf.2.1 25 = .ok (.aload_n 0, 1) := by decide +kernel
theorem dModel_lossOf_26 : decode nModel_lossOf.2.1 26 = .ok (.iload_n 1, 1) := by decide +kernel
theorem dModel_lossOf_27 : decode nModel_lossOf.2.1 27 = .ok (.iload 4, 2) := by decide +kernel
theorem dModel_lossOf_29 : decode nModel_lossOf.2.1 29 = .ok (.invokevirtual 99, 3) := by decide +kernel
theorem dModel_lossOf_32 : decode nModel_lossOf.2.1 32 = .ok (.ifCond .eq 21, 3) := by decide +kernel
theorem dModel_lossOf_35 : decode nModel_lossOf.2.1 35 = .ok (.bipush 10, 2) := by decide +kernel
theorem dModel_lossOf_37 : decode nModel_lossOf.2.1 37 = .ok (.aload_n 0, 1) := by decide +kernel
theorem dModel_lossOf_38 : decode nModel_lossOf.2.1 38 = .ok (.getfield 16, 3) := by decide +kernel
theorem dModel_lossOf_41 : decode nModel_lossOf.2.1 41 = .ok (.bipush 30, 2) := by decide +kernel
theorem dModel_lossOf_43 : decode nModel_lossOf.2.1 43 = .ok (.iload_n 1, 1) := by decide +kernel
theorem dModel_lossOf_44 : decode nModel_lossOf.2.1 44 = .ok (.imul, 1) := by decide +kernel
theorem dModel_lossOf_45 : decode nModel_lossOf.2.1 45 = .ok (.iload 4, 2) := by decide +kernel
theorem dModel_lossOf_47 : decode nModel_lossOf.2.1 47 = .ok (.iadd, 1) := by decide +kernel
theorem dModel_lossOf_48 : decode nModel_lossOf.2.1 48 = .ok (.iaload, 1) := by decide +kernel
theorem dModel_lossOf_49 : decode nModel_lossOf.2.1 49 = .ok (.imul, 1) := by decide +kernel
theorem dModel_lossOf_50 : decode nModel_lossOf.2.1 50 = .ok (.goto 4, 3) := by decide +kernel
theorem dModel_lossOf_53 : decode nModel_lossOf.2.1 53 = .ok (.iconst 0, 1) := by decide +kernel
theorem dModel_lossOf_54 : decode nModel_lossOf.2.1 54 = .ok (.iadd, 1) := by decide +kernel
theorem dModel_lossOf_55 : decode nModel_lossOf.2.1 55 = .ok (.istore_n 3, 1) := by decide +kernel
theorem dModel_lossOf_56 : decode nModel_lossOf.2.1 56 = .ok (.iinc 4 1, 3) := by decide +kernel
theorem dModel_lossOf_59 : decode nModel_lossOf.2.1 59 = .ok (.goto (-42), 3) := by decide +kernel
theorem dModel_lossOf_62 : decode nModel_lossOf.2.1 62 = .ok (.iload_n 3, 1) := by decide +kernel
theorem dModel_lossOf_63 : decode nModel_lossOf.2.1 63 = .ok (.ireturn, 1) := by decide +kernel
theorem dModel_lossOf_64 : decode nModel_lossOf.2.1 64 = .ok (.iconst 0, 1) := by decide +kernel
theorem dModel_lossOf_65 : decode nModel_lossOf.2.1 65 = .ok (.istore_n 3, 1) := by decide +kernel
theorem dModel_lossOf_66 : decode nModel_lossOf.2.1 66 = .ok (.iconst 0, 1) := by decide +kernel
theorem dModel_lossOf_67 : decode nModel_lossOf.2.1 67 = .ok (.istore 4, 2) := by decide +kernel
theorem dModel_lossOf_69 : decode nModel_lossOf.2.1 69 = .ok (.iload 4, 2) := by decide +kernel
theorem dModel_lossOf_71 : decode nModel_lossOf.2.1 71 = .ok (.iload_n 1, 1) := by decide +kernel
theorem dModel_lossOf_72 : decode nModel_lossOf.2.1 72 = .ok (.if_icmp .ge 26, 3) := by decide +kernel
theorem dModel_lossOf_75 : decode nModel_lossOf.2.1 75 = .ok (.aload_n 0, 1) := by decide +kernel
theorem dModel_lossOf_76 : decode nModel_lossOf.2.1 76 = .ok (.getfield 58, 3) := by decide +kernel
theorem dModel_lossOf_79 : decode nModel_lossOf.2.1 79 = .ok (.iload 4, 2) := by decide +kernel
theorem dModel_lossOf_81 : decode nModel_lossOf.2.1 81 = .ok (.iaload, 1) := by decide +kernel
theorem dModel_lossOf_82 : decode nModel_lossOf.2.1 82 = .ok (.iload_n 2, 1) := by decide +kernel
theorem dModel_lossOf_83 : decode nModel_lossOf.2.1 83 = .ok (.if_icmp .ne 7, 3) := by decide +kernel
theorem dModel_lossOf_86 : decode nModel_lossOf.2.1 86 = .ok (.iconst 4, 1) := by decide +kernel
theorem dModel_lossOf_87 : decode nModel_lossOf.2.1 87 = .ok (.goto 4, 3) := by decide +kernel
theorem dModel_lossOf_90 : decode nModel_lossOf.2.1 90 = .ok (.iload_n 3, 1) := by decide +kernel
theorem dModel_lossOf_91 : decode nModel_lossOf.2.1 91 = .ok (.istore_n 3, 1) := by decide +kernel
theorem dModel_lossOf_92 : decode nModel_lossOf.2.1 92 = .ok (.iinc 4 1, 3) := by decide +kernel
theorem dModel_lossOf_95 : decode nModel_lossOf.2.1 95 = .ok (.goto (-26), 3) := by decide +kernel
theorem dModel_lossOf_98 : decode nModel_lossOf.2.1 98 = .ok (.aload_n 0, 1) := by decide +kernel
theorem dModel_lossOf_99 : decode nModel_lossOf.2.1 99 = .ok (.getfield 31, 3) := by decide +kernel
theorem dModel_lossOf_102 : decode nModel_lossOf.2.1 102 = .ok (.iload_n 2, 1) := by decide +kernel
theorem dModel_lossOf_103 : decode nModel_lossOf.2.1 103 = .ok (.iaload, 1) := by decide +kernel
theorem dModel_lossOf_104 : decode nModel_lossOf.2.1 104 = .ok (.iload_n 1, 1) := by decide +kernel
theorem dModel_lossOf_105 : decode nModel_lossOf.2.1 105 = .ok (.if_icmp .ne 5, 3) := by decide +kernel
end
section
theorem dModel_lossOf_108 : decode nModel_lossOf.2.1 108 = .ok (.iload_n 3, 1) := by decide +kernel
theorem dModel_lossOf_109 : decode nModel_lossOf.2.1 109 = .ok (.ireturn, 1) := by decide +kernel
theorem dModel_lossOf_110 : decode nModel_lossOf.2.1 110 = .ok (.aload_n 0, 1) := by decide +kernel
theorem dModel_lossOf_111 : decode nModel_lossOf.2.1 111 = .ok (.iload_n 1, 1) := by decide +kernel
theorem dModel_lossOf_112 : decode nModel_lossOf.2.1 112 = .ok (.invokevirtual 115, 3) := by decide +kernel
theorem dModel_lossOf_115 : decode nModel_lossOf.2.1 115 = .ok (.ifCond .ge 7, 3) := by decide +kernel
theorem dModel_lossOf_118 : decode nModel_lossOf.2.1 118 = .ok (.iconst 0, 1) := by decide +kernel
theorem dModel_lossOf_119 : decode nModel_lossOf.2.1 119 = .ok (.goto 16, 3) := by decide +kernel
theorem dModel_lossOf_122 : decode nModel_lossOf.2.1 122 = .ok (.aload_n 0, 1) := by decide +kernel
theorem dModel_lossOf_123 : decode nModel_lossOf.2.1 123 = .ok (.iload_n 2, 1) := by decide +kernel
theorem dModel_lossOf_124 : decode nModel_lossOf.2.1 124 = .ok (.invokevirtual 112, 3) := by decide +kernel
theorem dModel_lossOf_127 : decode nModel_lossOf.2.1 127 = .ok (.ifCond .eq 7, 3) := by decide +kernel
theorem dModel_lossOf_130 : decode nModel_lossOf.2.1 130 = .ok (.iconst 1, 1) := by decide +kernel
theorem dModel_lossOf_131 : decode nModel_lossOf.2.1 131 = .ok (.goto 4, 3) := by decide +kernel
theorem dModel_lossOf_134 : decode nModel_lossOf.2.1 134 = .ok (.iconst 2, 1) := by decide +kernel
theorem dModel_lossOf_135 : decode nModel_lossOf.2.1 135 = .ok (.istore 4, 2) := by decide +kernel
theorem dModel_lossOf_137 : decode nModel_lossOf.2.1 137 = .ok (.iload_n 3, 1) := by decide +kernel
theorem dModel_lossOf_138 : decode nModel_lossOf.2.1 138 = .ok (.iload 4, 2) := by decide +kernel
theorem dModel_lossOf_140 : decode nModel_lossOf.2.1 140 = .ok (.iadd, 1) := by decide +kernel
theorem dModel_lossOf_141 : decode nModel_lossOf.2.1 141 = .ok (.aload_n 0, 1) := by decide +kernel
theorem dModel_lossOf_142 : decode nModel_lossOf.2.1 142 = .ok (.iload_n 2, 1) := by decide +kernel
theorem dModel_lossOf_143 : decode nModel_lossOf.2.1 143 = .ok (.iload_n 1, 1) := by decide +kernel
theorem dModel_lossOf_144 : decode nModel_lossOf.2.1 144 = .ok (.invokevirtual 125, 3) := by decide +kernel
theorem dModel_lossOf_147 : decode nModel_lossOf.2.1 147 = .ok (.ifCond .eq 7, 3) := by decide +kernel
theorem dModel_lossOf_150 : decode nModel_lossOf.2.1 150 = .ok (.iconst 0, 1) := by decide +kernel
theorem dModel_lossOf_151 : decode nModel_lossOf.2.1 151 = .ok (.goto 4, 3) := by decide +kernel
theorem dModel_lossOf_154 : decode nModel_lossOf.2.1 154 = .ok (.iconst 3, 1) := by decide +kernel
theorem dModel_lossOf_155 : decode nModel_lossOf.2.1 155 = .ok (.iadd, 1) := by decide +kernel
theorem dModel_lossOf_156 : decode nModel_lossOf.2.1 156 = .ok (.ireturn, 1) := by decide +kernel
theorem dModel_loss_0 : decode nModel_loss.2.1 0 = .ok (.iconst 0, 1) := by decide +kernel
theorem dModel_loss_1 : decode nModel_loss.2.1 1 = .ok (.istore_n 1, 1) := by decide +kernel
theorem dModel_loss_2 : decode nModel_loss.2.1 2 = .ok (.iconst 0, 1) := by decide +kernel
theorem dModel_loss_3 : decode nModel_loss.2.1 3 = .ok (.istore_n 2, 1) := by decide +kernel
theorem dModel_loss_4 : decode nModel_loss.2.1 4 = .ok (.iload_n 2, 1) := by decide +kernel
theorem dModel_loss_5 : decode nModel_loss.2.1 5 = .ok (.aload_n 0, 1) := by decide +kernel
theorem dModel_loss_6 : decode nModel_loss.2.1 6 = .ok (.getfield 74, 3) := by decide +kernel
theorem dModel_loss_9 : decode nModel_loss.2.1 9 = .ok (.if_icmp .ge 17, 3) := by decide +kernel
theorem dModel_loss_12 : decode nModel_loss.2.1 12 = .ok (.iload_n 1, 1) := by decide +kernel
theorem dModel_loss_13 : decode nModel_loss.2.1 13 = .ok (.aload_n 0, 1) := by decide +kernel
theorem dModel_loss_14 : decode nModel_loss.2.1 14 = .ok (.iload_n 2, 1) := by decide +kernel
theorem dModel_loss_15 : decode nModel_loss.2.1 15 = .ok (.invokevirtual 154, 3) := by decide +kernel
theorem dModel_loss_18 : decode nModel_loss.2.1 18 = .ok (.iadd, 1) := by decide +kernel
theorem dModel_loss_19 : decode nModel_loss.2.1 19 = .ok (.istore_n 1, 1) := by decide +kernel
theorem dModel_loss_20 : decode nModel_loss.2.1 20 = .ok (.iinc 2 1, 3) := by decide +kernel
theorem dModel_loss_23 : decode nModel_loss.2.1 23 = .ok (.goto (-19), 3) := by decide +kernel
theorem dModel_loss_26 : decode nModel_loss.2.1 26 = .ok (.iconst 0, 1) := by decide +kernel
theorem dModel_loss_27 : decode nModel_loss.2.1 27 = .ok (.istore_n 2, 1) := by decide +kernel
theorem dModel_loss_28 : decode nModel_loss.2.1 28 = .ok (.iload_n 2, 1) := by decide +kernel
theorem dModel_loss_29 : decode nModel_loss.2.1 29 = .ok (.bipush 30, 2) := by decide +kernel
theorem dModel_loss_31 : decode nModel_loss.2.1 31 = .ok (.if_icmp .ge 39, 3) := by decide +kernel
theorem dModel_loss_34 : decode nModel_loss.2.1 34 = .ok (.iload_n 1, 1) := by decide +kernel
theorem dModel_loss_35 : decode nModel_loss.2.1 35 = .ok (.aload_n 0, 1) := by decide +kernel
theorem dModel_loss_36 : decode nModel_loss.2.1 36 = .ok (.getfield 19, 3) := by decide +kernel
theorem dModel_loss_39 : decode nModel_loss.2.1 39 = .ok (.iload_n 2, 1) := by decide +kernel
theorem dModel_loss_40 : decode nModel_loss.2.1 40 = .ok (.iaload, 1) := by decide +kernel
theorem dModel_loss_41 : decode nModel_loss.2.1 41 = .ok (.ifCond .lt 20, 3) := by decide +kernel
theorem dModel_loss_44 : decode nModel_loss.2.1 44 = .ok (.aload_n 0, 1) := by decide +kernel
theorem dModel_loss_45 : decode nModel_loss.2.1 45 = .ok (.iload_n 2, 1) := by decide +kernel
theorem dModel_loss_46 : decode nModel_loss.2.1 46 = .ok (.aload_n 0, 1) := by decide +kernel
theorem dModel_loss_47 : decode nModel_loss.2.1 47 = .ok (.getfield 58, 3) := by decide +kernel
theorem dModel_loss_50 : decode nModel_loss.2.1 50 = .ok (.invokevirtual 157, 3) := by decide +kernel
theorem dModel_loss_53 : decode nModel_loss.2.1 53 = .ok (.ifCond .ne 8, 3) := by decide +kernel
theorem dModel_loss_56 : decode nModel_loss.2.1 56 = .ok (.bipush 6, 2) := by decide +kernel
theorem dModel_loss_58 : decode nModel_loss.2.1 58 = .ok (.goto 4, 3) := by decide +kernel
theorem dModel_loss_61 : decode nModel_loss.2.1 61 = .ok (.iconst 0, 1) := by decide +kernel
theorem dModel_loss_62 : decode nModel_loss.2.1 62 = .ok (.iadd, 1) := by decide +kernel
theorem dModel_loss_63 : decode nModel_loss.2.1 63 = .ok (.istore_n 1, 1) := by decide +kernel
theorem dModel_loss_64 : decode nModel_loss.2.1 64 = .ok (.iinc 2 1, 3) := by decide +kernel
theorem dModel_loss_67 : decode nModel_loss.2.1 67 = .ok (.goto (-39), 3) := by decide +kernel
theorem dModel_loss_70 : decode nModel_loss.2.1 70 = .ok (.iload_n 1, 1) := by decide +kernel
theorem dModel_loss_71 : decode nModel_loss.2.1 71 = .ok (.ireturn, 1) := by decide +kernel
theorem dModel_tryFrom_0 : decode nModel_tryFrom.2.1 0 = .ok (.iload_n 1, 1) := by decide +kernel
theorem dModel_tryFrom_1 : decode nModel_tryFrom.2.1 1 = .ok (.aload_n 0, 1) := by decide +kernel
theorem dModel_tryFrom_2 : decode nModel_tryFrom.2.1 2 = .ok (.getfield 74, 3) := by decide +kernel
theorem dModel_tryFrom_5 : decode nModel_tryFrom.2.1 5 = .ok (.if_icmp .ne 57, 3) := by decide +kernel
theorem dModel_tryFrom_8 : decode nModel_tryFrom.2.1 8 = .ok (.aload_n 0, 1) := by decide +kernel
theorem dModel_tryFrom_9 : decode nModel_tryFrom.2.1 9 = .ok (.invokevirtual 161, 3) := by decide +kernel
theorem dModel_tryFrom_12 : decode nModel_tryFrom.2.1 12 = .ok (.istore_n 2, 1) := by decide +kernel
theorem dModel_tryFrom_13 : decode nModel_tryFrom.2.1 13 = .ok (.aload_n 0, 1) := by decide +kernel
theorem dModel_tryFrom_14 : decode nModel_tryFrom.2.1 14 = .ok (.getfield 165, 3) := by decide +kernel
theorem dModel_tryFrom_17 : decode nModel_tryFrom.2.1 17 = .ok (.ifCond .lt 11, 3) := by decide +kernel
theorem dModel_tryFrom_20 : decode nModel_tryFrom.2.1 20 = .ok (.iload_n 2, 1) := by decide +kernel
theorem dModel_tryFrom_21 : decode nModel_tryFrom.2.1 21 = .ok (.aload_n 0, 1) := by decide +kernel
theorem dModel_tryFrom_22 : decode nModel_tryFrom.2.1 22 = .ok (.getfield 165, 3) := by decide +kernel
theorem dModel_tryFrom_25 : decode nModel_tryFrom.2.1 25 = .ok (.if_icmp .ge 36, 3) := by decide +kernel
theorem dModel_tryFrom_28 : decode nModel_tryFrom.2.1 28 = .ok (.aload_n 0, 1) := by decide +kernel
theorem dModel_tryFrom_29 : decode nModel_tryFrom.2.1 29 = .ok (.iload_n 2, 1) := by decide +kernel
theorem dModel_tryFrom_30 : decode nModel_tryFrom.2.1 30 = .ok (.putfield 165, 3) := by decide +kernel
theorem dModel_tryFrom_33 : decode nModel_tryFrom.2.1 33 = .ok (.iconst 0, 1) := by decide +kernel
theorem dModel_tryFrom_34 : decode nModel_tryFrom.2.1 34 = .ok (.istore_n 3, 1) := by decide +kernel
theorem dModel_tryFrom_35 : decode nModel_tryFrom.2.1 35 = .ok (.iload_n 3, 1) := by decide +kernel
theorem dModel_tryFrom_36 : decode nModel_tryFrom.2.1 36 = .ok (.aload_n 0, 1) := by decide +kernel
theorem dModel_tryFrom_37 : decode nModel_tryFrom.2.1 37 = .ok (.getfield 74, 3) := by decide +kernel
theorem dModel_tryFrom_40 : decode nModel_tryFrom.2.1 40 = .ok (.if_icmp .ge 21, 3) := by decide +kernel
theorem dModel_tryFrom_43 : decode nModel_tryFrom.2.1 43 = .ok (.aload_n 0, 1) := by decide +kernel
theorem dModel_tryFrom_44 : decode nModel_tryFrom.2.1 44 = .ok (.getfield 61, 3) := by decide +kernel
theorem dModel_tryFrom_47 : decode nModel_tryFrom.2.1 47 = .ok (.iload_n 3, 1) := by decide +kernel
theorem dModel_tryFrom_48 : decode nModel_tryFrom.2.1 48 = .ok (.aload_n 0, 1) := by decide +kernel
theorem dModel_tryFrom_49 : decode nModel_tryFrom.2.1 49 = .ok (.getfield 58, 3) := by decide +kernel
theorem dModel_tryFrom_52 : decode nModel_tryFrom.2.1 52 = .ok (.iload_n 3, 1) := by decide +kernel
theorem dModel_tryFrom_53 : decode nModel_tryFrom.2.1 53 = .ok (.iaload, 1) := by decide +kernel
theorem dModel_tryFrom_54 : decode nModel_tryFrom.2.1 54 = .ok (.iastore, 1) := by decide +kernel
theorem dModel_tryFrom_55 : decode nModel_tryFrom.2.1 55 = .ok (.iinc 3 1, 3) := by decide +kernel
theorem dModel_tryFrom_58 : decode nModel_tryFrom.2.1 58 = .ok (.goto (-23), 3) := by decide +kernel
theorem dModel_tryFrom_61 : decode nModel_tryFrom.2.1 61 = .ok (.return_, 1) := by decide +kernel
theorem dModel_tryFrom_62 : decode nModel_tryFrom.2.1 62 = .ok (.iconst 0, 1) := by decide +kernel
theorem dModel_tryFrom_63 : decode nModel_tryFrom.2.1 63 = .ok (.istore_n 2, 1) := by decide +kernel
theorem dModel_tryFrom_64 : decode nModel_tryFrom.2.1 64 = .ok (.iload_n 2, 1) := by decide +kernel
theorem dModel_tryFrom_65 : decode nModel_tryFrom.2.1 65 = .ok (.aload_n 0, 1) := by decide +kernel
theorem dModel_tryFrom_66 : decode nModel_tryFrom.2.1 66 = .ok (.getfield 82, 3) := by decide +kernel
theorem dModel_tryFrom_69 : decode nModel_tryFrom.2.1 69 = .ok (.if_icmp .ge 65, 3) := by decide +kernel
theorem dModel_tryFrom_72 : decode nModel_tryFrom.2.1 72 = .ok (.aload_n 0, 1) := by decide +kernel
theorem dModel_tryFrom_73 : decode nModel_tryFrom.2.1 73 = .ok (.getfield 168, 3) := by decide +kernel
theorem dModel_tryFrom_76 : decode nModel_tryFrom.2.1 76 = .ok (.ifCond .ne 58, 3) := by decide +kernel
theorem dModel_tryFrom_79 : decode nModel_tryFrom.2.1 79 = .ok (.aload_n 0, 1) := by decide +kernel
theorem dModel_tryFrom_80 : decode nModel_tryFrom.2.1 80 = .ok (.iload_n 2, 1) := by decide +kernel
theorem dModel_tryFrom_81 : decode nModel_tryFrom.2.1 81 = .ok (.iload_n 1, 1) := by decide +kernel
theorem dModel_tryFrom_82 : decode nModel_tryFrom.2.1 82 = .ok (.invokevirtual 171, 3) := by decide +kernel
theorem dModel_tryFrom_85 : decode nModel_tryFrom.2.1 85 = .ok (.ifCond .ne 6, 3) := by decide +kernel
theorem dModel_tryFrom_88 : decode nModel_tryFrom.2.1 88 = .ok (.goto 40, 3) := by decide +kernel
theorem dModel_tryFrom_91 : decode nModel_tryFrom.2.1 91 = .ok (.aload_n 0, 1) := by decide +kernel
theorem dModel_tryFrom_92 : decode nModel_tryFrom.2.1 92 = .ok (.getfield 174, 3) := by decide +kernel
theorem dModel_tryFrom_95 : decode nModel_tryFrom.2.1 95 = .ok (.ifCond .ne 9, 3) := by decide +kernel
theorem dModel_tryFrom_98 : decode nModel_tryFrom.2.1 98 = .ok (.aload_n 0, 1) := by decide +kernel
theorem dModel_tryFrom_99 : decode nModel_tryFrom.2.1 99 = .ok (.iconst 1, 1) := by decide +kernel
theorem dModel_tryFrom_100 : decode nModel_tryFrom.2.1 100 = .ok (.putfield 168, 3) := by decide +kernel
theorem dModel_tryFrom_103 : decode nModel_tryFrom.2.1 103 = .ok (.return_, 1) := by decide +kernel
theorem dModel_tryFrom_104 : decode nModel_tryFrom.2.1 104 = .ok (.aload_n 0, 1) := by decide +kernel
theorem dModel_tryFrom_105 : decode nModel_tryFrom.2.1 105 = .ok (.dup, 1) := by decide +kernel
theorem dModel_tryFrom_106 : decode nModel_tryFrom.2.1 106 = .ok (.getfield 174, 3) := by decide +kernel
theorem dModel_tryFrom_109 : decode nModel_tryFrom.2.1 109 = .ok (.iconst 1, 1) := by decide +kernel
theorem dModel_tryFrom_110 : decode nModel_tryFrom.2.1 110 = .ok (.isub, 1) := by decide +kernel
theorem dModel_tryFrom_111 : decode nModel_tryFrom.2.1 111 = .ok (.putfield 174, 3) := by decide +kernel
theorem dModel_tryFrom_114 : decode nModel_tryFrom.2.1 114 = .ok (.aload_n 0, 1) := by decide +kernel
theorem dModel_tryFrom_115 : decode nModel_tryFrom.2.1 115 = .ok (.getfield 58, 3) := by decide +kernel
theorem dModel_tryFrom_118 : decode nModel_tryFrom.2.1 118 = .ok (.iload_n 1, 1) := by decide +kernel
theorem dModel_tryFrom_119 : decode nModel_tryFrom.2.1 119 = .ok (.iload_n 2, 1) := by decide +kernel
theorem dModel_tryFrom_120 : decode nModel_tryFrom.2.1 120 = .ok (.iastore, 1) := by decide +kernel
theorem dModel_tryFrom_121 : decode nModel_tryFrom.2.1 121 = .ok (.aload_n 0, 1) := by decide +kernel
theorem dModel_tryFrom_122 : decode nModel_tryFrom.2.1 122 = .ok (.iload_n 1, 1) := by decide +kernel
theorem dModel_tryFrom_123 : decode nModel_tryFrom.2.1 123 = .ok (.iconst 1, 1) := by decide +kernel
theorem dModel_tryFrom_124 : decode nModel_tryFrom.2.1 124 = .ok (.iadd, 1) := by decide +kernel
theorem dModel_tryFrom_125 : decode nModel_tryFrom.2.1 125 = .ok (.invokevirtual 177, 3) := by decide +kernel
theorem dModel_tryFrom_128 : decode nModel_tryFrom.2.1 128 = .ok (.iinc 2 1, 3) := by decide +kernel
theorem dModel_tryFrom_131 : decode nModel_tryFrom.2.1 131 = .ok (.goto (-67), 3) := by decide +kernel
theorem dModel_tryFrom_134 : decode nModel_tryFrom.2.1 134 = .ok (.aload_n 0, 1) := by decide +kernel
theorem dModel_tryFrom_135 : decode nModel_tryFrom.2.1 135 = .ok (.getfield 168, 3) := by decide +kernel
theorem dModel_tryFrom_138 : decode nModel_tryFrom.2.1 138 = .ok (.ifCond .ne 17, 3) := by decide +kernel
theorem dModel_tryFrom_141 : decode nModel_tryFrom.2.1 141 = .ok (.aload_n 0, 1) := by decide +kernel
theorem dModel_tryFrom_142 : decode nModel_tryFrom.2.1 142 = .ok (.getfield 58, 3) := by decide +kernel
theorem dModel_tryFrom_145 : decode nModel_tryFrom.2.1 145 = .ok (.iload_n 1, 1) := by decide +kernel
theorem dModel_tryFrom_146 : decode nModel_tryFrom.2.1 146 = .ok (.iconst (-1), 1) := by decide +kernel
theorem dModel_tryFrom_147 : decode nModel_tryFrom.2.1 147 = .ok (.iastore, 1) := by decide +kernel
theorem dModel_tryFrom_148 : decode nModel_tryFrom.2.1 148 = .ok (.aload_n 0, 1) := by decide +kernel
theorem dModel_tryFrom_149 : decode nModel_tryFrom.2.1 149 = .ok (.iload_n 1, 1) := by decide +kernel
theorem dModel_tryFrom_150 : decode nModel_tryFrom.2.1 150 = .ok (.iconst 1, 1) := by decide +kernel
theorem dModel_tryFrom_151 : decode nModel_tryFrom.2.1 151 = .ok (.iadd, 1) := by decide +kernel
theorem dModel_tryFrom_152 : decode nModel_tryFrom.2.1 152 = .ok (.invokevirtual 177, 3) := by decide +kernel
theorem dModel_tryFrom_155 : decode nModel_tryFrom.2.1 155 = .ok (.return_, 1) := by decide +kernel
theorem dModel_cast_0 : decode nModel_cast.2.1 0 = .ok (.iload_n 1, 1) := by decide +kernel
theorem dModel_cast_1 : decode nModel_cast.2.1 1 = .ok (.iconst 1, 1) := by decide +kernel
theorem dModel_cast_2 : decode nModel_cast.2.1 2 = .ok (.sipush 30000, 3) := by decide +kernel
theorem dModel_cast_5 : decode nModel_cast.2.1 5 = .ok (.invokestatic 78, 3) := by decide +kernel
theorem dModel_cast_8 : decode nModel_cast.2.1 8 = .ok (.ifCond .ne 6, 3) := by decide +kernel
theorem dModel_cast_11 : decode nModel_cast.2.1 11 = .ok (.ldc 85, 2) := by decide +kernel
theorem dModel_cast_13 : decode nModel_cast.2.1 13 = .ok (.ireturn, 1) := by decide +kernel
theorem dModel_cast_14 : decode nModel_cast.2.1 14 = .ok (.aload_n 0, 1) := by decide +kernel
theorem dModel_cast_15 : decode nModel_cast.2.1 15 = .ok (.iconst (-1), 1) := by decide +kernel
theorem dModel_cast_16 : decode nModel_cast.2.1 16 = .ok (.putfield 165, 3) := by decide +kernel
theorem dModel_cast_19 : decode nModel_cast.2.1 19 = .ok (.aload_n 0, 1) := by decide +kernel
theorem dModel_cast_20 : decode nModel_cast.2.1 20 = .ok (.iload_n 1, 1) := by decide +kernel
theorem dModel_cast_21 : decode nModel_cast.2.1 21 = .ok (.putfield 174, 3) := by decide +kernel
theorem dModel_cast_24 : decode nModel_cast.2.1 24 = .ok (.aload_n 0, 1) := by decide +kernel
theorem dModel_cast_25 : decode nModel_cast.2.1 25 = .ok (.iconst 0, 1) := by decide +kernel
theorem dModel_cast_26 : decode nModel_cast.2.1 26 = .ok (.putfield 168, 3) := by decide +kernel
theorem dModel_cast_29 : decode nModel_cast.2.1 29 = .ok (.aload_n 0, 1) := by decide +kernel
theorem dModel_cast_30 : decode nModel_cast.2.1 30 = .ok (.iconst 0, 1) := by decide +kernel
theorem dModel_cast_31 : decode nModel_cast.2.1 31 = .ok (.invokevirtual 177, 3) := by decide +kernel
theorem dModel_cast_34 : decode nModel_cast.2.1 34 = .ok (.aload_n 0, 1) := by decide +kernel
theorem dModel_cast_35 : decode nModel_cast.2.1 35 = .ok (.getfield 168, 3) := by decide +kernel
theorem dModel_cast_38 : decode nModel_cast.2.1 38 = .ok (.ifCond .eq 6, 3) := by decide +kernel
theorem dModel_cast_41 : decode nModel_cast.2.1 41 = .ok (.ldc 181, 2) := by decide +kernel
theorem dModel_cast_43 : decode nModel_cast.2.1 43 = .ok (.ireturn, 1) := by decide +kernel
theorem dModel_cast_44 : decode nModel_cast.2.1 44 = .ok (.aload_n 0, 1) := by decide +kernel
theorem dModel_cast_45 : decode nModel_cast.2.1 45 = .ok (.iconst 1, 1) := by decide +kernel
theorem dModel_cast_46 : decode nModel_cast.2.1 46 = .ok (.putfield 128, 3) := by decide +kernel
theorem dModel_cast_49 : decode nModel_cast.2.1 49 = .ok (.iconst 0, 1) := by decide +kernel
theorem dModel_cast_50 : decode nModel_cast.2.1 50 = .ok (.istore_n 2, 1) := by decide +kernel
theorem dModel_cast_51 : decode nModel_cast.2.1 51 = .ok (.iload_n 2, 1) := by decide +kernel
theorem dModel_cast_52 : decode nModel_cast.2.1 52 = .ok (.bipush 8, 2) := by decide +kernel
theorem dModel_cast_54 : decode nModel_cast.2.1 54 = .ok (.if_icmp .ge 64, 3) := by decide +kernel
theorem dModel_cast_57 : decode nModel_cast.2.1 57 = .ok (.aload_n 0, 1) := by decide +kernel
theorem dModel_cast_58 : decode nModel_cast.2.1 58 = .ok (.getfield 46, 3) := by decide +kernel
theorem dModel_cast_61 : decode nModel_cast.2.1 61 = .ok (.iload_n 2, 1) := by decide +kernel
theorem dModel_cast_62 : decode nModel_cast.2.1 62 = .ok (.iload_n 2, 1) := by decide +kernel
theorem dModel_cast_63 : decode nModel_cast.2.1 63 = .ok (.aload_n 0, 1) := by decide +kernel
theorem dModel_cast_64 : decode nModel_cast.2.1 64 = .ok (.getfield 74, 3) := by decide +kernel
theorem dModel_cast_67 : decode nModel_cast.2.1 67 = .ok (.if_icmp .ge 12, 3) := by decide +kernel
theorem dModel_cast_70 : decode nModel_cast.2.1 70 = .ok (.aload_n 0, 1) := by decide +kernel
theorem dModel_cast_71 : decode nModel_cast.2.1 71 = .ok (.getfield 61, 3) := by decide +kernel
theorem dModel_cast_74 : decode nModel_cast.2.1 74 = .ok (.iload_n 2, 1) := by decide +kernel
theorem dModel_cast_75 : decode nModel_cast.2.1 75 = .ok (.iaload, 1) := by decide +kernel
theorem dModel_cast_76 : decode nModel_cast.2.1 76 = .ok (.goto 4, 3) := by decide +kernel
theorem dModel_cast_79 : decode nModel_cast.2.1 79 = .ok (.iconst (-1), 1) := by decide +kernel
theorem dModel_cast_80 : decode nModel_cast.2.1 80 = .ok (.iastore, 1) := by decide +kernel
theorem dModel_cast_81 : decode nModel_cast.2.1 81 = .ok (.iconst 0, 1) := by decide +kernel
theorem dModel_cast_82 : decode nModel_cast.2.1 82 = .ok (.istore_n 3, 1) := by decide +kernel
theorem dModel_cast_83 : decode nModel_cast.2.1 83 = .ok (.iload_n 3, 1) := by decide +kernel
theorem dModel_cast_84 : decode nModel_cast.2.1 84 = .ok (.bipush 30, 2) := by decide +kernel
theorem dModel_cast_86 : decode nModel_cast.2.1 86 = .ok (.if_icmp .ge 26, 3) := by decide +kernel
theorem dModel_cast_89 : decode nModel_cast.2.1 89 = .ok (.aload_n 0, 1) := by decide +kernel
theorem dModel_cast_90 : decode nModel_cast.2.1 90 = .ok (.getfield 49, 3) := by decide +kernel
theorem dModel_cast_93 : decode nModel_cast.2.1 93 = .ok (.bipush 30, 2) := by decide +kernel
theorem dModel_cast_95 : decode nModel_cast.2.1 95 = .ok (.iload_n 2, 1) := by decide +kernel
theorem dModel_cast_96 : decode nModel_cast.2.1 96 = .ok (.imul, 1) := by decide +kernel
theorem dModel_cast_97 : decode nModel_cast.2.1 97 = .ok (.iload_n 3, 1) := by decide +kernel
theorem dModel_cast_98 : decode nModel_cast.2.1 98 = .ok (.iadd, 1) := by decide +kernel
theorem dModel_cast_99 : decode nModel_cast.2.1 99 = .ok (.aload_n 0, 1) := by decide +kernel
theorem dModel_cast_100 : decode nModel_cast.2.1 100 = .ok (.getfield 46, 3) := by decide +kernel
theorem dModel_cast_103 : decode nModel_cast.2.1 103 = .ok (.iload_n 2, 1) := by decide +kernel
theorem dModel_cast_104 : decode nModel_cast.2.1 104 = .ok (.iaload, 1) := by decide +kernel
theorem dModel_cast_105 : decode nModel_cast.2.1 105 = .ok (.iastore, 1) := by decide +kernel
theorem dModel_cast_106 : decode nModel_cast.2.1 106 = .ok (.iinc 3 1, 3) := by decide +kernel
theorem dModel_cast_109 : decode nModel_cast.2.1 109 = .ok (.goto (-26), 3) := by decide +kernel
theorem dModel_cast_112 : decode nModel_cast.2.1 112 = .ok (.iinc 2 1, 3) := by decide +kernel
theorem dModel_cast_115 : decode nModel_cast.2.1 115 = .ok (.goto (-64), 3) := by decide +kernel
theorem dModel_cast_118 : decode nModel_cast.2.1 118 = .ok (.aload_n 0, 1) := by decide +kernel
theorem dModel_cast_119 : decode nModel_cast.2.1 119 = .ok (.getfield 165, 3) := by decide +kernel
theorem dModel_cast_122 : decode nModel_cast.2.1 122 = .ok (.ireturn, 1) := by decide +kernel
theorem dModel_has_0 : decode nModel_has.2.1 0 = .ok (.aload_n 0, 1) := by decide +kernel
theorem dModel_has_1 : decode nModel_has.2.1 1 = .ok (.iload_n 1, 1) := by decide +kernel
theorem dModel_has_2 : decode nModel_has.2.1 2 = .ok (.invokevirtual 87, 3) := by decide +kernel
theorem dModel_has_5 : decode nModel_has.2.1 5 = .ok (.ifCond .ne 6, 3) := by decide +kernel
theorem dModel_has_8 : decode nModel_has.2.1 8 = .ok (.ldc 85, 2) := by decide +kernel
theorem dModel_has_10 : decode nModel_has.2.1 10 = .ok (.ireturn, 1) := by decide +kernel
theorem dModel_has_11 : decode nModel_has.2.1 11 = .ok (.aload_n 0, 1) := by decide +kernel
theorem dModel_has_12 : decode nModel_has.2.1 12 = .ok (.getfield 128, 3) := by decide +kernel
theorem dModel_has_15 : decode nModel_has.2.1 15 = .ok (.ifCond .eq 21, 3) := by decide +kernel
theorem dModel_has_18 : decode nModel_has.2.1 18 = .ok (.aload_n 0, 1) := by decide +kernel
theorem dModel_has_19 : decode nModel_has.2.1 19 = .ok (.getfield 46, 3) := by decide +kernel
theorem dModel_has_22 : decode nModel_has.2.1 22 = .ok (.iload_n 1, 1) := by decide +kernel
theorem dModel_has_23 : decode nModel_has.2.1 23 = .ok (.iaload, 1) := by decide +kernel
theorem dModel_has_24 : decode nModel_has.2.1 24 = .ok (.ifCond .lt 12, 3) := by decide +kernel
theorem dModel_has_27 : decode nModel_has.2.1 27 = .ok (.aload_n 0, 1) := by decide +kernel
theorem dModel_has_28 : decode nModel_has.2.1 28 = .ok (.getfield 46, 3) := by decide +kernel
theorem dModel_has_31 : decode nModel_has.2.1 31 = .ok (.iload_n 1, 1) := by decide +kernel
theorem dModel_has_32 : decode nModel_has.2.1 32 = .ok (.iaload, 1) := by decide +kernel
theorem dModel_has_33 : decode nModel_has.2.1 33 = .ok (.goto 5, 3) := by decide +kernel
theorem dModel_has_36 : decode nModel_has.2.1 36 = .ok (.ldc 94, 2) := by decide +kernel
theorem dModel_has_38 : decode nModel_has.2.1 38 = .ok (.ireturn, 1) := by decide +kernel
theorem dModel_who_0 : decode nModel_who.2.1 0 = .ok (.iload_n 1, 1) := by decide +kernel
theorem dModel_who_1 : decode nModel_who.2.1 1 = .ok (.invokestatic 91, 3) := by decide +kernel
theorem dModel_who_4 : decode nModel_who.2.1 4 = .ok (.ifCond .ne 6, 3) := by decide +kernel
theorem dModel_who_7 : decode nModel_who.2.1 7 = .ok (.ldc 85, 2) := by decide +kernel
theorem dModel_who_9 : decode nModel_who.2.1 9 = .ok (.ireturn, 1) := by decide +kernel
theorem dModel_who_10 : decode nModel_who.2.1 10 = .ok (.aload_n 0, 1) := by decide +kernel
theorem dModel_who_11 : decode nModel_who.2.1 11 = .ok (.getfield 128, 3) := by decide +kernel
theorem dModel_who_14 : decode nModel_who.2.1 14 = .ok (.ifCond .ne 6, 3) := by decide +kernel
theorem dModel_who_17 : decode nModel_who.2.1 17 = .ok (.ldc 103, 2) := by decide +kernel
theorem dModel_who_19 : decode nModel_who.2.1 19 = .ok (.ireturn, 1) := by decide +kernel
theorem dModel_who_20 : decode nModel_who.2.1 20 = .ok (.iconst 0, 1) := by decide +kernel
theorem dModel_who_21 : decode nModel_who.2.1 21 = .ok (.istore_n 2, 1) := by decide +kernel
theorem dModel_who_22 : decode nModel_who.2.1 22 = .ok (.iconst 0, 1) := by decide +kernel
theorem dModel_who_23 : decode nModel_who.2.1 23 = .ok (.istore_n 3, 1) := by decide +kernel
theorem dModel_who_24 : decode nModel_who.2.1 24 = .ok (.iload_n 3, 1) := by decide +kernel
theorem dModel_who_25 : decode nModel_who.2.1 25 = .ok (.aload_n 0, 1) := by decide +kernel
theorem dModel_who_26 : decode nModel_who.2.1 26 = .ok (.getfield 74, 3) := by decide +kernel
theorem dModel_who_29 : decode nModel_who.2.1 29 = .ok (.if_icmp .ge 47, 3) := by decide +kernel
theorem dModel_who_32 : decode nModel_who.2.1 32 = .ok (.aload_n 0, 1) := by decide +kernel
theorem dModel_who_33 : decode nModel_who.2.1 33 = .ok (.getfield 49, 3) := by decide +kernel
theorem dModel_who_36 : decode nModel_who.2.1 36 = .ok (.bipush 30, 2) := by decide +kernel
theorem dModel_who_38 : decode nModel_who.2.1 38 = .ok (.iload_n 3, 1) := by decide +kernel
theorem dModel_who_39 : decode nModel_who.2.1 39 = .ok (.imul, 1) := by decide +kernel
theorem dModel_who_40 : decode nModel_who.2.1 40 = .ok (.iload_n 1, 1) := by decide +kernel
theorem dModel_who_41 : decode nModel_who.2.1 41 = .ok (.iadd, 1) := by decide +kernel
theorem dModel_who_42 : decode nModel_who.2.1 42 = .ok (.iaload, 1) := by decide +kernel
theorem dModel_who_43 : decode nModel_who.2.1 43 = .ok (.istore 4, 2) := by decide +kernel
theorem dModel_who_45 : decode nModel_who.2.1 45 = .ok (.iload_n 2, 1) := by decide +kernel
theorem dModel_who_46 : decode nModel_who.2.1 46 = .ok (.aload_n 0, 1) := by decide +kernel
theorem dModel_who_47 : decode nModel_who.2.1 47 = .ok (.iload_n 3, 1) := by decide +kernel
theorem dModel_who_48 : decode nModel_who.2.1 48 = .ok (.iload_n 1, 1) := by decide +kernel
theorem dModel_who_49 : decode nModel_who.2.1 49 = .ok (.invokevirtual 99, 3) := by decide +kernel
theorem dModel_who_52 : decode nModel_who.2.1 52 = .ok (.ifCond .eq 15, 3) := by decide +kernel
theorem dModel_who_55 : decode nModel_who.2.1 55 = .ok (.iload 4, 2) := by decide +kernel
theorem dModel_who_57 : decode nModel_who.2.1 57 = .ok (.ifCond .lt 10, 3) := by decide +kernel
theorem dModel_who_60 : decode nModel_who.2.1 60 = .ok (.iconst 1, 1) := by decide +kernel
theorem dModel_who_61 : decode nModel_who.2.1 61 = .ok (.iload 4, 2) := by decide +kernel
theorem dModel_who_63 : decode nModel_who.2.1 63 = .ok (.ishl, 1) := by decide +kernel
theorem dModel_who_64 : decode nModel_who.2.1 64 = .ok (.goto 4, 3) := by decide +kernel
theorem dModel_who_67 : decode nModel_who.2.1 67 = .ok (.iconst 0, 1) := by decide +kernel
theorem dModel_who_68 : decode nModel_who.2.1 68 = .ok (.ior, 1) := by decide +kernel
theorem dModel_who_69 : decode nModel_who.2.1 69 = .ok (.istore_n 2, 1) := by decide +kernel
theorem dModel_who_70 : decode nModel_who.2.1 70 = .ok (.iinc 3 1, 3) := by decide +kernel
theorem dModel_who_73 : decode nModel_who.2.1 73 = .ok (.goto (-49), 3) := by decide +kernel
theorem dModel_who_76 : decode nModel_who.2.1 76 = .ok (.iload_n 2, 1) := by decide +kernel
theorem dModel_who_77 : decode nModel_who.2.1 77 = .ok (.ireturn, 1) := by decide +kernel
theorem dModel_done_0 : decode nModel_done.2.1 0 = .ok (.iload_n 1, 1) := by decide +kernel
theorem dModel_done_1 : decode nModel_done.2.1 1 = .ok (.invokestatic 91, 3) := by decide +kernel
theorem dModel_done_4 : decode nModel_done.2.1 4 = .ok (.ifCond .ne 6, 3) := by decide +kernel
theorem dModel_done_7 : decode nModel_done.2.1 7 = .ok (.ldc 85, 2) := by decide +kernel
theorem dModel_done_9 : decode nModel_done.2.1 9 = .ok (.ireturn, 1) := by decide +kernel
theorem dModel_done_10 : decode nModel_done.2.1 10 = .ok (.aload_n 0, 1) := by decide +kernel
theorem dModel_done_11 : decode nModel_done.2.1 11 = .ok (.getfield 19, 3) := by decide +kernel
theorem dModel_done_14 : decode nModel_done.2.1 14 = .ok (.iload_n 1, 1) := by decide +kernel
theorem dModel_done_15 : decode nModel_done.2.1 15 = .ok (.iaload, 1) := by decide +kernel
theorem dModel_done_16 : decode nModel_done.2.1 16 = .ok (.ifCond .ge 6, 3) := by decide +kernel
theorem dModel_done_19 : decode nModel_done.2.1 19 = .ok (.ldc 94, 2) := by decide +kernel
theorem dModel_done_21 : decode nModel_done.2.1 21 = .ok (.ireturn, 1) := by decide +kernel
theorem dModel_done_22 : decode nModel_done.2.1 22 = .ok (.aload_n 0, 1) := by decide +kernel
theorem dModel_done_23 : decode nModel_done.2.1 23 = .ok (.getfield 128, 3) := by decide +kernel
theorem dModel_done_26 : decode nModel_done.2.1 26 = .ok (.ifCond .ne 8, 3) := by decide +kernel
theorem dModel_done_29 : decode nModel_done.2.1 29 = .ok (.ldc 103, 2) := by decide +kernel
theorem dModel_done_31 : decode nModel_done.2.1 31 = .ok (.goto 20, 3) := by decide +kernel
theorem dModel_done_34 : decode nModel_done.2.1 34 = .ok (.aload_n 0, 1) := by decide +kernel
theorem dModel_done_35 : decode nModel_done.2.1 35 = .ok (.iload_n 1, 1) := by decide +kernel
theorem dModel_done_36 : decode nModel_done.2.1 36 = .ok (.aload_n 0, 1) := by decide +kernel
theorem dModel_done_37 : decode nModel_done.2.1 37 = .ok (.getfield 46, 3) := by decide +kernel
theorem dModel_done_40 : decode nModel_done.2.1 40 = .ok (.invokevirtual 157, 3) := by decide +kernel
theorem dModel_done_43 : decode nModel_done.2.1 43 = .ok (.ifCond .eq 7, 3) := by decide +kernel
theorem dModel_done_46 : decode nModel_done.2.1 46 = .ok (.iconst 1, 1) := by decide +kernel
theorem dModel_done_47 : decode nModel_done.2.1 47 = .ok (.goto 4, 3) := by decide +kernel
theorem dModel_done_50 : decode nModel_done.2.1 50 = .ok (.iconst 0, 1) := by decide +kernel
theorem dModel_done_51 : decode nModel_done.2.1 51 = .ok (.ireturn, 1) := by decide +kernel
theorem dModel_canTake_0 : decode nModel_canTake.2.1 0 = .ok (.aload_n 0, 1) := by decide +kernel
theorem dModel_canTake_1 : decode nModel_canTake.2.1 1 = .ok (.getfield 43, 3) := by decide +kernel
theorem dModel_canTake_4 : decode nModel_canTake.2.1 4 = .ok (.iload_n 1, 1) := by decide +kernel
theorem dModel_canTake_5 : decode nModel_canTake.2.1 5 = .ok (.iaload, 1) := by decide +kernel
theorem dModel_canTake_6 : decode nModel_canTake.2.1 6 = .ok (.bipush 30, 2) := by decide +kernel
theorem dModel_canTake_8 : decode nModel_canTake.2.1 8 = .ok (.if_icmp .lt 12, 3) := by decide +kernel
theorem dModel_canTake_11 : decode nModel_canTake.2.1 11 = .ok (.aload_n 0, 1) := by decide +kernel
theorem dModel_canTake_12 : decode nModel_canTake.2.1 12 = .ok (.iload_n 1, 1) := by decide +kernel
theorem dModel_canTake_13 : decode nModel_canTake.2.1 13 = .ok (.iload_n 2, 1) := by decide +kernel
theorem dModel_canTake_14 : decode nModel_canTake.2.1 14 = .ok (.invokevirtual 139, 3) := by decide +kernel
theorem dModel_canTake_17 : decode nModel_canTake.2.1 17 = .ok (.ifCond .ne 5, 3) := by decide +kernel
theorem dModel_canTake_20 : decode nModel_canTake.2.1 20 = .ok (.iconst 0, 1) := by decide +kernel
theorem dModel_canTake_21 : decode nModel_canTake.2.1 21 = .ok (.ireturn, 1) := by decide +kernel
theorem dModel_canTake_22 : decode nModel_canTake.2.1 22 = .ok (.iload_n 3, 1) := by decide +kernel
theorem dModel_canTake_23 : decode nModel_canTake.2.1 23 = .ok (.istore 4, 2) := by decide +kernel
theorem dModel_canTake_25 : decode nModel_canTake.2.1 25 = .ok (.iload 4, 2) := by decide +kernel
theorem dModel_canTake_27 : decode nModel_canTake.2.1 27 = .ok (.bipush 30, 2) := by decide +kernel
theorem dModel_canTake_29 : decode nModel_canTake.2.1 29 = .ok (.if_icmp .ge 67, 3) := by decide +kernel
theorem dModel_canTake_32 : decode nModel_canTake.2.1 32 = .ok (.iconst 0, 1) := by decide +kernel
theorem dModel_canTake_33 : decode nModel_canTake.2.1 33 = .ok (.istore 5, 2) := by decide +kernel
theorem dModel_canTake_35 : decode nModel_canTake.2.1 35 = .ok (.iload 5, 2) := by decide +kernel
theorem dModel_canTake_37 : decode nModel_canTake.2.1 37 = .ok (.aload_n 0, 1) := by decide +kernel
theorem dModel_canTake_38 : decode nModel_canTake.2.1 38 = .ok (.getfield 74, 3) := by decide +kernel
theorem dModel_canTake_41 : decode nModel_canTake.2.1 41 = .ok (.if_icmp .ge 49, 3) := by decide +kernel
theorem dModel_canTake_44 : decode nModel_canTake.2.1 44 = .ok (.aload_n 0, 1) := by decide +kernel
theorem dModel_canTake_45 : decode nModel_canTake.2.1 45 = .ok (.iload_n 2, 1) := by decide +kernel
theorem dModel_canTake_46 : decode nModel_canTake.2.1 46 = .ok (.iload 4, 2) := by decide +kernel
theorem dModel_canTake_48 : decode nModel_canTake.2.1 48 = .ok (.invokevirtual 99, 3) := by decide +kernel
theorem dModel_canTake_51 : decode nModel_canTake.2.1 51 = .ok (.ifCond .eq 39, 3) := by decide +kernel
theorem dModel_canTake_54 : decode nModel_canTake.2.1 54 = .ok (.aload_n 0, 1) := by decide +kernel
theorem dModel_canTake_55 : decode nModel_canTake.2.1 55 = .ok (.iload 5, 2) := by decide +kernel
theorem dModel_canTake_57 : decode nModel_canTake.2.1 57 = .ok (.iload 4, 2) := by decide +kernel
theorem dModel_canTake_59 : decode nModel_canTake.2.1 59 = .ok (.invokevirtual 99, 3) := by decide +kernel
theorem dModel_canTake_62 : decode nModel_canTake.2.1 62 = .ok (.ifCond .eq 22, 3) := by decide +kernel
theorem dModel_canTake_65 : decode nModel_canTake.2.1 65 = .ok (.aload_n 0, 1) := by decide +kernel
theorem dModel_canTake_66 : decode nModel_canTake.2.1 66 = .ok (.getfield 49, 3) := by decide +kernel
theorem dModel_canTake_69 : decode nModel_canTake.2.1 69 = .ok (.bipush 30, 2) := by decide +kernel
theorem dModel_canTake_71 : decode nModel_canTake.2.1 71 = .ok (.iload 5, 2) := by decide +kernel
theorem dModel_canTake_73 : decode nModel_canTake.2.1 73 = .ok (.imul, 1) := by decide +kernel
theorem dModel_canTake_74 : decode nModel_canTake.2.1 74 = .ok (.iload 4, 2) := by decide +kernel
theorem dModel_canTake_76 : decode nModel_canTake.2.1 76 = .ok (.iadd, 1) := by decide +kernel
theorem dModel_canTake_77 : decode nModel_canTake.2.1 77 = .ok (.iaload, 1) := by decide +kernel
theorem dModel_canTake_78 : decode nModel_canTake.2.1 78 = .ok (.iload_n 1, 1) := by decide +kernel
theorem dModel_canTake_79 : decode nModel_canTake.2.1 79 = .ok (.if_icmp .ne 5, 3) := by decide +kernel
theorem dModel_canTake_82 : decode nModel_canTake.2.1 82 = .ok (.iconst 0, 1) := by decide +kernel
theorem dModel_canTake_83 : decode nModel_canTake.2.1 83 = .ok (.ireturn, 1) := by decide +kernel
theorem dModel_canTake_84 : decode nModel_canTake.2.1 84 = .ok (.iinc 5 1, 3) := by decide +kernel
theorem dModel_canTake_87 : decode nModel_canTake.2.1 87 = .ok (.goto (-52), 3) := by decide +kernel
theorem dModel_canTake_90 : decode nModel_canTake.2.1 90 = .ok (.iinc 4 1, 3) := by decide +kernel
theorem dModel_canTake_93 : decode nModel_canTake.2.1 93 = .ok (.goto (-68), 3) := by decide +kernel
theorem dModel_canTake_96 : decode nModel_canTake.2.1 96 = .ok (.iconst 1, 1) := by decide +kernel
theorem dModel_canTake_97 : decode nModel_canTake.2.1 97 = .ok (.ireturn, 1) := by decide +kernel
theorem dModel_takesOver_0 : decode nModel_takesOver.2.1 0 = .ok (.iload_n 2, 1) := by decide +kernel
theorem dModel_takesOver_1 : decode nModel_takesOver.2.1 1 = .ok (.istore_n 3, 1) := by decide +kernel
theorem dModel_takesOver_2 : decode nModel_takesOver.2.1 2 = .ok (.iload_n 3, 1) := by decide +kernel
theorem dModel_takesOver_3 : decode nModel_takesOver.2.1 3 = .ok (.bipush 30, 2) := by decide +kernel
theorem dModel_takesOver_5 : decode nModel_takesOver.2.1 5 = .ok (.if_icmp .ge 21, 3) := by decide +kernel
theorem dModel_takesOver_8 : decode nModel_takesOver.2.1 8 = .ok (.aload_n 0, 1) := by decide +kernel
theorem dModel_takesOver_9 : decode nModel_takesOver.2.1 9 = .ok (.getfield 49, 3) := by decide +kernel
theorem dModel_takesOver_12 : decode nModel_takesOver.2.1 12 = .ok (.bipush 30, 2) := by decide +kernel
theorem dModel_takesOver_14 : decode nModel_takesOver.2.1 14 = .ok (.iload_n 1, 1) := by decide +kernel
theorem dModel_takesOver_15 : decode nModel_takesOver.2.1 15 = .ok (.imul, 1) := by decide +kernel
theorem dModel_takesOver_16 : decode nModel_takesOver.2.1 16 = .ok (.iload_n 3, 1) := by decide +kernel
theorem dModel_takesOver_17 : decode nModel_takesOver.2.1 17 = .ok (.iadd, 1) := by decide +kernel
theorem dModel_takesOver_18 : decode nModel_takesOver.2.1 18 = .ok (.iconst (-1), 1) := by decide +kernel
theorem dModel_takesOver_19 : decode nModel_takesOver.2.1 19 = .ok (.iastore, 1) := by decide +kernel
theorem dModel_takesOver_20 : decode nModel_takesOver.2.1 20 = .ok (.iinc 3 1, 3) := by decide +kernel
theorem dModel_takesOver_23 : decode nModel_takesOver.2.1 23 = .ok (.goto (-21), 3) := by decide +kernel
theorem dModel_takesOver_26 : decode nModel_takesOver.2.1 26 = .ok (.aload_n 0, 1) := by decide +kernel
theorem dModel_takesOver_27 : decode nModel_takesOver.2.1 27 = .ok (.iload_n 1, 1) := by decide +kernel
theorem dModel_takesOver_28 : decode nModel_takesOver.2.1 28 = .ok (.iload_n 2, 1) := by decide +kernel
theorem dModel_takesOver_29 : decode nModel_takesOver.2.1 29 = .ok (.invokevirtual 142, 3) := by decide +kernel
theorem dModel_takesOver_32 : decode nModel_takesOver.2.1 32 = .ok (.ifCond .ne 5, 3) := by decide +kernel
theorem dModel_takesOver_35 : decode nModel_takesOver.2.1 35 = .ok (.iconst 0, 1) := by decide +kernel
theorem dModel_takesOver_36 : decode nModel_takesOver.2.1 36 = .ok (.ireturn, 1) := by decide +kernel
theorem dModel_takesOver_37 : decode nModel_takesOver.2.1 37 = .ok (.iconst 0, 1) := by decide +kernel
theorem dModel_takesOver_38 : decode nModel_takesOver.2.1 38 = .ok (.istore_n 3, 1) := by decide +kernel
theorem dModel_takesOver_39 : decode nModel_takesOver.2.1 39 = .ok (.iload_n 3, 1) := by decide +kernel
theorem dModel_takesOver_40 : decode nModel_takesOver.2.1 40 = .ok (.aload_n 0, 1) := by decide +kernel
theorem dModel_takesOver_41 : decode nModel_takesOver.2.1 41 = .ok (.getfield 82, 3) := by decide +kernel
theorem dModel_takesOver_44 : decode nModel_takesOver.2.1 44 = .ok (.if_icmp .ge 50, 3) := by decide +kernel
theorem dModel_takesOver_47 : decode nModel_takesOver.2.1 47 = .ok (.aload_n 0, 1) := by decide +kernel
theorem dModel_takesOver_48 : decode nModel_takesOver.2.1 48 = .ok (.iload_n 3, 1) := by decide +kernel
theorem dModel_takesOver_49 : decode nModel_takesOver.2.1 49 = .ok (.iload_n 1, 1) := by decide +kernel
theorem dModel_takesOver_50 : decode nModel_takesOver.2.1 50 = .ok (.iload_n 2, 1) := by decide +kernel
theorem dModel_takesOver_51 : decode nModel_takesOver.2.1 51 = .ok (.invokevirtual 182, 3) := by decide +kernel
theorem dModel_takesOver_54 : decode nModel_takesOver.2.1 54 = .ok (.ifCond .eq 34, 3) := by decide +kernel
theorem dModel_takesOver_57 : decode nModel_takesOver.2.1 57 = .ok (.iload_n 2, 1) := by decide +kernel
theorem dModel_takesOver_58 : decode nModel_takesOver.2.1 58 = .ok (.istore 4, 2) := by decide +kernel
theorem dModel_takesOver_60 : decode nModel_takesOver.2.1 60 = .ok (.iload 4, 2) := by decide +kernel
theorem dModel_takesOver_62 : decode nModel_takesOver.2.1 62 = .ok (.bipush 30, 2) := by decide +kernel
theorem dModel_takesOver_64 : decode nModel_takesOver.2.1 64 = .ok (.if_icmp .ge 22, 3) := by decide +kernel
theorem dModel_takesOver_67 : decode nModel_takesOver.2.1 67 = .ok (.aload_n 0, 1) := by decide +kernel
theorem dModel_takesOver_68 : decode nModel_takesOver.2.1 68 = .ok (.getfield 49, 3) := by decide +kernel
theorem dModel_takesOver_71 : decode nModel_takesOver.2.1 71 = .ok (.bipush 30, 2) := by decide +kernel
theorem dModel_takesOver_73 : decode nModel_takesOver.2.1 73 = .ok (.iload_n 1, 1) := by decide +kernel
theorem dModel_takesOver_74 : decode nModel_takesOver.2.1 74 = .ok (.imul, 1) := by decide +kernel
theorem dModel_takesOver_75 : decode nModel_takesOver.2.1 75 = .ok (.iload 4, 2) := by decide +kernel
theorem dModel_takesOver_77 : decode nModel_takesOver.2.1 77 = .ok (.iadd, 1) := by decide +kernel
theorem dModel_takesOver_78 : decode nModel_takesOver.2.1 78 = .ok (.iload_n 3, 1) := by decide +kernel
theorem dModel_takesOver_79 : decode nModel_takesOver.2.1 79 = .ok (.iastore, 1) := by decide +kernel
theorem dModel_takesOver_80 : decode nModel_takesOver.2.1 80 = .ok (.iinc 4 1, 3) := by decide +kernel
theorem dModel_takesOver_83 : decode nModel_takesOver.2.1 83 = .ok (.goto (-23), 3) := by decide +kernel
theorem dModel_takesOver_86 : decode nModel_takesOver.2.1 86 = .ok (.iconst 1, 1) := by decide +kernel
theorem dModel_takesOver_87 : decode nModel_takesOver.2.1 87 = .ok (.ireturn, 1) := by decide +kernel
theorem dModel_takesOver_88 : decode nModel_takesOver.2.1 88 = .ok (.iinc 3 1, 3) := by decide +kernel
theorem dModel_takesOver_91 : decode nModel_takesOver.2.1 91 = .ok (.goto (-52), 3) := by decide +kernel
theorem dModel_takesOver_94 : decode nModel_takesOver.2.1 94 = .ok (.iconst 0, 1) := by decide +kernel
theorem dModel_takesOver_95 : decode nModel_takesOver.2.1 95 = .ok (.ireturn, 1) := by decide +kernel
theorem dModel_hurt_0 : decode nModel_hurt.2.1 0 = .ok (.aload_n 0, 1) := by decide +kernel
theorem dModel_hurt_1 : decode nModel_hurt.2.1 1 = .ok (.iload_n 1, 1) := by decide +kernel
theorem dModel_hurt_2 : decode nModel_hurt.2.1 2 = .ok (.invokevirtual 109, 3) := by decide +kernel
theorem dModel_hurt_5 : decode nModel_hurt.2.1 5 = .ok (.ifCond .eq 10, 3) := by decide +kernel
theorem dModel_hurt_8 : decode nModel_hurt.2.1 8 = .ok (.iload_n 2, 1) := by decide +kernel
theorem dModel_hurt_9 : decode nModel_hurt.2.1 9 = .ok (.invokestatic 91, 3) := by decide +kernel
theorem dModel_hurt_12 : decode nModel_hurt.2.1 12 = .ok (.ifCond .ne 6, 3) := by decide +kernel
theorem dModel_hurt_15 : decode nModel_hurt.2.1 15 = .ok (.ldc 85, 2) := by decide +kernel
theorem dModel_hurt_17 : decode nModel_hurt.2.1 17 = .ok (.ireturn, 1) := by decide +kernel
theorem dModel_hurt_18 : decode nModel_hurt.2.1 18 = .ok (.aload_n 0, 1) := by decide +kernel
theorem dModel_hurt_19 : decode nModel_hurt.2.1 19 = .ok (.getfield 128, 3) := by decide +kernel
theorem dModel_hurt_22 : decode nModel_hurt.2.1 22 = .ok (.ifCond .ne 6, 3) := by decide +kernel
theorem dModel_hurt_25 : decode nModel_hurt.2.1 25 = .ok (.ldc 103, 2) := by decide +kernel
theorem dModel_hurt_27 : decode nModel_hurt.2.1 27 = .ok (.ireturn, 1) := by decide +kernel
theorem dModel_hurt_28 : decode nModel_hurt.2.1 28 = .ok (.aload_n 0, 1) := by decide +kernel
theorem dModel_hurt_29 : decode nModel_hurt.2.1 29 = .ok (.getfield 43, 3) := by decide +kernel
theorem dModel_hurt_32 : decode nModel_hurt.2.1 32 = .ok (.iload_n 1, 1) := by decide +kernel
theorem dModel_hurt_33 : decode nModel_hurt.2.1 33 = .ok (.iload_n 2, 1) := by decide +kernel
theorem dModel_hurt_34 : decode nModel_hurt.2.1 34 = .ok (.iastore, 1) := by decide +kernel
theorem dModel_hurt_35 : decode nModel_hurt.2.1 35 = .ok (.iconst 0, 1) := by decide +kernel
theorem dModel_hurt_36 : decode nModel_hurt.2.1 36 = .ok (.istore_n 3, 1) := by decide +kernel
theorem dModel_hurt_37 : decode nModel_hurt.2.1 37 = .ok (.iconst 0, 1) := by decide +kernel
theorem dModel_hurt_38 : decode nModel_hurt.2.1 38 = .ok (.istore 4, 2) := by decide +kernel
theorem dModel_hurt_40 : decode nModel_hurt.2.1 40 = .ok (.iload 4, 2) := by decide +kernel
theorem dModel_hurt_42 : decode nModel_hurt.2.1 42 = .ok (.aload_n 0, 1) := by decide +kernel
theorem dModel_hurt_43 : decode nModel_hurt.2.1 43 = .ok (.getfield 74, 3) := by decide +kernel
theorem dModel_hurt_46 : decode nModel_hurt.2.1 46 = .ok (.if_icmp .ge 68, 3) := by decide +kernel
theorem dModel_hurt_49 : decode nModel_hurt.2.1 49 = .ok (.iload_n 2, 1) := by decide +kernel
theorem dModel_hurt_50 : decode nModel_hurt.2.1 50 = .ok (.istore 5, 2) := by decide +kernel
theorem dModel_hurt_52 : decode nModel_hurt.2.1 52 = .ok (.iload 5, 2) := by decide +kernel
theorem dModel_hurt_54 : decode nModel_hurt.2.1 54 = .ok (.bipush 30, 2) := by decide +kernel
theorem dModel_hurt_56 : decode nModel_hurt.2.1 56 = .ok (.if_icmp .ge 26, 3) := by decide +kernel
theorem dModel_hurt_59 : decode nModel_hurt.2.1 59 = .ok (.aload_n 0, 1) := by decide +kernel
theorem dModel_hurt_60 : decode nModel_hurt.2.1 60 = .ok (.getfield 49, 3) := by decide +kernel
theorem dModel_hurt_63 : decode nModel_hurt.2.1 63 = .ok (.bipush 30, 2) := by decide +kernel
theorem dModel_hurt_65 : decode nModel_hurt.2.1 65 = .ok (.iload 4, 2) := by decide +kernel
theorem dModel_hurt_67 : decode nModel_hurt.2.1 67 = .ok (.imul, 1) := by decide +kernel
theorem dModel_hurt_68 : decode nModel_hurt.2.1 68 = .ok (.iload 5, 2) := by decide +kernel
theorem dModel_hurt_70 : decode nModel_hurt.2.1 70 = .ok (.iadd, 1) := by decide +kernel
theorem dModel_hurt_71 : decode nModel_hurt.2.1 71 = .ok (.iaload, 1) := by decide +kernel
theorem dModel_hurt_72 : decode nModel_hurt.2.1 72 = .ok (.iload_n 1, 1) := by decide +kernel
theorem dModel_hurt_73 : decode nModel_hurt.2.1 73 = .ok (.if_icmp .eq 9, 3) := by decide +kernel
theorem dModel_hurt_76 : decode nModel_hurt.2.1 76 = .ok (.iinc 5 1, 3) := by decide +kernel
theorem dModel_hurt_79 : decode nModel_hurt.2.1 79 = .ok (.goto (-27), 3) := by decide +kernel
theorem dModel_hurt_82 : decode nModel_hurt.2.1 82 = .ok (.iload 5, 2) := by decide +kernel
theorem dModel_hurt_84 : decode nModel_hurt.2.1 84 = .ok (.bipush 30, 2) := by decide +kernel
theorem dModel_hurt_86 : decode nModel_hurt.2.1 86 = .ok (.if_icmp .ge 22, 3) := by decide +kernel
theorem dModel_hurt_89 : decode nModel_hurt.2.1 89 = .ok (.iload_n 3, 1) := by decide +kernel
theorem dModel_hurt_90 : decode nModel_hurt.2.1 90 = .ok (.aload_n 0, 1) := by decide +kernel
theorem dModel_hurt_91 : decode nModel_hurt.2.1 91 = .ok (.iload 4, 2) := by decide +kernel
theorem dModel_hurt_93 : decode nModel_hurt.2.1 93 = .ok (.iload 5, 2) := by decide +kernel
theorem dModel_hurt_95 : decode nModel_hurt.2.1 95 = .ok (.invokevirtual 185, 3) := by decide +kernel
theorem dModel_hurt_98 : decode nModel_hurt.2.1 98 = .ok (.ifCond .eq 7, 3) := by decide +kernel
theorem dModel_hurt_101 : decode nModel_hurt.2.1 101 = .ok (.iconst 1, 1) := by decide +kernel
theorem dModel_hurt_102 : decode nModel_hurt.2.1 102 = .ok (.goto 4, 3) := by decide +kernel
theorem dModel_hurt_105 : decode nModel_hurt.2.1 105 = .ok (.iconst 0, 1) := by decide +kernel
theorem dModel_hurt_106 : decode nModel_hurt.2.1 106 = .ok (.iadd, 1) := by decide +kernel
theorem dModel_hurt_107 : decode nModel_hurt.2.1 107 = .ok (.istore_n 3, 1) := by decide +kernel
theorem dModel_hurt_108 : decode nModel_hurt.2.1 108 = .ok (.iinc 4 1, 3) := by decide +kernel
theorem dModel_hurt_111 : decode nModel_hurt.2.1 111 = .ok (.goto (-71), 3) := by decide +kernel
theorem dModel_hurt_114 : decode nModel_hurt.2.1 114 = .ok (.iload_n 3, 1) := by decide +kernel
theorem dModel_hurt_115 : decode nModel_hurt.2.1 115 = .ok (.ireturn, 1) := by decide +kernel
theorem dModel_at_0 : decode nModel_at.2.1 0 = .ok (.aload_n 0, 1) := by decide +kernel
theorem dModel_at_1 : decode nModel_at.2.1 1 = .ok (.iload_n 1, 1) := by decide +kernel
theorem dModel_at_2 : decode nModel_at.2.1 2 = .ok (.invokevirtual 87, 3) := by decide +kernel
theorem dModel_at_5 : decode nModel_at.2.1 5 = .ok (.ifCond .eq 10, 3) := by decide +kernel
theorem dModel_at_8 : decode nModel_at.2.1 8 = .ok (.iload_n 2, 1) := by decide +kernel
theorem dModel_at_9 : decode nModel_at.2.1 9 = .ok (.invokestatic 91, 3) := by decide +kernel
theorem dModel_at_12 : decode nModel_at.2.1 12 = .ok (.ifCond .ne 6, 3) := by decide +kernel
theorem dModel_at_15 : decode nModel_at.2.1 15 = .ok (.ldc 85, 2) := by decide +kernel
theorem dModel_at_17 : decode nModel_at.2.1 17 = .ok (.ireturn, 1) := by decide +kernel
theorem dModel_at_18 : decode nModel_at.2.1 18 = .ok (.aload_n 0, 1) := by decide +kernel
theorem dModel_at_19 : decode nModel_at.2.1 19 = .ok (.getfield 128, 3) := by decide +kernel
theorem dModel_at_22 : decode nModel_at.2.1 22 = .ok (.ifCond .ne 6, 3) := by decide +kernel
theorem dModel_at_25 : decode nModel_at.2.1 25 = .ok (.ldc 103, 2) := by decide +kernel
theorem dModel_at_27 : decode nModel_at.2.1 27 = .ok (.ireturn, 1) := by decide +kernel
theorem dModel_at_28 : decode nModel_at.2.1 28 = .ok (.aload_n 0, 1) := by decide +kernel
theorem dModel_at_29 : decode nModel_at.2.1 29 = .ok (.getfield 49, 3) := by decide +kernel
theorem dModel_at_32 : decode nModel_at.2.1 32 = .ok (.bipush 30, 2) := by decide +kernel
theorem dModel_at_34 : decode nModel_at.2.1 34 = .ok (.iload_n 1, 1) := by decide +kernel
theorem dModel_at_35 : decode nModel_at.2.1 35 = .ok (.imul, 1) := by decide +kernel
theorem dModel_at_36 : decode nModel_at.2.1 36 = .ok (.iload_n 2, 1) := by decide +kernel
theorem dModel_at_37 : decode nModel_at.2.1 37 = .ok (.iadd, 1) := by decide +kernel
theorem dModel_at_38 : decode nModel_at.2.1 38 = .ok (.iaload, 1) := by decide +kernel
theorem dModel_at_39 : decode nModel_at.2.1 39 = .ok (.istore_n 3, 1) := by decide +kernel
theorem dModel_at_40 : decode nModel_at.2.1 40 = .ok (.iload_n 3, 1) := by decide +kernel
theorem dModel_at_41 : decode nModel_at.2.1 41 = .ok (.ifCond .ge 8, 3) := by decide +kernel
theorem dModel_at_44 : decode nModel_at.2.1 44 = .ok (.ldc 94, 2) := by decide +kernel
theorem dModel_at_46 : decode nModel_at.2.1 46 = .ok (.goto 4, 3) := by decide +kernel
theorem dModel_at_49 : decode nModel_at.2.1 49 = .ok (.iload_n 3, 1) := by decide +kernel
theorem dModel_at_50 : decode nModel_at.2.1 50 = .ok (.ireturn, 1) := by decide +kernel
theorem dModel_hours_0 : decode nModel_hours.2.1 0 = .ok (.iconst 0, 1) := by decide +kernel
theorem dModel_hours_1 : decode nModel_hours.2.1 1 = .ok (.istore_n 2, 1) := by decide +kernel
theorem dModel_hours_2 : decode nModel_hours.2.1 2 = .ok (.iconst 0, 1) := by decide +kernel
theorem dModel_hours_3 : decode nModel_hours.2.1 3 = .ok (.istore_n 3, 1) := by decide +kernel
theorem dModel_hours_4 : decode nModel_hours.2.1 4 = .ok (.iload_n 3, 1) := by decide +kernel
theorem dModel_hours_5 : decode nModel_hours.2.1 5 = .ok (.bipush 30, 2) := by decide +kernel
theorem dModel_hours_7 : decode nModel_hours.2.1 7 = .ok (.if_icmp .ge 26, 3) := by decide +kernel
theorem dModel_hours_10 : decode nModel_hours.2.1 10 = .ok (.iload_n 2, 1) := by decide +kernel
theorem dModel_hours_11 : decode nModel_hours.2.1 11 = .ok (.aload_n 0, 1) := by decide +kernel
theorem dModel_hours_12 : decode nModel_hours.2.1 12 = .ok (.iload_n 1, 1) := by decide +kernel
theorem dModel_hours_13 : decode nModel_hours.2.1 13 = .ok (.iload_n 3, 1) := by decide +kernel
theorem dModel_hours_14 : decode nModel_hours.2.1 14 = .ok (.invokevirtual 99, 3) := by decide +kernel
theorem dModel_hours_17 : decode nModel_hours.2.1 17 = .ok (.ifCond .eq 7, 3) := by decide +kernel
theorem dModel_hours_20 : decode nModel_hours.2.1 20 = .ok (.iconst 1, 1) := by decide +kernel
theorem dModel_hours_21 : decode nModel_hours.2.1 21 = .ok (.goto 4, 3) := by decide +kernel
theorem dModel_hours_24 : decode nModel_hours.2.1 24 = .ok (.iconst 0, 1) := by decide +kernel
theorem dModel_hours_25 : decode nModel_hours.2.1 25 = .ok (.iadd, 1) := by decide +kernel
theorem dModel_hours_26 : decode nModel_hours.2.1 26 = .ok (.istore_n 2, 1) := by decide +kernel
theorem dModel_hours_27 : decode nModel_hours.2.1 27 = .ok (.iinc 3 1, 3) := by decide +kernel
theorem dModel_hours_30 : decode nModel_hours.2.1 30 = .ok (.goto (-26), 3) := by decide +kernel
theorem dModel_hours_33 : decode nModel_hours.2.1 33 = .ok (.iload_n 2, 1) := by decide +kernel
theorem dModel_hours_34 : decode nModel_hours.2.1 34 = .ok (.iconst 4, 1) := by decide +kernel
theorem dModel_hours_35 : decode nModel_hours.2.1 35 = .ok (.idiv, 1) := by decide +kernel
theorem dModel_hours_36 : decode nModel_hours.2.1 36 = .ok (.iconst 1, 1) := by decide +kernel
theorem dModel_hours_37 : decode nModel_hours.2.1 37 = .ok (.iadd, 1) := by decide +kernel
theorem dModel_hours_38 : decode nModel_hours.2.1 38 = .ok (.ireturn, 1) := by decide +kernel
theorem dModel_behind_0 : decode nModel_behind.2.1 0 = .ok (.iload_n 1, 1) := by decide +kernel
theorem dModel_behind_1 : decode nModel_behind.2.1 1 = .ok (.aload_n 0, 1) := by decide +kernel
theorem dModel_behind_2 : decode nModel_behind.2.1 2 = .ok (.getfield 68, 3) := by decide +kernel
theorem dModel_behind_5 : decode nModel_behind.2.1 5 = .ok (.iload_n 2, 1) := by decide +kernel
theorem dModel_behind_6 : decode nModel_behind.2.1 6 = .ok (.iaload, 1) := by decide +kernel
theorem dModel_behind_7 : decode nModel_behind.2.1 7 = .ok (.idiv, 1) := by decide +kernel
theorem dModel_behind_8 : decode nModel_behind.2.1 8 = .ok (.iconst 3, 1) := by decide +kernel
theorem dModel_behind_9 : decode nModel_behind.2.1 9 = .ok (.irem, 1) := by decide +kernel
theorem dModel_behind_10 : decode nModel_behind.2.1 10 = .ok (.ifCond .le 14, 3) := by decide +kernel
theorem dModel_behind_13 : decode nModel_behind.2.1 13 = .ok (.iload_n 1, 1) := by decide +kernel
theorem dModel_behind_14 : decode nModel_behind.2.1 14 = .ok (.aload_n 0, 1) := by decide +kernel
theorem dModel_behind_15 : decode nModel_behind.2.1 15 = .ok (.getfield 68, 3) := by decide +kernel
theorem dModel_behind_18 : decode nModel_behind.2.1 18 = .ok (.iload_n 2, 1) := by decide +kernel
theorem dModel_behind_19 : decode nModel_behind.2.1 19 = .ok (.iaload, 1) := by decide +kernel
theorem dModel_behind_20 : decode nModel_behind.2.1 20 = .ok (.isub, 1) := by decide +kernel
theorem dModel_behind_21 : decode nModel_behind.2.1 21 = .ok (.goto 4, 3) := by decide +kernel
theorem dModel_behind_24 : decode nModel_behind.2.1 24 = .ok (.iload_n 1, 1) := by decide +kernel
theorem dModel_behind_25 : decode nModel_behind.2.1 25 = .ok (.ireturn, 1) := by decide +kernel
theorem dModel_mayPut_0 : decode nModel_mayPut.2.1 0 = .ok (.aload_n 0, 1) := by decide +kernel
theorem dModel_mayPut_1 : decode nModel_mayPut.2.1 1 = .ok (.iload_n 1, 1) := by decide +kernel
theorem dModel_mayPut_2 : decode nModel_mayPut.2.1 2 = .ok (.iload_n 2, 1) := by decide +kernel
theorem dModel_mayPut_3 : decode nModel_mayPut.2.1 3 = .ok (.invokevirtual 122, 3) := by decide +kernel
theorem dModel_mayPut_6 : decode nModel_mayPut.2.1 6 = .ok (.ifCond .eq 16, 3) := by decide +kernel
theorem dModel_mayPut_9 : decode nModel_mayPut.2.1 9 = .ok (.aload_n 0, 1) := by decide +kernel
theorem dModel_mayPut_10 : decode nModel_mayPut.2.1 10 = .ok (.iload_n 1, 1) := by decide +kernel
theorem dModel_mayPut_11 : decode nModel_mayPut.2.1 11 = .ok (.iload_n 2, 1) := by decide +kernel
theorem dModel_mayPut_12 : decode nModel_mayPut.2.1 12 = .ok (.invokevirtual 125, 3) := by decide +kernel
theorem dModel_mayPut_15 : decode nModel_mayPut.2.1 15 = .ok (.ifCond .ne 7, 3) := by decide +kernel
theorem dModel_mayPut_18 : decode nModel_mayPut.2.1 18 = .ok (.iconst 1, 1) := by decide +kernel
theorem dModel_mayPut_19 : decode nModel_mayPut.2.1 19 = .ok (.goto 4, 3) := by decide +kernel
theorem dModel_mayPut_22 : decode nModel_mayPut.2.1 22 = .ok (.iconst 0, 1) := by decide +kernel
theorem dModel_mayPut_23 : decode nModel_mayPut.2.1 23 = .ok (.ireturn, 1) := by decide +kernel
theorem dModel_findPlan_0 : decode nModel_findPlan.2.1 0 = .ok (.aload_n 0, 1) := by decide +kernel
theorem dModel_findPlan_1 : decode nModel_findPlan.2.1 1 = .ok (.getfield 68, 3) := by decide +kernel
theorem dModel_findPlan_4 : decode nModel_findPlan.2.1 4 = .ok (.iconst 0, 1) := by decide +kernel
theorem dModel_findPlan_5 : decode nModel_findPlan.2.1 5 = .ok (.iconst 1, 1) := by decide +kernel
theorem dModel_findPlan_6 : decode nModel_findPlan.2.1 6 = .ok (.iastore, 1) := by decide +kernel
theorem dModel_findPlan_7 : decode nModel_findPlan.2.1 7 = .ok (.iconst 0, 1) := by decide +kernel
theorem dModel_findPlan_8 : decode nModel_findPlan.2.1 8 = .ok (.istore_n 1, 1) := by decide +kernel
theorem dModel_findPlan_9 : decode nModel_findPlan.2.1 9 = .ok (.iload_n 1, 1) := by decide +kernel
theorem dModel_findPlan_10 : decode nModel_findPlan.2.1 10 = .ok (.bipush 8, 2) := by decide +kernel
theorem dModel_findPlan_12 : decode nModel_findPlan.2.1 12 = .ok (.if_icmp .ge 25, 3) := by decide +kernel
theorem dModel_findPlan_15 : decode nModel_findPlan.2.1 15 = .ok (.aload_n 0, 1) := by decide +kernel
theorem dModel_findPlan_16 : decode nModel_findPlan.2.1 16 = .ok (.getfield 68, 3) := by decide +kernel
theorem dModel_findPlan_19 : decode nModel_findPlan.2.1 19 = .ok (.iload_n 1, 1) := by decide +kernel
theorem dModel_findPlan_20 : decode nModel_findPlan.2.1 20 = .ok (.iconst 1, 1) := by decide +kernel
theorem dModel_findPlan_21 : decode nModel_findPlan.2.1 21 = .ok (.iadd, 1) := by decide +kernel
theorem dModel_findPlan_22 : decode nModel_findPlan.2.1 22 = .ok (.iconst 3, 1) := by decide +kernel
theorem dModel_findPlan_23 : decode nModel_findPlan.2.1 23 = .ok (.aload_n 0, 1) := by decide +kernel
theorem dModel_findPlan_24 : decode nModel_findPlan.2.1 24 = .ok (.getfield 68, 3) := by decide +kernel
theorem dModel_findPlan_27 : decode nModel_findPlan.2.1 27 = .ok (.iload_n 1, 1) := by decide +kernel
theorem dModel_findPlan_28 : decode nModel_findPlan.2.1 28 = .ok (.iaload, 1) := by decide +kernel
theorem dModel_findPlan_29 : decode nModel_findPlan.2.1 29 = .ok (.imul, 1) := by decide +kernel
theorem dModel_findPlan_30 : decode nModel_findPlan.2.1 30 = .ok (.iastore, 1) := by decide +kernel
theorem dModel_findPlan_31 : decode nModel_findPlan.2.1 31 = .ok (.iinc 1 1, 3) := by decide +kernel
theorem dModel_findPlan_34 : decode nModel_findPlan.2.1 34 = .ok (.goto (-25), 3) := by decide +kernel
theorem dModel_findPlan_37 : decode nModel_findPlan.2.1 37 = .ok (.aload_n 0, 1) := by decide +kernel
theorem dModel_findPlan_38 : decode nModel_findPlan.2.1 38 = .ok (.getfield 68, 3) := by decide +kernel
theorem dModel_findPlan_41 : decode nModel_findPlan.2.1 41 = .ok (.aload_n 0, 1) := by decide +kernel
theorem dModel_findPlan_42 : decode nModel_findPlan.2.1 42 = .ok (.getfield 74, 3) := by decide +kernel
theorem dModel_findPlan_45 : decode nModel_findPlan.2.1 45 = .ok (.iaload, 1) := by decide +kernel
theorem dModel_findPlan_46 : decode nModel_findPlan.2.1 46 = .ok (.istore_n 1, 1) := by decide +kernel
theorem dModel_findPlan_47 : decode nModel_findPlan.2.1 47 = .ok (.iconst 0, 1) := by decide +kernel
theorem dModel_findPlan_48 : decode nModel_findPlan.2.1 48 = .ok (.istore_n 2, 1) := by decide +kernel
theorem dModel_findPlan_49 : decode nModel_findPlan.2.1 49 = .ok (.iconst 0, 1) := by decide +kernel
theorem dModel_findPlan_50 : decode nModel_findPlan.2.1 50 = .ok (.istore_n 3, 1) := by decide +kernel
theorem dModel_findPlan_51 : decode nModel_findPlan.2.1 51 = .ok (.iload_n 3, 1) := by decide +kernel
theorem dModel_findPlan_52 : decode nModel_findPlan.2.1 52 = .ok (.aload_n 0, 1) := by decide +kernel
theorem dModel_findPlan_53 : decode nModel_findPlan.2.1 53 = .ok (.getfield 74, 3) := by decide +kernel
theorem dModel_findPlan_56 : decode nModel_findPlan.2.1 56 = .ok (.if_icmp .ge 67, 3) := by decide +kernel
theorem dModel_findPlan_59 : decode nModel_findPlan.2.1 59 = .ok (.iconst 2, 1) := by decide +kernel
theorem dModel_findPlan_60 : decode nModel_findPlan.2.1 60 = .ok (.istore 4, 2) := by decide +kernel
theorem dModel_findPlan_62 : decode nModel_findPlan.2.1 62 = .ok (.iconst 0, 1) := by decide +kernel
theorem dModel_findPlan_63 : decode nModel_findPlan.2.1 63 = .ok (.istore 5, 2) := by decide +kernel
theorem dModel_findPlan_65 : decode nModel_findPlan.2.1 65 = .ok (.iload 5, 2) := by decide +kernel
theorem dModel_findPlan_67 : decode nModel_findPlan.2.1 67 = .ok (.aload_n 0, 1) := by decide +kernel
theorem dModel_findPlan_68 : decode nModel_findPlan.2.1 68 = .ok (.getfield 82, 3) := by decide +kernel
theorem dModel_findPlan_71 : decode nModel_findPlan.2.1 71 = .ok (.if_icmp .ge 34, 3) := by decide +kernel
theorem dModel_findPlan_74 : decode nModel_findPlan.2.1 74 = .ok (.iload 4, 2) := by decide +kernel
theorem dModel_findPlan_76 : decode nModel_findPlan.2.1 76 = .ok (.aload_n 0, 1) := by decide +kernel
theorem dModel_findPlan_77 : decode nModel_findPlan.2.1 77 = .ok (.iload 5, 2) := by decide +kernel
theorem dModel_findPlan_79 : decode nModel_findPlan.2.1 79 = .ok (.iload_n 3, 1) := by decide +kernel
theorem dModel_findPlan_80 : decode nModel_findPlan.2.1 80 = .ok (.invokevirtual 125, 3) := by decide +kernel
theorem dModel_findPlan_83 : decode nModel_findPlan.2.1 83 = .ok (.ifCond .eq 12, 3) := by decide +kernel
theorem dModel_findPlan_86 : decode nModel_findPlan.2.1 86 = .ok (.iload 4, 2) := by decide +kernel
theorem dModel_findPlan_88 : decode nModel_findPlan.2.1 88 = .ok (.ifCond .le 7, 3) := by decide +kernel
theorem dModel_findPlan_91 : decode nModel_findPlan.2.1 91 = .ok (.iconst 1, 1) := by decide +kernel
theorem dModel_findPlan_92 : decode nModel_findPlan.2.1 92 = .ok (.goto 4, 3) := by decide +kernel
theorem dModel_findPlan_95 : decode nModel_findPlan.2.1 95 = .ok (.iconst 0, 1) := by decide +kernel
theorem dModel_findPlan_96 : decode nModel_findPlan.2.1 96 = .ok (.isub, 1) := by decide +kernel
theorem dModel_findPlan_97 : decode nModel_findPlan.2.1 97 = .ok (.istore 4, 2) := by decide +kernel
theorem dModel_findPlan_99 : decode nModel_findPlan.2.1 99 = .ok (.iinc 5 1, 3) := by decide +kernel
theorem dModel_findPlan_102 : decode nModel_findPlan.2.1 102 = .ok (.goto (-37), 3) := by decide +kernel
theorem dModel_findPlan_105 : decode nModel_findPlan.2.1 105 = .ok (.iload_n 2, 1) := by decide +kernel
theorem dModel_findPlan_106 : decode nModel_findPlan.2.1 106 = .ok (.iload 4, 2) := by decide +kernel
theorem dModel_findPlan_108 : decode nModel_findPlan.2.1 108 = .ok (.aload_n 0, 1) := by decide +kernel
theorem dModel_findPlan_109 : decode nModel_findPlan.2.1 109 = .ok (.getfield 68, 3) := by decide +kernel
theorem dModel_findPlan_112 : decode nModel_findPlan.2.1 112 = .ok (.iload_n 3, 1) := by decide +kernel
theorem dModel_findPlan_113 : decode nModel_findPlan.2.1 113 = .ok (.iaload, 1) := by decide +kernel
theorem dModel_findPlan_114 : decode nModel_findPlan.2.1 114 = .ok (.imul, 1) := by decide +kernel
theorem dModel_findPlan_115 : decode nModel_findPlan.2.1 115 = .ok (.iadd, 1) := by decide +kernel
theorem dModel_findPlan_116 : decode nModel_findPlan.2.1 116 = .ok (.istore_n 2, 1) := by decide +kernel
theorem dModel_findPlan_117 : decode nModel_findPlan.2.1 117 = .ok (.iinc 3 1, 3) := by decide +kernel
theorem dModel_findPlan_120 : decode nModel_findPlan.2.1 120 = .ok (.goto (-69), 3) := by decide +kernel
theorem dModel_findPlan_123 : decode nModel_findPlan.2.1 123 = .ok (.aload_n 0, 1) := by decide +kernel
theorem dModel_findPlan_124 : decode nModel_findPlan.2.1 124 = .ok (.getfield 82, 3) := by decide +kernel
theorem dModel_findPlan_127 : decode nModel_findPlan.2.1 127 = .ok (.istore_n 3, 1) := by decide +kernel
theorem dModel_findPlan_128 : decode nModel_findPlan.2.1 128 = .ok (.iload_n 3, 1) := by decide +kernel
theorem dModel_findPlan_129 : decode nModel_findPlan.2.1 129 = .ok (.ifCond .lt 180, 3) := by decide +kernel
theorem dModel_findPlan_132 : decode nModel_findPlan.2.1 132 = .ok (.iconst 0, 1) := by decide +kernel
theorem dModel_findPlan_133 : decode nModel_findPlan.2.1 133 = .ok (.istore 4, 2) := by decide +kernel
theorem dModel_findPlan_135 : decode nModel_findPlan.2.1 135 = .ok (.iload 4, 2) := by decide +kernel
theorem dModel_findPlan_137 : decode nModel_findPlan.2.1 137 = .ok (.iload_n 1, 1) := by decide +kernel
theorem dModel_findPlan_138 : decode nModel_findPlan.2.1 138 = .ok (.if_icmp .ge 165, 3) := by decide +kernel
theorem dModel_findPlan_141 : decode nModel_findPlan.2.1 141 = .ok (.iload_n 3, 1) := by decide +kernel
theorem dModel_findPlan_142 : decode nModel_findPlan.2.1 142 = .ok (.aload_n 0, 1) := by decide +kernel
theorem dModel_findPlan_143 : decode nModel_findPlan.2.1 143 = .ok (.getfield 82, 3) := by decide +kernel
theorem dModel_findPlan_146 : decode nModel_findPlan.2.1 146 = .ok (.if_icmp .ne 16, 3) := by decide +kernel
theorem dModel_findPlan_149 : decode nModel_findPlan.2.1 149 = .ok (.iload 4, 2) := by decide +kernel
theorem dModel_findPlan_151 : decode nModel_findPlan.2.1 151 = .ok (.ifCond .ne 7, 3) := by decide +kernel
theorem dModel_findPlan_154 : decode nModel_findPlan.2.1 154 = .ok (.iconst 0, 1) := by decide +kernel
theorem dModel_findPlan_155 : decode nModel_findPlan.2.1 155 = .ok (.goto 22, 3) := by decide +kernel
theorem dModel_findPlan_158 : decode nModel_findPlan.2.1 158 = .ok (.iconst (-1), 1) := by decide +kernel
theorem dModel_findPlan_159 : decode nModel_findPlan.2.1 159 = .ok (.goto 18, 3) := by decide +kernel
theorem dModel_findPlan_162 : decode nModel_findPlan.2.1 162 = .ok (.aload_n 0, 1) := by decide +kernel
theorem dModel_findPlan_163 : decode nModel_findPlan.2.1 163 = .ok (.getfield 65, 3) := by decide +kernel
theorem dModel_findPlan_166 : decode nModel_findPlan.2.1 166 = .ok (.sipush 6561, 3) := by decide +kernel
theorem dModel_findPlan_169 : decode nModel_findPlan.2.1 169 = .ok (.iload_n 3, 1) := by decide +kernel
theorem dModel_findPlan_170 : decode nModel_findPlan.2.1 170 = .ok (.iconst 1, 1) := by decide +kernel
theorem dModel_findPlan_171 : decode nModel_findPlan.2.1 171 = .ok (.iadd, 1) := by decide +kernel
theorem dModel_findPlan_172 : decode nModel_findPlan.2.1 172 = .ok (.imul, 1) := by decide +kernel
theorem dModel_findPlan_173 : decode nModel_findPlan.2.1 173 = .ok (.iload 4, 2) := by decide +kernel
theorem dModel_findPlan_175 : decode nModel_findPlan.2.1 175 = .ok (.iadd, 1) := by decide +kernel
theorem dModel_findPlan_176 : decode nModel_findPlan.2.1 176 = .ok (.iaload, 1) := by decide +kernel
theorem dModel_findPlan_177 : decode nModel_findPlan.2.1 177 = .ok (.istore 5, 2) := by decide +kernel
theorem dModel_findPlan_179 : decode nModel_findPlan.2.1 179 = .ok (.iconst 0, 1) := by decide +kernel
theorem dModel_findPlan_180 : decode nModel_findPlan.2.1 180 = .ok (.istore 6, 2) := by decide +kernel
theorem dModel_findPlan_182 : decode nModel_findPlan.2.1 182 = .ok (.iload 6, 2) := by decide +kernel
theorem dModel_findPlan_184 : decode nModel_findPlan.2.1 184 = .ok (.aload_n 0, 1) := by decide +kernel
theorem dModel_findPlan_185 : decode nModel_findPlan.2.1 185 = .ok (.getfield 74, 3) := by decide +kernel
theorem dModel_findPlan_188 : decode nModel_findPlan.2.1 188 = .ok (.if_icmp .ge 94, 3) := by decide +kernel
theorem dModel_findPlan_191 : decode nModel_findPlan.2.1 191 = .ok (.iload_n 3, 1) := by decide +kernel
theorem dModel_findPlan_192 : decode nModel_findPlan.2.1 192 = .ok (.aload_n 0, 1) := by decide +kernel
theorem dModel_findPlan_193 : decode nModel_findPlan.2.1 193 = .ok (.getfield 82, 3) := by decide +kernel
theorem dModel_findPlan_196 : decode nModel_findPlan.2.1 196 = .ok (.if_icmp .ge 86, 3) := by decide +kernel
theorem dModel_findPlan_199 : decode nModel_findPlan.2.1 199 = .ok (.aload_n 0, 1) := by decide +kernel
theorem dModel_findPlan_200 : decode nModel_findPlan.2.1 200 = .ok (.iload_n 3, 1) := by decide +kernel
theorem dModel_findPlan_201 : decode nModel_findPlan.2.1 201 = .ok (.iload 6, 2) := by decide +kernel
theorem dModel_findPlan_203 : decode nModel_findPlan.2.1 203 = .ok (.invokevirtual 188, 3) := by decide +kernel
theorem dModel_findPlan_206 : decode nModel_findPlan.2.1 206 = .ok (.ifCond .eq 27, 3) := by decide +kernel
theorem dModel_findPlan_209 : decode nModel_findPlan.2.1 209 = .ok (.aload_n 0, 1) := by decide +kernel
theorem dModel_findPlan_210 : decode nModel_findPlan.2.1 210 = .ok (.getfield 65, 3) := by decide +kernel
theorem dModel_findPlan_213 : decode nModel_findPlan.2.1 213 = .ok (.sipush 6561, 3) := by decide +kernel
theorem dModel_findPlan_216 : decode nModel_findPlan.2.1 216 = .ok (.iload_n 3, 1) := by decide +kernel
theorem dModel_findPlan_217 : decode nModel_findPlan.2.1 217 = .ok (.iconst 1, 1) := by decide +kernel
theorem dModel_findPlan_218 : decode nModel_findPlan.2.1 218 = .ok (.iadd, 1) := by decide +kernel
theorem dModel_findPlan_219 : decode nModel_findPlan.2.1 219 = .ok (.imul, 1) := by decide +kernel
theorem dModel_findPlan_220 : decode nModel_findPlan.2.1 220 = .ok (.aload_n 0, 1) := by decide +kernel
theorem dModel_findPlan_221 : decode nModel_findPlan.2.1 221 = .ok (.iload 4, 2) := by decide +kernel
theorem dModel_findPlan_223 : decode nModel_findPlan.2.1 223 = .ok (.iload 6, 2) := by decide +kernel
theorem dModel_findPlan_225 : decode nModel_findPlan.2.1 225 = .ok (.invokevirtual 191, 3) := by decide +kernel
theorem dModel_findPlan_228 : decode nModel_findPlan.2.1 228 = .ok (.iadd, 1) := by decide +kernel
theorem dModel_findPlan_229 : decode nModel_findPlan.2.1 229 = .ok (.iaload, 1) := by decide +kernel
theorem dModel_findPlan_230 : decode nModel_findPlan.2.1 230 = .ok (.goto 4, 3) := by decide +kernel
theorem dModel_findPlan_233 : decode nModel_findPlan.2.1 233 = .ok (.iconst (-1), 1) := by decide +kernel
theorem dModel_findPlan_234 : decode nModel_findPlan.2.1 234 = .ok (.istore 7, 2) := by decide +kernel
theorem dModel_findPlan_236 : decode nModel_findPlan.2.1 236 = .ok (.iload 7, 2) := by decide +kernel
theorem dModel_findPlan_238 : decode nModel_findPlan.2.1 238 = .ok (.ifCond .lt 34, 3) := by decide +kernel
theorem dModel_findPlan_241 : decode nModel_findPlan.2.1 241 = .ok (.iload 5, 2) := by decide +kernel
theorem dModel_findPlan_243 : decode nModel_findPlan.2.1 243 = .ok (.ifCond .lt 17, 3) := by decide +kernel
theorem dModel_findPlan_246 : decode nModel_findPlan.2.1 246 = .ok (.iload 7, 2) := by decide +kernel
theorem dModel_findPlan_248 : decode nModel_findPlan.2.1 248 = .ok (.aload_n 0, 1) := by decide +kernel
theorem dModel_findPlan_249 : decode nModel_findPlan.2.1 249 = .ok (.iload 6, 2) := by decide +kernel
theorem dModel_findPlan_251 : decode nModel_findPlan.2.1 251 = .ok (.invokevirtual 194, 3) := by decide +kernel
theorem dModel_findPlan_254 : decode nModel_findPlan.2.1 254 = .ok (.iadd, 1) := by decide +kernel
theorem dModel_findPlan_255 : decode nModel_findPlan.2.1 255 = .ok (.iload 5, 2) := by decide +kernel
theorem dModel_findPlan_257 : decode nModel_findPlan.2.1 257 = .ok (.if_icmp .ge 15, 3) := by decide +kernel
theorem dModel_findPlan_260 : decode nModel_findPlan.2.1 260 = .ok (.iload 7, 2) := by decide +kernel
theorem dModel_findPlan_262 : decode nModel_findPlan.2.1 262 = .ok (.aload_n 0, 1) := by decide +kernel
theorem dModel_findPlan_263 : decode nModel_findPlan.2.1 263 = .ok (.iload 6, 2) := by decide +kernel
theorem dModel_findPlan_265 : decode nModel_findPlan.2.1 265 = .ok (.invokevirtual 194, 3) := by decide +kernel
theorem dModel_findPlan_268 : decode nModel_findPlan.2.1 268 = .ok (.iadd, 1) := by decide +kernel
theorem dModel_findPlan_269 : decode nModel_findPlan.2.1 269 = .ok (.goto 5, 3) := by decide +kernel
theorem dModel_findPlan_272 : decode nModel_findPlan.2.1 272 = .ok (.iload 5, 2) := by decide +kernel
theorem dModel_findPlan_274 : decode nModel_findPlan.2.1 274 = .ok (.istore 5, 2) := by decide +kernel
theorem dModel_findPlan_276 : decode nModel_findPlan.2.1 276 = .ok (.iinc 6 1, 3) := by decide +kernel
theorem dModel_findPlan_279 : decode nModel_findPlan.2.1 279 = .ok (.goto (-97), 3) := by decide +kernel
theorem dModel_findPlan_282 : decode nModel_findPlan.2.1 282 = .ok (.aload_n 0, 1) := by decide +kernel
theorem dModel_findPlan_283 : decode nModel_findPlan.2.1 283 = .ok (.getfield 65, 3) := by decide +kernel
theorem dModel_findPlan_286 : decode nModel_findPlan.2.1 286 = .ok (.sipush 6561, 3) := by decide +kernel
theorem dModel_findPlan_289 : decode nModel_findPlan.2.1 289 = .ok (.iload_n 3, 1) := by decide +kernel
theorem dModel_findPlan_290 : decode nModel_findPlan.2.1 290 = .ok (.imul, 1) := by decide +kernel
theorem dModel_findPlan_291 : decode nModel_findPlan.2.1 291 = .ok (.iload 4, 2) := by decide +kernel
theorem dModel_findPlan_293 : decode nModel_findPlan.2.1 293 = .ok (.iadd, 1) := by decide +kernel
theorem dModel_findPlan_294 : decode nModel_findPlan.2.1 294 = .ok (.iload 5, 2) := by decide +kernel
theorem dModel_findPlan_296 : decode nModel_findPlan.2.1 296 = .ok (.iastore, 1) := by decide +kernel
theorem dModel_findPlan_297 : decode nModel_findPlan.2.1 297 = .ok (.iinc 4 1, 3) := by decide +kernel
theorem dModel_findPlan_300 : decode nModel_findPlan.2.1 300 = .ok (.goto (-165), 3) := by decide +kernel
theorem dModel_findPlan_303 : decode nModel_findPlan.2.1 303 = .ok (.iinc 3 (-1), 3) := by decide +kernel
theorem dModel_findPlan_306 : decode nModel_findPlan.2.1 306 = .ok (.goto (-178), 3) := by decide +kernel
theorem dModel_findPlan_309 : decode nModel_findPlan.2.1 309 = .ok (.iload_n 2, 1) := by decide +kernel
theorem dModel_findPlan_310 : decode nModel_findPlan.2.1 310 = .ok (.ireturn, 1) := by decide +kernel
theorem dModel_plan_0 : decode nModel_plan.2.1 0 = .ok (.aload_n 0, 1) := by decide +kernel
theorem dModel_plan_1 : decode nModel_plan.2.1 1 = .ok (.invokevirtual 197, 3) := by decide +kernel
theorem dModel_plan_4 : decode nModel_plan.2.1 4 = .ok (.istore_n 1, 1) := by decide +kernel
theorem dModel_plan_5 : decode nModel_plan.2.1 5 = .ok (.aload_n 0, 1) := by decide +kernel
theorem dModel_plan_6 : decode nModel_plan.2.1 6 = .ok (.getfield 65, 3) := by decide +kernel
theorem dModel_plan_9 : decode nModel_plan.2.1 9 = .ok (.iload_n 1, 1) := by decide +kernel
theorem dModel_plan_10 : decode nModel_plan.2.1 10 = .ok (.iaload, 1) := by decide +kernel
theorem dModel_plan_11 : decode nModel_plan.2.1 11 = .ok (.ifCond .ge 8, 3) := by decide +kernel
theorem dModel_plan_14 : decode nModel_plan.2.1 14 = .ok (.ldc 103, 2) := by decide +kernel
theorem dModel_plan_16 : decode nModel_plan.2.1 16 = .ok (.goto 9, 3) := by decide +kernel
theorem dModel_plan_19 : decode nModel_plan.2.1 19 = .ok (.aload_n 0, 1) := by decide +kernel
theorem dModel_plan_20 : decode nModel_plan.2.1 20 = .ok (.getfield 65, 3) := by decide +kernel
theorem dModel_plan_23 : decode nModel_plan.2.1 23 = .ok (.iload_n 1, 1) := by decide +kernel
theorem dModel_plan_24 : decode nModel_plan.2.1 24 = .ok (.iaload, 1) := by decide +kernel
theorem dModel_plan_25 : decode nModel_plan.2.1 25 = .ok (.ireturn, 1) := by decide +kernel
theorem dModel_putIn_0 : decode nModel_putIn.2.1 0 = .ok (.aload_n 0, 1) := by decide +kernel
theorem dModel_putIn_1 : decode nModel_putIn.2.1 1 = .ok (.iload_n 1, 1) := by decide +kernel
theorem dModel_putIn_2 : decode nModel_putIn.2.1 2 = .ok (.invokevirtual 109, 3) := by decide +kernel
theorem dModel_putIn_5 : decode nModel_putIn.2.1 5 = .ok (.ifCond .ne 6, 3) := by decide +kernel
theorem dModel_putIn_8 : decode nModel_putIn.2.1 8 = .ok (.ldc 85, 2) := by decide +kernel
theorem dModel_putIn_10 : decode nModel_putIn.2.1 10 = .ok (.ireturn, 1) := by decide +kernel
theorem dModel_putIn_11 : decode nModel_putIn.2.1 11 = .ok (.aload_n 0, 1) := by decide +kernel
theorem dModel_putIn_12 : decode nModel_putIn.2.1 12 = .ok (.invokevirtual 197, 3) := by decide +kernel
theorem dModel_putIn_15 : decode nModel_putIn.2.1 15 = .ok (.istore_n 2, 1) := by decide +kernel
theorem dModel_putIn_16 : decode nModel_putIn.2.1 16 = .ok (.aload_n 0, 1) := by decide +kernel
theorem dModel_putIn_17 : decode nModel_putIn.2.1 17 = .ok (.getfield 65, 3) := by decide +kernel
theorem dModel_putIn_20 : decode nModel_putIn.2.1 20 = .ok (.iload_n 2, 1) := by decide +kernel
theorem dModel_putIn_21 : decode nModel_putIn.2.1 21 = .ok (.iaload, 1) := by decide +kernel
theorem dModel_putIn_22 : decode nModel_putIn.2.1 22 = .ok (.ifCond .ge 6, 3) := by decide +kernel
theorem dModel_putIn_25 : decode nModel_putIn.2.1 25 = .ok (.ldc 103, 2) := by decide +kernel
theorem dModel_putIn_27 : decode nModel_putIn.2.1 27 = .ok (.ireturn, 1) := by decide +kernel
theorem dModel_putIn_28 : decode nModel_putIn.2.1 28 = .ok (.ldc 94, 2) := by decide +kernel
theorem dModel_putIn_30 : decode nModel_putIn.2.1 30 = .ok (.istore_n 3, 1) := by decide +kernel
theorem dModel_putIn_31 : decode nModel_putIn.2.1 31 = .ok (.iconst 0, 1) := by decide +kernel
theorem dModel_putIn_32 : decode nModel_putIn.2.1 32 = .ok (.istore 4, 2) := by decide +kernel
theorem dModel_putIn_34 : decode nModel_putIn.2.1 34 = .ok (.iload 4, 2) := by decide +kernel
theorem dModel_putIn_36 : decode nModel_putIn.2.1 36 = .ok (.iload_n 1, 1) := by decide +kernel
theorem dModel_putIn_37 : decode nModel_putIn.2.1 37 = .ok (.if_icmp .gt 129, 3) := by decide +kernel
theorem dModel_putIn_40 : decode nModel_putIn.2.1 40 = .ok (.ldc 94, 2) := by decide +kernel
theorem dModel_putIn_42 : decode nModel_putIn.2.1 42 = .ok (.istore_n 3, 1) := by decide +kernel
theorem dModel_putIn_43 : decode nModel_putIn.2.1 43 = .ok (.iconst 0, 1) := by decide +kernel
theorem dModel_putIn_44 : decode nModel_putIn.2.1 44 = .ok (.istore 5, 2) := by decide +kernel
theorem dModel_putIn_46 : decode nModel_putIn.2.1 46 = .ok (.iload 5, 2) := by decide +kernel
theorem dModel_putIn_48 : decode nModel_putIn.2.1 48 = .ok (.aload_n 0, 1) := by decide +kernel
theorem dModel_putIn_49 : decode nModel_putIn.2.1 49 = .ok (.getfield 74, 3) := by decide +kernel
theorem dModel_putIn_52 : decode nModel_putIn.2.1 52 = .ok (.if_icmp .ge 91, 3) := by decide +kernel
theorem dModel_putIn_55 : decode nModel_putIn.2.1 55 = .ok (.iload_n 3, 1) := by decide +kernel
theorem dModel_putIn_56 : decode nModel_putIn.2.1 56 = .ok (.ldc 94, 2) := by decide +kernel
theorem dModel_putIn_58 : decode nModel_putIn.2.1 58 = .ok (.if_icmp .ne 85, 3) := by decide +kernel
theorem dModel_putIn_61 : decode nModel_putIn.2.1 61 = .ok (.aload_n 0, 1) := by decide +kernel
theorem dModel_putIn_62 : decode nModel_putIn.2.1 62 = .ok (.iload 4, 2) := by decide +kernel
theorem dModel_putIn_64 : decode nModel_putIn.2.1 64 = .ok (.iload 5, 2) := by decide +kernel
theorem dModel_putIn_66 : decode nModel_putIn.2.1 66 = .ok (.invokevirtual 188, 3) := by decide +kernel
theorem dModel_putIn_69 : decode nModel_putIn.2.1 69 = .ok (.ifCond .eq 27, 3) := by decide +kernel
theorem dModel_putIn_72 : decode nModel_putIn.2.1 72 = .ok (.aload_n 0, 1) := by decide +kernel
theorem dModel_putIn_73 : decode nModel_putIn.2.1 73 = .ok (.getfield 65, 3) := by decide +kernel
theorem dModel_putIn_76 : decode nModel_putIn.2.1 76 = .ok (.sipush 6561, 3) := by decide +kernel
theorem dModel_putIn_79 : decode nModel_putIn.2.1 79 = .ok (.iload 4, 2) := by decide +kernel
theorem dModel_putIn_81 : decode nModel_putIn.2.1 81 = .ok (.iconst 1, 1) := by decide +kernel
theorem dModel_putIn_82 : decode nModel_putIn.2.1 82 = .ok (.iadd, 1) := by decide +kernel
theorem dModel_putIn_83 : decode nModel_putIn.2.1 83 = .ok (.imul, 1) := by decide +kernel
theorem dModel_putIn_84 : decode nModel_putIn.2.1 84 = .ok (.aload_n 0, 1) := by decide +kernel
theorem dModel_putIn_85 : decode nModel_putIn.2.1 85 = .ok (.iload_n 2, 1) := by decide +kernel
theorem dModel_putIn_86 : decode nModel_putIn.2.1 86 = .ok (.iload 5, 2) := by decide +kernel
theorem dModel_putIn_88 : decode nModel_putIn.2.1 88 = .ok (.invokevirtual 191, 3) := by decide +kernel
theorem dModel_putIn_91 : decode nModel_putIn.2.1 91 = .ok (.iadd, 1) := by decide +kernel
theorem dModel_putIn_92 : decode nModel_putIn.2.1 92 = .ok (.iaload, 1) := by decide +kernel
theorem dModel_putIn_93 : decode nModel_putIn.2.1 93 = .ok (.goto 4, 3) := by decide +kernel
theorem dModel_putIn_96 : decode nModel_putIn.2.1 96 = .ok (.iconst (-1), 1) := by decide +kernel
theorem dModel_putIn_97 : decode nModel_putIn.2.1 97 = .ok (.istore 6, 2) := by decide +kernel
theorem dModel_putIn_99 : decode nModel_putIn.2.1 99 = .ok (.iload 6, 2) := by decide +kernel
theorem dModel_putIn_101 : decode nModel_putIn.2.1 101 = .ok (.ifCond .lt 33, 3) := by decide +kernel
theorem dModel_putIn_104 : decode nModel_putIn.2.1 104 = .ok (.iload 6, 2) := by decide +kernel
theorem dModel_putIn_106 : decode nModel_putIn.2.1 106 = .ok (.aload_n 0, 1) := by decide +kernel
theorem dModel_putIn_107 : decode nModel_putIn.2.1 107 = .ok (.iload 5, 2) := by decide +kernel
theorem dModel_putIn_109 : decode nModel_putIn.2.1 109 = .ok (.invokevirtual 194, 3) := by decide +kernel
theorem dModel_putIn_112 : decode nModel_putIn.2.1 112 = .ok (.iadd, 1) := by decide +kernel
theorem dModel_putIn_113 : decode nModel_putIn.2.1 113 = .ok (.aload_n 0, 1) := by decide +kernel
theorem dModel_putIn_114 : decode nModel_putIn.2.1 114 = .ok (.getfield 65, 3) := by decide +kernel
theorem dModel_putIn_117 : decode nModel_putIn.2.1 117 = .ok (.sipush 6561, 3) := by decide +kernel
theorem dModel_putIn_120 : decode nModel_putIn.2.1 120 = .ok (.iload 4, 2) := by decide +kernel
theorem dModel_putIn_122 : decode nModel_putIn.2.1 122 = .ok (.imul, 1) := by decide +kernel
theorem dModel_putIn_123 : decode nModel_putIn.2.1 123 = .ok (.iload_n 2, 1) := by decide +kernel
theorem dModel_putIn_124 : decode nModel_putIn.2.1 124 = .ok (.iadd, 1) := by decide +kernel
theorem dModel_putIn_125 : decode nModel_putIn.2.1 125 = .ok (.iaload, 1) := by decide +kernel
theorem dModel_putIn_126 : decode nModel_putIn.2.1 126 = .ok (.if_icmp .ne 8, 3) := by decide +kernel
theorem dModel_putIn_129 : decode nModel_putIn.2.1 129 = .ok (.iload 5, 2) := by decide +kernel
theorem dModel_putIn_131 : decode nModel_putIn.2.1 131 = .ok (.goto 5, 3) := by decide +kernel
theorem dModel_putIn_134 : decode nModel_putIn.2.1 134 = .ok (.ldc 94, 2) := by decide +kernel
theorem dModel_putIn_136 : decode nModel_putIn.2.1 136 = .ok (.istore_n 3, 1) := by decide +kernel
theorem dModel_putIn_137 : decode nModel_putIn.2.1 137 = .ok (.iinc 5 1, 3) := by decide +kernel
theorem dModel_putIn_140 : decode nModel_putIn.2.1 140 = .ok (.goto (-94), 3) := by decide +kernel
theorem dModel_putIn_143 : decode nModel_putIn.2.1 143 = .ok (.iload_n 3, 1) := by decide +kernel
theorem dModel_putIn_144 : decode nModel_putIn.2.1 144 = .ok (.ldc 94, 2) := by decide +kernel
theorem dModel_putIn_146 : decode nModel_putIn.2.1 146 = .ok (.if_icmp .ne 7, 3) := by decide +kernel
theorem dModel_putIn_149 : decode nModel_putIn.2.1 149 = .ok (.iload_n 2, 1) := by decide +kernel
theorem dModel_putIn_150 : decode nModel_putIn.2.1 150 = .ok (.goto 9, 3) := by decide +kernel
theorem dModel_putIn_153 : decode nModel_putIn.2.1 153 = .ok (.aload_n 0, 1) := by decide +kernel
theorem dModel_putIn_154 : decode nModel_putIn.2.1 154 = .ok (.iload_n 2, 1) := by decide +kernel
theorem dModel_putIn_155 : decode nModel_putIn.2.1 155 = .ok (.iload_n 3, 1) := by decide +kernel
theorem dModel_putIn_156 : decode nModel_putIn.2.1 156 = .ok (.invokevirtual 191, 3) := by decide +kernel
theorem dModel_putIn_159 : decode nModel_putIn.2.1 159 = .ok (.istore_n 2, 1) := by decide +kernel
theorem dModel_putIn_160 : decode nModel_putIn.2.1 160 = .ok (.iinc 4 1, 3) := by decide +kernel
theorem dModel_putIn_163 : decode nModel_putIn.2.1 163 = .ok (.goto (-129), 3) := by decide +kernel
theorem dModel_putIn_166 : decode nModel_putIn.2.1 166 = .ok (.iload_n 3, 1) := by decide +kernel
theorem dModel_putIn_167 : decode nModel_putIn.2.1 167 = .ok (.ireturn, 1) := by decide +kernel
theorem dModel_sheet_0 : decode nModel_sheet.2.1 0 = .ok (.iload_n 1, 1) := by decide +kernel
theorem dModel_sheet_1 : decode nModel_sheet.2.1 1 = .ok (.invokestatic 104, 3) := by decide +kernel
theorem dModel_sheet_4 : decode nModel_sheet.2.1 4 = .ok (.ifCond .eq 9, 3) := by decide +kernel
theorem dModel_sheet_7 : decode nModel_sheet.2.1 7 = .ok (.iload_n 2, 1) := by decide +kernel
theorem dModel_sheet_8 : decode nModel_sheet.2.1 8 = .ok (.bipush 30, 2) := by decide +kernel
theorem dModel_sheet_10 : decode nModel_sheet.2.1 10 = .ok (.if_icmp .le 6, 3) := by decide +kernel
theorem dModel_sheet_13 : decode nModel_sheet.2.1 13 = .ok (.ldc 85, 2) := by decide +kernel
theorem dModel_sheet_15 : decode nModel_sheet.2.1 15 = .ok (.ireturn, 1) := by decide +kernel
theorem dModel_sheet_16 : decode nModel_sheet.2.1 16 = .ok (.iload_n 2, 1) := by decide +kernel
theorem dModel_sheet_17 : decode nModel_sheet.2.1 17 = .ok (.ifCond .ge 6, 3) := by decide +kernel
theorem dModel_sheet_20 : decode nModel_sheet.2.1 20 = .ok (.ldc 200, 2) := by decide +kernel
theorem dModel_sheet_22 : decode nModel_sheet.2.1 22 = .ok (.ireturn, 1) := by decide +kernel
theorem dModel_sheet_23 : decode nModel_sheet.2.1 23 = .ok (.aload_n 0, 1) := by decide +kernel
theorem dModel_sheet_24 : decode nModel_sheet.2.1 24 = .ok (.getfield 52, 3) := by decide +kernel
theorem dModel_sheet_27 : decode nModel_sheet.2.1 27 = .ok (.iload_n 1, 1) := by decide +kernel
theorem dModel_sheet_28 : decode nModel_sheet.2.1 28 = .ok (.iload_n 2, 1) := by decide +kernel
theorem dModel_sheet_29 : decode nModel_sheet.2.1 29 = .ok (.iastore, 1) := by decide +kernel
theorem dModel_sheet_30 : decode nModel_sheet.2.1 30 = .ok (.iconst 0, 1) := by decide +kernel
theorem dModel_sheet_31 : decode nModel_sheet.2.1 31 = .ok (.istore_n 3, 1) := by decide +kernel
theorem dModel_sheet_32 : decode nModel_sheet.2.1 32 = .ok (.iload_n 3, 1) := by decide +kernel
theorem dModel_sheet_33 : decode nModel_sheet.2.1 33 = .ok (.iload_n 2, 1) := by decide +kernel
theorem dModel_sheet_34 : decode nModel_sheet.2.1 34 = .ok (.if_icmp .ge 21, 3) := by decide +kernel
theorem dModel_sheet_37 : decode nModel_sheet.2.1 37 = .ok (.aload_n 0, 1) := by decide +kernel
theorem dModel_sheet_38 : decode nModel_sheet.2.1 38 = .ok (.getfield 55, 3) := by decide +kernel
theorem dModel_sheet_41 : decode nModel_sheet.2.1 41 = .ok (.bipush 30, 2) := by decide +kernel
theorem dModel_sheet_43 : decode nModel_sheet.2.1 43 = .ok (.iload_n 1, 1) := by decide +kernel
theorem dModel_sheet_44 : decode nModel_sheet.2.1 44 = .ok (.imul, 1) := by decide +kernel
theorem dModel_sheet_45 : decode nModel_sheet.2.1 45 = .ok (.iload_n 3, 1) := by decide +kernel
theorem dModel_sheet_46 : decode nModel_sheet.2.1 46 = .ok (.iadd, 1) := by decide +kernel
theorem dModel_sheet_47 : decode nModel_sheet.2.1 47 = .ok (.iconst 0, 1) := by decide +kernel
theorem dModel_sheet_48 : decode nModel_sheet.2.1 48 = .ok (.iastore, 1) := by decide +kernel
theorem dModel_sheet_49 : decode nModel_sheet.2.1 49 = .ok (.iinc 3 1, 3) := by decide +kernel
theorem dModel_sheet_52 : decode nModel_sheet.2.1 52 = .ok (.goto (-20), 3) := by decide +kernel
theorem dModel_sheet_55 : decode nModel_sheet.2.1 55 = .ok (.iload_n 2, 1) := by decide +kernel
theorem dModel_sheet_56 : decode nModel_sheet.2.1 56 = .ok (.ireturn, 1) := by decide +kernel
theorem dModel_mark_0 : decode nModel_mark.2.1 0 = .ok (.iload_n 1, 1) := by decide +kernel
theorem dModel_mark_1 : decode nModel_mark.2.1 1 = .ok (.invokestatic 104, 3) := by decide +kernel
theorem dModel_mark_4 : decode nModel_mark.2.1 4 = .ok (.ifCond .ne 6, 3) := by decide +kernel
theorem dModel_mark_7 : decode nModel_mark.2.1 7 = .ok (.ldc 85, 2) := by decide +kernel
theorem dModel_mark_9 : decode nModel_mark.2.1 9 = .ok (.ireturn, 1) := by decide +kernel
theorem dModel_mark_10 : decode nModel_mark.2.1 10 = .ok (.aload_n 0, 1) := by decide +kernel
theorem dModel_mark_11 : decode nModel_mark.2.1 11 = .ok (.getfield 52, 3) := by decide +kernel
theorem dModel_mark_14 : decode nModel_mark.2.1 14 = .ok (.iload_n 1, 1) := by decide +kernel
theorem dModel_mark_15 : decode nModel_mark.2.1 15 = .ok (.iaload, 1) := by decide +kernel
theorem dModel_mark_16 : decode nModel_mark.2.1 16 = .ok (.ifCond .ge 6, 3) := by decide +kernel
theorem dModel_mark_19 : decode nModel_mark.2.1 19 = .ok (.ldc 107, 2) := by decide +kernel
theorem dModel_mark_21 : decode nModel_mark.2.1 21 = .ok (.ireturn, 1) := by decide +kernel
theorem dModel_mark_22 : decode nModel_mark.2.1 22 = .ok (.iload_n 2, 1) := by decide +kernel
theorem dModel_mark_23 : decode nModel_mark.2.1 23 = .ok (.iconst 0, 1) := by decide +kernel
theorem dModel_mark_24 : decode nModel_mark.2.1 24 = .ok (.aload_n 0, 1) := by decide +kernel
theorem dModel_mark_25 : decode nModel_mark.2.1 25 = .ok (.getfield 52, 3) := by decide +kernel
theorem dModel_mark_28 : decode nModel_mark.2.1 28 = .ok (.iload_n 1, 1) := by decide +kernel
theorem dModel_mark_29 : decode nModel_mark.2.1 29 = .ok (.iaload, 1) := by decide +kernel
theorem dModel_mark_30 : decode nModel_mark.2.1 30 = .ok (.iconst 1, 1) := by decide +kernel
theorem dModel_mark_31 : decode nModel_mark.2.1 31 = .ok (.isub, 1) := by decide +kernel
theorem dModel_mark_32 : decode nModel_mark.2.1 32 = .ok (.invokestatic 78, 3) := by decide +kernel
theorem dModel_mark_35 : decode nModel_mark.2.1 35 = .ok (.ifCond .ne 6, 3) := by decide +kernel
theorem dModel_mark_38 : decode nModel_mark.2.1 38 = .ok (.ldc 108, 2) := by decide +kernel
theorem dModel_mark_40 : decode nModel_mark.2.1 40 = .ok (.ireturn, 1) := by decide +kernel
theorem dModel_mark_41 : decode nModel_mark.2.1 41 = .ok (.aload_n 0, 1) := by decide +kernel
theorem dModel_mark_42 : decode nModel_mark.2.1 42 = .ok (.getfield 55, 3) := by decide +kernel
theorem dModel_mark_45 : decode nModel_mark.2.1 45 = .ok (.bipush 30, 2) := by decide +kernel
theorem dModel_mark_47 : decode nModel_mark.2.1 47 = .ok (.iload_n 1, 1) := by decide +kernel
theorem dModel_mark_48 : decode nModel_mark.2.1 48 = .ok (.imul, 1) := by decide +kernel
theorem dModel_mark_49 : decode nModel_mark.2.1 49 = .ok (.iload_n 2, 1) := by decide +kernel
theorem dModel_mark_50 : decode nModel_mark.2.1 50 = .ok (.iadd, 1) := by decide +kernel
theorem dModel_mark_51 : decode nModel_mark.2.1 51 = .ok (.iaload, 1) := by decide +kernel
theorem dModel_mark_52 : decode nModel_mark.2.1 52 = .ok (.istore 4, 2) := by decide +kernel
theorem dModel_mark_54 : decode nModel_mark.2.1 54 = .ok (.aload_n 0, 1) := by decide +kernel
theorem dModel_mark_55 : decode nModel_mark.2.1 55 = .ok (.getfield 55, 3) := by decide +kernel
theorem dModel_mark_58 : decode nModel_mark.2.1 58 = .ok (.bipush 30, 2) := by decide +kernel
theorem dModel_mark_60 : decode nModel_mark.2.1 60 = .ok (.iload_n 1, 1) := by decide +kernel
theorem dModel_mark_61 : decode nModel_mark.2.1 61 = .ok (.imul, 1) := by decide +kernel
theorem dModel_mark_62 : decode nModel_mark.2.1 62 = .ok (.iload_n 2, 1) := by decide +kernel
theorem dModel_mark_63 : decode nModel_mark.2.1 63 = .ok (.iadd, 1) := by decide +kernel
theorem dModel_mark_64 : decode nModel_mark.2.1 64 = .ok (.iload_n 3, 1) := by decide +kernel
theorem dModel_mark_65 : decode nModel_mark.2.1 65 = .ok (.i2b, 1) := by decide +kernel
theorem dModel_mark_66 : decode nModel_mark.2.1 66 = .ok (.iastore, 1) := by decide +kernel
theorem dModel_mark_67 : decode nModel_mark.2.1 67 = .ok (.iload 4, 2) := by decide +kernel
theorem dModel_mark_69 : decode nModel_mark.2.1 69 = .ok (.ireturn, 1) := by decide +kernel
theorem dModel_copy_0 : decode nModel_copy.2.1 0 = .ok (.iload_n 1, 1) := by decide +kernel
theorem dModel_copy_1 : decode nModel_copy.2.1 1 = .ok (.invokestatic 104, 3) := by decide +kernel
theorem dModel_copy_4 : decode nModel_copy.2.1 4 = .ok (.ifCond .eq 10, 3) := by decide +kernel
theorem dModel_copy_7 : decode nModel_copy.2.1 7 = .ok (.iload_n 3, 1) := by decide +kernel
theorem dModel_copy_8 : decode nModel_copy.2.1 8 = .ok (.invokestatic 104, 3) := by decide +kernel
theorem dModel_copy_11 : decode nModel_copy.2.1 11 = .ok (.ifCond .ne 6, 3) := by decide +kernel
theorem dModel_copy_14 : decode nModel_copy.2.1 14 = .ok (.ldc 85, 2) := by decide +kernel
theorem dModel_copy_16 : decode nModel_copy.2.1 16 = .ok (.ireturn, 1) := by decide +kernel
theorem dModel_copy_17 : decode nModel_copy.2.1 17 = .ok (.aload_n 0, 1) := by decide +kernel
theorem dModel_copy_18 : decode nModel_copy.2.1 18 = .ok (.getfield 52, 3) := by decide +kernel
theorem dModel_copy_21 : decode nModel_copy.2.1 21 = .ok (.iload_n 1, 1) := by decide +kernel
theorem dModel_copy_22 : decode nModel_copy.2.1 22 = .ok (.iaload, 1) := by decide +kernel
theorem dModel_copy_23 : decode nModel_copy.2.1 23 = .ok (.ifCond .lt 12, 3) := by decide +kernel
theorem dModel_copy_26 : decode nModel_copy.2.1 26 = .ok (.aload_n 0, 1) := by decide +kernel
theorem dModel_copy_27 : decode nModel_copy.2.1 27 = .ok (.getfield 52, 3) := by decide +kernel
theorem dModel_copy_30 : decode nModel_copy.2.1 30 = .ok (.iload_n 3, 1) := by decide +kernel
theorem dModel_copy_31 : decode nModel_copy.2.1 31 = .ok (.iaload, 1) := by decide +kernel
theorem dModel_copy_32 : decode nModel_copy.2.1 32 = .ok (.ifCond .ge 6, 3) := by decide +kernel
theorem dModel_copy_35 : decode nModel_copy.2.1 35 = .ok (.ldc 107, 2) := by decide +kernel
theorem dModel_copy_37 : decode nModel_copy.2.1 37 = .ok (.ireturn, 1) := by decide +kernel
theorem dModel_copy_38 : decode nModel_copy.2.1 38 = .ok (.iload_n 2, 1) := by decide +kernel
theorem dModel_copy_39 : decode nModel_copy.2.1 39 = .ok (.ifCond .lt 48, 3) := by decide +kernel
theorem dModel_copy_42 : decode nModel_copy.2.1 42 = .ok (.iload 4, 2) := by decide +kernel
theorem dModel_copy_44 : decode nModel_copy.2.1 44 = .ok (.ifCond .lt 43, 3) := by decide +kernel
theorem dModel_copy_47 : decode nModel_copy.2.1 47 = .ok (.iload 5, 2) := by decide +kernel
theorem dModel_copy_49 : decode nModel_copy.2.1 49 = .ok (.ifCond .lt 38, 3) := by decide +kernel
theorem dModel_copy_52 : decode nModel_copy.2.1 52 = .ok (.iload_n 2, 1) := by decide +kernel
theorem dModel_copy_53 : decode nModel_copy.2.1 53 = .ok (.i2l, 1) := by decide +kernel
theorem dModel_copy_54 : decode nModel_copy.2.1 54 = .ok (.iload 5, 2) := by decide +kernel
theorem dModel_copy_56 : decode nModel_copy.2.1 56 = .ok (.i2l, 1) := by decide +kernel
theorem dModel_copy_57 : decode nModel_copy.2.1 57 = .ok (.ladd, 1) := by decide +kernel
theorem dModel_copy_58 : decode nModel_copy.2.1 58 = .ok (.aload_n 0, 1) := by decide +kernel
theorem dModel_copy_59 : decode nModel_copy.2.1 59 = .ok (.getfield 52, 3) := by decide +kernel
theorem dModel_copy_62 : decode nModel_copy.2.1 62 = .ok (.iload_n 1, 1) := by decide +kernel
theorem dModel_copy_63 : decode nModel_copy.2.1 63 = .ok (.iaload, 1) := by decide +kernel
theorem dModel_copy_64 : decode nModel_copy.2.1 64 = .ok (.i2l, 1) := by decide +kernel
theorem dModel_copy_65 : decode nModel_copy.2.1 65 = .ok (.lcmp, 1) := by decide +kernel
theorem dModel_copy_66 : decode nModel_copy.2.1 66 = .ok (.ifCond .gt 21, 3) := by decide +kernel
theorem dModel_copy_69 : decode nModel_copy.2.1 69 = .ok (.iload 4, 2) := by decide +kernel
theorem dModel_copy_71 : decode nModel_copy.2.1 71 = .ok (.i2l, 1) := by decide +kernel
theorem dModel_copy_72 : decode nModel_copy.2.1 72 = .ok (.iload 5, 2) := by decide +kernel
theorem dModel_copy_74 : decode nModel_copy.2.1 74 = .ok (.i2l, 1) := by decide +kernel
theorem dModel_copy_75 : decode nModel_copy.2.1 75 = .ok (.ladd, 1) := by decide +kernel
theorem dModel_copy_76 : decode nModel_copy.2.1 76 = .ok (.aload_n 0, 1) := by decide +kernel
theorem dModel_copy_77 : decode nModel_copy.2.1 77 = .ok (.getfield 52, 3) := by decide +kernel
theorem dModel_copy_80 : decode nModel_copy.2.1 80 = .ok (.iload_n 3, 1) := by decide +kernel
theorem dModel_copy_81 : decode nModel_copy.2.1 81 = .ok (.iaload, 1) := by decide +kernel
theorem dModel_copy_82 : decode nModel_copy.2.1 82 = .ok (.i2l, 1) := by decide +kernel
theorem dModel_copy_83 : decode nModel_copy.2.1 83 = .ok (.lcmp, 1) := by decide +kernel
theorem dModel_copy_84 : decode nModel_copy.2.1 84 = .ok (.ifCond .le 6, 3) := by decide +kernel
theorem dModel_copy_87 : decode nModel_copy.2.1 87 = .ok (.ldc 108, 2) := by decide +kernel
theorem dModel_copy_89 : decode nModel_copy.2.1 89 = .ok (.ireturn, 1) := by decide +kernel
theorem dModel_copy_90 : decode nModel_copy.2.1 90 = .ok (.iconst 0, 1) := by decide +kernel
theorem dModel_copy_91 : decode nModel_copy.2.1 91 = .ok (.istore 6, 2) := by decide +kernel
theorem dModel_copy_93 : decode nModel_copy.2.1 93 = .ok (.iload 6, 2) := by decide +kernel
theorem dModel_copy_95 : decode nModel_copy.2.1 95 = .ok (.iload 5, 2) := by decide +kernel
theorem dModel_copy_97 : decode nModel_copy.2.1 97 = .ok (.if_icmp .ge 30, 3) := by decide +kernel
theorem dModel_copy_100 : decode nModel_copy.2.1 100 = .ok (.aload_n 0, 1) := by decide +kernel
theorem dModel_copy_101 : decode nModel_copy.2.1 101 = .ok (.getfield 71, 3) := by decide +kernel
theorem dModel_copy_104 : decode nModel_copy.2.1 104 = .ok (.iload 6, 2) := by decide +kernel
theorem dModel_copy_106 : decode nModel_copy.2.1 106 = .ok (.aload_n 0, 1) := by decide +kernel
theorem dModel_copy_107 : decode nModel_copy.2.1 107 = .ok (.getfield 55, 3) := by decide +kernel
theorem dModel_copy_110 : decode nModel_copy.2.1 110 = .ok (.bipush 30, 2) := by decide +kernel
theorem dModel_copy_112 : decode nModel_copy.2.1 112 = .ok (.iload_n 1, 1) := by decide +kernel
theorem dModel_copy_113 : decode nModel_copy.2.1 113 = .ok (.imul, 1) := by decide +kernel
theorem dModel_copy_114 : decode nModel_copy.2.1 114 = .ok (.iload_n 2, 1) := by decide +kernel
theorem dModel_copy_115 : decode nModel_copy.2.1 115 = .ok (.iadd, 1) := by decide +kernel
theorem dModel_copy_116 : decode nModel_copy.2.1 116 = .ok (.iload 6, 2) := by decide +kernel
theorem dModel_copy_118 : decode nModel_copy.2.1 118 = .ok (.iadd, 1) := by decide +kernel
theorem dModel_copy_119 : decode nModel_copy.2.1 119 = .ok (.iaload, 1) := by decide +kernel
theorem dModel_copy_120 : decode nModel_copy.2.1 120 = .ok (.iastore, 1) := by decide +kernel
theorem dModel_copy_121 : decode nModel_copy.2.1 121 = .ok (.iinc 6 1, 3) := by decide +kernel
theorem dModel_copy_124 : decode nModel_copy.2.1 124 = .ok (.goto (-31), 3) := by decide +kernel
theorem dModel_copy_127 : decode nModel_copy.2.1 127 = .ok (.iconst 0, 1) := by decide +kernel
theorem dModel_copy_128 : decode nModel_copy.2.1 128 = .ok (.istore 6, 2) := by decide +kernel
theorem dModel_copy_130 : decode nModel_copy.2.1 130 = .ok (.iload 6, 2) := by decide +kernel
theorem dModel_copy_132 : decode nModel_copy.2.1 132 = .ok (.iload 5, 2) := by decide +kernel
theorem dModel_copy_134 : decode nModel_copy.2.1 134 = .ok (.if_icmp .ge 31, 3) := by decide +kernel
theorem dModel_copy_137 : decode nModel_copy.2.1 137 = .ok (.aload_n 0, 1) := by decide +kernel
theorem dModel_copy_138 : decode nModel_copy.2.1 138 = .ok (.getfield 55, 3) := by decide +kernel
theorem dModel_copy_141 : decode nModel_copy.2.1 141 = .ok (.bipush 30, 2) := by decide +kernel
theorem dModel_copy_143 : decode nModel_copy.2.1 143 = .ok (.iload_n 3, 1) := by decide +kernel
theorem dModel_copy_144 : decode nModel_copy.2.1 144 = .ok (.imul, 1) := by decide +kernel
theorem dModel_copy_145 : decode nModel_copy.2.1 145 = .ok (.iload 4, 2) := by decide +kernel
theorem dModel_copy_147 : decode nModel_copy.2.1 147 = .ok (.iadd, 1) := by decide +kernel
theorem dModel_copy_148 : decode nModel_copy.2.1 148 = .ok (.iload 6, 2) := by decide +kernel
theorem dModel_copy_150 : decode nModel_copy.2.1 150 = .ok (.iadd, 1) := by decide +kernel
theorem dModel_copy_151 : decode nModel_copy.2.1 151 = .ok (.aload_n 0, 1) := by decide +kernel
theorem dModel_copy_152 : decode nModel_copy.2.1 152 = .ok (.getfield 71, 3) := by decide +kernel
theorem dModel_copy_155 : decode nModel_copy.2.1 155 = .ok (.iload 6, 2) := by decide +kernel
theorem dModel_copy_157 : decode nModel_copy.2.1 157 = .ok (.iaload, 1) := by decide +kernel
theorem dModel_copy_158 : decode nModel_copy.2.1 158 = .ok (.iastore, 1) := by decide +kernel
theorem dModel_copy_159 : decode nModel_copy.2.1 159 = .ok (.iinc 6 1, 3) := by decide +kernel
theorem dModel_copy_162 : decode nModel_copy.2.1 162 = .ok (.goto (-32), 3) := by decide +kernel
theorem dModel_copy_165 : decode nModel_copy.2.1 165 = .ok (.iload 5, 2) := by decide +kernel
theorem dModel_copy_167 : decode nModel_copy.2.1 167 = .ok (.ireturn, 1) := by decide +kernel
theorem dModel_count_0 : decode nModel_count.2.1 0 = .ok (.iconst 0, 1) := by decide +kernel
theorem dModel_count_1 : decode nModel_count.2.1 1 = .ok (.istore_n 2, 1) := by decide +kernel
theorem dModel_count_2 : decode nModel_count.2.1 2 = .ok (.iload_n 1, 1) := by decide +kernel
theorem dModel_count_3 : decode nModel_count.2.1 3 = .ok (.tableswitch 272 0 7 #[45, 50, 55, 88, 93, 130, 165, 212], 45) := by decide +kernel
theorem dModel_count_48 : decode nModel_count.2.1 48 = .ok (.aload_n 0, 1) := by decide +kernel
theorem dModel_count_49 : decode nModel_count.2.1 49 = .ok (.getfield 74, 3) := by decide +kernel
theorem dModel_count_52 : decode nModel_count.2.1 52 = .ok (.ireturn, 1) := by decide +kernel
theorem dModel_count_53 : decode nModel_count.2.1 53 = .ok (.aload_n 0, 1) := by decide +kernel
theorem dModel_count_54 : decode nModel_count.2.1 54 = .ok (.getfield 82, 3) := by decide +kernel
theorem dModel_count_57 : decode nModel_count.2.1 57 = .ok (.ireturn, 1) := by decide +kernel
theorem dModel_count_58 : decode nModel_count.2.1 58 = .ok (.iconst 0, 1) := by decide +kernel
theorem dModel_count_59 : decode nModel_count.2.1 59 = .ok (.istore_n 3, 1) := by decide +kernel
theorem dModel_count_60 : decode nModel_count.2.1 60 = .ok (.iload_n 3, 1) := by decide +kernel
theorem dModel_count_61 : decode nModel_count.2.1 61 = .ok (.bipush 30, 2) := by decide +kernel
theorem dModel_count_63 : decode nModel_count.2.1 63 = .ok (.if_icmp .ge 26, 3) := by decide +kernel
theorem dModel_count_66 : decode nModel_count.2.1 66 = .ok (.iload_n 2, 1) := by decide +kernel
theorem dModel_count_67 : decode nModel_count.2.1 67 = .ok (.aload_n 0, 1) := by decide +kernel
theorem dModel_count_68 : decode nModel_count.2.1 68 = .ok (.getfield 19, 3) := by decide +kernel
theorem dModel_count_71 : decode nModel_count.2.1 71 = .ok (.iload_n 3, 1) := by decide +kernel
theorem dModel_count_72 : decode nModel_count.2.1 72 = .ok (.iaload, 1) := by decide +kernel
theorem dModel_count_73 : decode nModel_count.2.1 73 = .ok (.ifCond .lt 7, 3) := by decide +kernel
theorem dModel_count_76 : decode nModel_count.2.1 76 = .ok (.iconst 1, 1) := by decide +kernel
theorem dModel_count_77 : decode nModel_count.2.1 77 = .ok (.goto 4, 3) := by decide +kernel
theorem dModel_count_80 : decode nModel_count.2.1 80 = .ok (.iconst 0, 1) := by decide +kernel
theorem dModel_count_81 : decode nModel_count.2.1 81 = .ok (.iadd, 1) := by decide +kernel
theorem dModel_count_82 : decode nModel_count.2.1 82 = .ok (.istore_n 2, 1) := by decide +kernel
theorem dModel_count_83 : decode nModel_count.2.1 83 = .ok (.iinc 3 1, 3) := by decide +kernel
theorem dModel_count_86 : decode nModel_count.2.1 86 = .ok (.goto (-26), 3) := by decide +kernel
theorem dModel_count_89 : decode nModel_count.2.1 89 = .ok (.iload_n 2, 1) := by decide +kernel
theorem dModel_count_90 : decode nModel_count.2.1 90 = .ok (.ireturn, 1) := by decide +kernel
theorem dModel_count_91 : decode nModel_count.2.1 91 = .ok (.aload_n 0, 1) := by decide +kernel
theorem dModel_count_92 : decode nModel_count.2.1 92 = .ok (.getfield 119, 3) := by decide +kernel
theorem dModel_count_95 : decode nModel_count.2.1 95 = .ok (.ireturn, 1) := by decide +kernel
theorem dModel_count_96 : decode nModel_count.2.1 96 = .ok (.iconst 0, 1) := by decide +kernel
theorem dModel_count_97 : decode nModel_count.2.1 97 = .ok (.istore_n 3, 1) := by decide +kernel
theorem dModel_count_98 : decode nModel_count.2.1 98 = .ok (.iload_n 3, 1) := by decide +kernel
theorem dModel_count_99 : decode nModel_count.2.1 99 = .ok (.aload_n 0, 1) := by decide +kernel
theorem dModel_count_100 : decode nModel_count.2.1 100 = .ok (.getfield 82, 3) := by decide +kernel
theorem dModel_count_103 : decode nModel_count.2.1 103 = .ok (.if_icmp .ge 28, 3) := by decide +kernel
theorem dModel_count_106 : decode nModel_count.2.1 106 = .ok (.iload_n 2, 1) := by decide +kernel
theorem dModel_count_107 : decode nModel_count.2.1 107 = .ok (.aload_n 0, 1) := by decide +kernel
theorem dModel_count_108 : decode nModel_count.2.1 108 = .ok (.getfield 43, 3) := by decide +kernel
theorem dModel_count_111 : decode nModel_count.2.1 111 = .ok (.iload_n 3, 1) := by decide +kernel
theorem dModel_count_112 : decode nModel_count.2.1 112 = .ok (.iaload, 1) := by decide +kernel
theorem dModel_count_113 : decode nModel_count.2.1 113 = .ok (.bipush 30, 2) := by decide +kernel
theorem dModel_count_115 : decode nModel_count.2.1 115 = .ok (.if_icmp .ge 7, 3) := by decide +kernel
theorem dModel_count_118 : decode nModel_count.2.1 118 = .ok (.iconst 1, 1) := by decide +kernel
theorem dModel_count_119 : decode nModel_count.2.1 119 = .ok (.goto 4, 3) := by decide +kernel
theorem dModel_count_122 : decode nModel_count.2.1 122 = .ok (.iconst 0, 1) := by decide +kernel
theorem dModel_count_123 : decode nModel_count.2.1 123 = .ok (.iadd, 1) := by decide +kernel
theorem dModel_count_124 : decode nModel_count.2.1 124 = .ok (.istore_n 2, 1) := by decide +kernel
theorem dModel_count_125 : decode nModel_count.2.1 125 = .ok (.iinc 3 1, 3) := by decide +kernel
theorem dModel_count_128 : decode nModel_count.2.1 128 = .ok (.goto (-30), 3) := by decide +kernel
theorem dModel_count_131 : decode nModel_count.2.1 131 = .ok (.iload_n 2, 1) := by decide +kernel
theorem dModel_count_132 : decode nModel_count.2.1 132 = .ok (.ireturn, 1) := by decide +kernel
theorem dModel_count_133 : decode nModel_count.2.1 133 = .ok (.iconst 0, 1) := by decide +kernel
theorem dModel_count_134 : decode nModel_count.2.1 134 = .ok (.istore_n 3, 1) := by decide +kernel
theorem dModel_count_135 : decode nModel_count.2.1 135 = .ok (.iload_n 3, 1) := by decide +kernel
theorem dModel_count_136 : decode nModel_count.2.1 136 = .ok (.aload_n 0, 1) := by decide +kernel
theorem dModel_count_137 : decode nModel_count.2.1 137 = .ok (.getfield 82, 3) := by decide +kernel
theorem dModel_count_140 : decode nModel_count.2.1 140 = .ok (.if_icmp .ge 26, 3) := by decide +kernel
theorem dModel_count_143 : decode nModel_count.2.1 143 = .ok (.iload_n 2, 1) := by decide +kernel
theorem dModel_count_144 : decode nModel_count.2.1 144 = .ok (.aload_n 0, 1) := by decide +kernel
theorem dModel_count_145 : decode nModel_count.2.1 145 = .ok (.getfield 31, 3) := by decide +kernel
theorem dModel_count_148 : decode nModel_count.2.1 148 = .ok (.iload_n 3, 1) := by decide +kernel
theorem dModel_count_149 : decode nModel_count.2.1 149 = .ok (.iaload, 1) := by decide +kernel
theorem dModel_count_150 : decode nModel_count.2.1 150 = .ok (.ifCond .lt 7, 3) := by decide +kernel
theorem dModel_count_153 : decode nModel_count.2.1 153 = .ok (.iconst 1, 1) := by decide +kernel
theorem dModel_count_154 : decode nModel_count.2.1 154 = .ok (.goto 4, 3) := by decide +kernel
theorem dModel_count_157 : decode nModel_count.2.1 157 = .ok (.iconst 0, 1) := by decide +kernel
theorem dModel_count_158 : decode nModel_count.2.1 158 = .ok (.iadd, 1) := by decide +kernel
theorem dModel_count_159 : decode nModel_count.2.1 159 = .ok (.istore_n 2, 1) := by decide +kernel
theorem dModel_count_160 : decode nModel_count.2.1 160 = .ok (.iinc 3 1, 3) := by decide +kernel
theorem dModel_count_163 : decode nModel_count.2.1 163 = .ok (.goto (-28), 3) := by decide +kernel
theorem dModel_count_166 : decode nModel_count.2.1 166 = .ok (.iload_n 2, 1) := by decide +kernel
theorem dModel_count_167 : decode nModel_count.2.1 167 = .ok (.ireturn, 1) := by decide +kernel
theorem dModel_count_168 : decode nModel_count.2.1 168 = .ok (.iconst 0, 1) := by decide +kernel
theorem dModel_count_169 : decode nModel_count.2.1 169 = .ok (.istore_n 3, 1) := by decide +kernel
theorem dModel_count_170 : decode nModel_count.2.1 170 = .ok (.iload_n 3, 1) := by decide +kernel
theorem dModel_count_171 : decode nModel_count.2.1 171 = .ok (.aload_n 0, 1) := by decide +kernel
theorem dModel_count_172 : decode nModel_count.2.1 172 = .ok (.getfield 82, 3) := by decide +kernel
theorem dModel_count_175 : decode nModel_count.2.1 175 = .ok (.if_icmp .ge 38, 3) := by decide +kernel
theorem dModel_count_178 : decode nModel_count.2.1 178 = .ok (.iconst 0, 1) := by decide +kernel
theorem dModel_count_179 : decode nModel_count.2.1 179 = .ok (.istore 4, 2) := by decide +kernel
theorem dModel_count_181 : decode nModel_count.2.1 181 = .ok (.iload 4, 2) := by decide +kernel
theorem dModel_count_183 : decode nModel_count.2.1 183 = .ok (.iload_n 3, 1) := by decide +kernel
theorem dModel_count_184 : decode nModel_count.2.1 184 = .ok (.if_icmp .ge 23, 3) := by decide +kernel
theorem dModel_count_187 : decode nModel_count.2.1 187 = .ok (.iload_n 2, 1) := by decide +kernel
theorem dModel_count_188 : decode nModel_count.2.1 188 = .ok (.aload_n 0, 1) := by decide +kernel
theorem dModel_count_189 : decode nModel_count.2.1 189 = .ok (.getfield 40, 3) := by decide +kernel
theorem dModel_count_192 : decode nModel_count.2.1 192 = .ok (.iload_n 3, 1) := by decide +kernel
theorem dModel_count_193 : decode nModel_count.2.1 193 = .ok (.iaload, 1) := by decide +kernel
theorem dModel_count_194 : decode nModel_count.2.1 194 = .ok (.iload 4, 2) := by decide +kernel
theorem dModel_count_196 : decode nModel_count.2.1 196 = .ok (.ishr, 1) := by decide +kernel
theorem dModel_count_197 : decode nModel_count.2.1 197 = .ok (.iconst 1, 1) := by decide +kernel
theorem dModel_count_198 : decode nModel_count.2.1 198 = .ok (.iand, 1) := by decide +kernel
theorem dModel_count_199 : decode nModel_count.2.1 199 = .ok (.iadd, 1) := by decide +kernel
theorem dModel_count_200 : decode nModel_count.2.1 200 = .ok (.istore_n 2, 1) := by decide +kernel
theorem dModel_count_201 : decode nModel_count.2.1 201 = .ok (.iinc 4 1, 3) := by decide +kernel
theorem dModel_count_204 : decode nModel_count.2.1 204 = .ok (.goto (-23), 3) := by decide +kernel
theorem dModel_count_207 : decode nModel_count.2.1 207 = .ok (.iinc 3 1, 3) := by decide +kernel
theorem dModel_count_210 : decode nModel_count.2.1 210 = .ok (.goto (-40), 3) := by decide +kernel
theorem dModel_count_213 : decode nModel_count.2.1 213 = .ok (.iload_n 2, 1) := by decide +kernel
theorem dModel_count_214 : decode nModel_count.2.1 214 = .ok (.ireturn, 1) := by decide +kernel
theorem dModel_count_215 : decode nModel_count.2.1 215 = .ok (.iconst 0, 1) := by decide +kernel
theorem dModel_count_216 : decode nModel_count.2.1 216 = .ok (.istore_n 3, 1) := by decide +kernel
theorem dModel_count_217 : decode nModel_count.2.1 217 = .ok (.iload_n 3, 1) := by decide +kernel
theorem dModel_count_218 : decode nModel_count.2.1 218 = .ok (.aload_n 0, 1) := by decide +kernel
theorem dModel_count_219 : decode nModel_count.2.1 219 = .ok (.getfield 82, 3) := by decide +kernel
theorem dModel_count_222 : decode nModel_count.2.1 222 = .ok (.if_icmp .ge 51, 3) := by decide +kernel
theorem dModel_count_225 : decode nModel_count.2.1 225 = .ok (.iconst 0, 1) := by decide +kernel
theorem dModel_count_226 : decode nModel_count.2.1 226 = .ok (.istore 4, 2) := by decide +kernel
theorem dModel_count_228 : decode nModel_count.2.1 228 = .ok (.iload 4, 2) := by decide +kernel
theorem dModel_count_230 : decode nModel_count.2.1 230 = .ok (.aload_n 0, 1) := by decide +kernel
theorem dModel_count_231 : decode nModel_count.2.1 231 = .ok (.getfield 82, 3) := by decide +kernel
theorem dModel_count_234 : decode nModel_count.2.1 234 = .ok (.if_icmp .ge 33, 3) := by decide +kernel
theorem dModel_count_237 : decode nModel_count.2.1 237 = .ok (.iload_n 2, 1) := by decide +kernel
theorem dModel_count_238 : decode nModel_count.2.1 238 = .ok (.iload_n 3, 1) := by decide +kernel
theorem dModel_count_239 : decode nModel_count.2.1 239 = .ok (.iload 4, 2) := by decide +kernel
theorem dModel_count_241 : decode nModel_count.2.1 241 = .ok (.if_icmp .eq 17, 3) := by decide +kernel
theorem dModel_count_244 : decode nModel_count.2.1 244 = .ok (.aload_n 0, 1) := by decide +kernel
theorem dModel_count_245 : decode nModel_count.2.1 245 = .ok (.iload_n 3, 1) := by decide +kernel
theorem dModel_count_246 : decode nModel_count.2.1 246 = .ok (.iload 4, 2) := by decide +kernel
theorem dModel_count_248 : decode nModel_count.2.1 248 = .ok (.invokevirtual 151, 3) := by decide +kernel
theorem dModel_count_251 : decode nModel_count.2.1 251 = .ok (.ifCond .eq 7, 3) := by decide +kernel
theorem dModel_count_254 : decode nModel_count.2.1 254 = .ok (.iconst 1, 1) := by decide +kernel
theorem dModel_count_255 : decode nModel_count.2.1 255 = .ok (.goto 4, 3) := by decide +kernel
theorem dModel_count_258 : decode nModel_count.2.1 258 = .ok (.iconst 0, 1) := by decide +kernel
theorem dModel_count_259 : decode nModel_count.2.1 259 = .ok (.iadd, 1) := by decide +kernel
theorem dModel_count_260 : decode nModel_count.2.1 260 = .ok (.istore_n 2, 1) := by decide +kernel
theorem dModel_count_261 : decode nModel_count.2.1 261 = .ok (.iinc 4 1, 3) := by decide +kernel
theorem dModel_count_264 : decode nModel_count.2.1 264 = .ok (.goto (-36), 3) := by decide +kernel
theorem dModel_count_267 : decode nModel_count.2.1 267 = .ok (.iinc 3 1, 3) := by decide +kernel
theorem dModel_count_270 : decode nModel_count.2.1 270 = .ok (.goto (-53), 3) := by decide +kernel
theorem dModel_count_273 : decode nModel_count.2.1 273 = .ok (.iload_n 2, 1) := by decide +kernel
theorem dModel_count_274 : decode nModel_count.2.1 274 = .ok (.ireturn, 1) := by decide +kernel
theorem dModel_count_275 : decode nModel_count.2.1 275 = .ok (.ldc 85, 2) := by decide +kernel
theorem dModel_count_277 : decode nModel_count.2.1 277 = .ok (.ireturn, 1) := by decide +kernel
theorem dInteger_bitCount_0 : decode nInteger_bitCount.2.1 0 = .ok (.iload_n 0, 1) := by decide +kernel
theorem dInteger_bitCount_1 : decode nInteger_bitCount.2.1 1 = .ok (.iload_n 0, 1) := by decide +kernel
theorem dInteger_bitCount_2 : decode nInteger_bitCount.2.1 2 = .ok (.iconst 1, 1) := by decide +kernel
theorem dInteger_bitCount_3 : decode nInteger_bitCount.2.1 3 = .ok (.iushr, 1) := by decide +kernel
theorem dInteger_bitCount_4 : decode nInteger_bitCount.2.1 4 = .ok (.ldc_w 265, 3) := by decide +kernel
theorem dInteger_bitCount_7 : decode nInteger_bitCount.2.1 7 = .ok (.iand, 1) := by decide +kernel
theorem dInteger_bitCount_8 : decode nInteger_bitCount.2.1 8 = .ok (.isub, 1) := by decide +kernel
theorem dInteger_bitCount_9 : decode nInteger_bitCount.2.1 9 = .ok (.istore_n 0, 1) := by decide +kernel
theorem dInteger_bitCount_10 : decode nInteger_bitCount.2.1 10 = .ok (.iload_n 0, 1) := by decide +kernel
theorem dInteger_bitCount_11 : decode nInteger_bitCount.2.1 11 = .ok (.ldc_w 266, 3) := by decide +kernel
theorem dInteger_bitCount_14 : decode nInteger_bitCount.2.1 14 = .ok (.iand, 1) := by decide +kernel
theorem dInteger_bitCount_15 : decode nInteger_bitCount.2.1 15 = .ok (.iload_n 0, 1) := by decide +kernel
theorem dInteger_bitCount_16 : decode nInteger_bitCount.2.1 16 = .ok (.iconst 2, 1) := by decide +kernel
theorem dInteger_bitCount_17 : decode nInteger_bitCount.2.1 17 = .ok (.iushr, 1) := by decide +kernel
theorem dInteger_bitCount_18 : decode nInteger_bitCount.2.1 18 = .ok (.ldc_w 266, 3) := by decide +kernel
theorem dInteger_bitCount_21 : decode nInteger_bitCount.2.1 21 = .ok (.iand, 1) := by decide +kernel
theorem dInteger_bitCount_22 : decode nInteger_bitCount.2.1 22 = .ok (.iadd, 1) := by decide +kernel
theorem dInteger_bitCount_23 : decode nInteger_bitCount.2.1 23 = .ok (.istore_n 0, 1) := by decide +kernel
theorem dInteger_bitCount_24 : decode nInteger_bitCount.2.1 24 = .ok (.iload_n 0, 1) := by decide +kernel
theorem dInteger_bitCount_25 : decode nInteger_bitCount.2.1 25 = .ok (.iload_n 0, 1) := by decide +kernel
theorem dInteger_bitCount_26 : decode nInteger_bitCount.2.1 26 = .ok (.iconst 4, 1) := by decide +kernel
theorem dInteger_bitCount_27 : decode nInteger_bitCount.2.1 27 = .ok (.iushr, 1) := by decide +kernel
theorem dInteger_bitCount_28 : decode nInteger_bitCount.2.1 28 = .ok (.iadd, 1) := by decide +kernel
theorem dInteger_bitCount_29 : decode nInteger_bitCount.2.1 29 = .ok (.ldc_w 267, 3) := by decide +kernel
theorem dInteger_bitCount_32 : decode nInteger_bitCount.2.1 32 = .ok (.iand, 1) := by decide +kernel
theorem dInteger_bitCount_33 : decode nInteger_bitCount.2.1 33 = .ok (.istore_n 0, 1) := by decide +kernel
theorem dInteger_bitCount_34 : decode nInteger_bitCount.2.1 34 = .ok (.iload_n 0, 1) := by decide +kernel
theorem dInteger_bitCount_35 : decode nInteger_bitCount.2.1 35 = .ok (.iload_n 0, 1) := by decide +kernel
theorem dInteger_bitCount_36 : decode nInteger_bitCount.2.1 36 = .ok (.bipush 8, 2) := by decide +kernel
theorem dInteger_bitCount_38 : decode nInteger_bitCount.2.1 38 = .ok (.iushr, 1) := by decide +kernel
theorem dInteger_bitCount_39 : decode nInteger_bitCount.2.1 39 = .ok (.iadd, 1) := by decide +kernel
theorem dInteger_bitCount_40 : decode nInteger_bitCount.2.1 40 = .ok (.istore_n 0, 1) := by decide +kernel
theorem dInteger_bitCount_41 : decode nInteger_bitCount.2.1 41 = .ok (.iload_n 0, 1) := by decide +kernel
theorem dInteger_bitCount_42 : decode nInteger_bitCount.2.1 42 = .ok (.iload_n 0, 1) := by decide +kernel
theorem dInteger_bitCount_43 : decode nInteger_bitCount.2.1 43 = .ok (.bipush 16, 2) := by decide +kernel
theorem dInteger_bitCount_45 : decode nInteger_bitCount.2.1 45 = .ok (.iushr, 1) := by decide +kernel
theorem dInteger_bitCount_46 : decode nInteger_bitCount.2.1 46 = .ok (.iadd, 1) := by decide +kernel
theorem dInteger_bitCount_47 : decode nInteger_bitCount.2.1 47 = .ok (.istore_n 0, 1) := by decide +kernel
theorem dInteger_bitCount_48 : decode nInteger_bitCount.2.1 48 = .ok (.iload_n 0, 1) := by decide +kernel
theorem dInteger_bitCount_49 : decode nInteger_bitCount.2.1 49 = .ok (.bipush 63, 2) := by decide +kernel
theorem dInteger_bitCount_51 : decode nInteger_bitCount.2.1 51 = .ok (.iand, 1) := by decide +kernel
theorem dInteger_bitCount_52 : decode nInteger_bitCount.2.1 52 = .ok (.ireturn, 1) := by decide +kernel
theorem dMath_abs_0 : decode nMath_abs.2.1 0 = .ok (.iload_n 0, 1) := by decide +kernel
theorem dMath_abs_1 : decode nMath_abs.2.1 1 = .ok (.ifCond .ge 8, 3) := by decide +kernel
theorem dMath_abs_4 : decode nMath_abs.2.1 4 = .ok (.iload_n 0, 1) := by decide +kernel
theorem dMath_abs_5 : decode nMath_abs.2.1 5 = .ok (.ineg, 1) := by decide +kernel
theorem dMath_abs_6 : decode nMath_abs.2.1 6 = .ok (.goto 4, 3) := by decide +kernel
theorem dMath_abs_9 : decode nMath_abs.2.1 9 = .ok (.iload_n 0, 1) := by decide +kernel
theorem dMath_abs_10 : decode nMath_abs.2.1 10 = .ok (.ireturn, 1) := by decide +kernel
theorem dMath_max_0 : decode nMath_max.2.1 0 = .ok (.iload_n 0, 1) := by decide +kernel
theorem dMath_max_1 : decode nMath_max.2.1 1 = .ok (.iload_n 1, 1) := by decide +kernel
theorem dMath_max_2 : decode nMath_max.2.1 2 = .ok (.if_icmp .lt 7, 3) := by decide +kernel
theorem dMath_max_5 : decode nMath_max.2.1 5 = .ok (.iload_n 0, 1) := by decide +kernel
theorem dMath_max_6 : decode nMath_max.2.1 6 = .ok (.goto 4, 3) := by decide +kernel
theorem dMath_max_9 : decode nMath_max.2.1 9 = .ok (.iload_n 1, 1) := by decide +kernel
theorem dMath_max_10 : decode nMath_max.2.1 10 = .ok (.ireturn, 1) := by decide +kernel
theorem dMath_min_0 : decode nMath_min.2.1 0 = .ok (.lload_n 0, 1) := by decide +kernel
theorem dMath_min_1 : decode nMath_min.2.1 1 = .ok (.lload_n 2, 1) := by decide +kernel
theorem dMath_min_2 : decode nMath_min.2.1 2 = .ok (.lcmp, 1) := by decide +kernel
theorem dMath_min_3 : decode nMath_min.2.1 3 = .ok (.ifCond .gt 7, 3) := by decide +kernel
theorem dMath_min_6 : decode nMath_min.2.1 6 = .ok (.lload_n 0, 1) := by decide +kernel
theorem dMath_min_7 : decode nMath_min.2.1 7 = .ok (.goto 4, 3) := by decide +kernel
theorem dMath_min_10 : decode nMath_min.2.1 10 = .ok (.lload_n 2, 1) := by decide +kernel
theorem dMath_min_11 : decode nMath_min.2.1 11 = .ok (.lreturn, 1) := by decide +kernel
theorem dArrays_fillJ_0 : decode nArrays_fillJ.2.1 0 = .ok (.iconst 0, 1) := by decide +kernel
theorem dArrays_fillJ_1 : decode nArrays_fillJ.2.1 1 = .ok (.istore_n 3, 1) := by decide +kernel
theorem dArrays_fillJ_2 : decode nArrays_fillJ.2.1 2 = .ok (.aload_n 0, 1) := by decide +kernel
theorem dArrays_fillJ_3 : decode nArrays_fillJ.2.1 3 = .ok (.arraylength, 1) := by decide +kernel
theorem dArrays_fillJ_4 : decode nArrays_fillJ.2.1 4 = .ok (.istore 4, 2) := by decide +kernel
theorem dArrays_fillJ_6 : decode nArrays_fillJ.2.1 6 = .ok (.iload_n 3, 1) := by decide +kernel
theorem dArrays_fillJ_7 : decode nArrays_fillJ.2.1 7 = .ok (.iload 4, 2) := by decide +kernel
theorem dArrays_fillJ_9 : decode nArrays_fillJ.2.1 9 = .ok (.if_icmp .ge 13, 3) := by decide +kernel
theorem dArrays_fillJ_12 : decode nArrays_fillJ.2.1 12 = .ok (.aload_n 0, 1) := by decide +kernel
theorem dArrays_fillJ_13 : decode nArrays_fillJ.2.1 13 = .ok (.iload_n 3, 1) := by decide +kernel
theorem dArrays_fillJ_14 : decode nArrays_fillJ.2.1 14 = .ok (.lload_n 1, 1) := by decide +kernel
theorem dArrays_fillJ_15 : decode nArrays_fillJ.2.1 15 = .ok (.lastore, 1) := by decide +kernel
theorem dArrays_fillJ_16 : decode nArrays_fillJ.2.1 16 = .ok (.iinc 3 1, 3) := by decide +kernel
theorem dArrays_fillJ_19 : decode nArrays_fillJ.2.1 19 = .ok (.goto (-13), 3) := by decide +kernel
theorem dArrays_fillJ_22 : decode nArrays_fillJ.2.1 22 = .ok (.return_, 1) := by decide +kernel
theorem dArrays_fillI_0 : decode nArrays_fillI.2.1 0 = .ok (.iconst 0, 1) := by decide +kernel
theorem dArrays_fillI_1 : decode nArrays_fillI.2.1 1 = .ok (.istore_n 2, 1) := by decide +kernel
theorem dArrays_fillI_2 : decode nArrays_fillI.2.1 2 = .ok (.aload_n 0, 1) := by decide +kernel
theorem dArrays_fillI_3 : decode nArrays_fillI.2.1 3 = .ok (.arraylength, 1) := by decide +kernel
theorem dArrays_fillI_4 : decode nArrays_fillI.2.1 4 = .ok (.istore_n 3, 1) := by decide +kernel
theorem dArrays_fillI_5 : decode nArrays_fillI.2.1 5 = .ok (.iload_n 2, 1) := by decide +kernel
theorem dArrays_fillI_6 : decode nArrays_fillI.2.1 6 = .ok (.iload_n 3, 1) := by decide +kernel
theorem dArrays_fillI_7 : decode nArrays_fillI.2.1 7 = .ok (.if_icmp .ge 13, 3) := by decide +kernel
theorem dArrays_fillI_10 : decode nArrays_fillI.2.1 10 = .ok (.aload_n 0, 1) := by decide +kernel
theorem dArrays_fillI_11 : decode nArrays_fillI.2.1 11 = .ok (.iload_n 2, 1) := by decide +kernel
theorem dArrays_fillI_12 : decode nArrays_fillI.2.1 12 = .ok (.iload_n 1, 1) := by decide +kernel
theorem dArrays_fillI_13 : decode nArrays_fillI.2.1 13 = .ok (.iastore, 1) := by decide +kernel
theorem dArrays_fillI_14 : decode nArrays_fillI.2.1 14 = .ok (.iinc 2 1, 3) := by decide +kernel
theorem dArrays_fillI_17 : decode nArrays_fillI.2.1 17 = .ok (.goto (-12), 3) := by decide +kernel
theorem dArrays_fillI_20 : decode nArrays_fillI.2.1 20 = .ok (.return_, 1) := by decide +kernel
theorem dArrays_fillB_0 : decode nArrays_fillB.2.1 0 = .ok (.iconst 0, 1) := by decide +kernel
theorem dArrays_fillB_1 : decode nArrays_fillB.2.1 1 = .ok (.istore_n 2, 1) := by decide +kernel
theorem dArrays_fillB_2 : decode nArrays_fillB.2.1 2 = .ok (.aload_n 0, 1) := by decide +kernel
theorem dArrays_fillB_3 : decode nArrays_fillB.2.1 3 = .ok (.arraylength, 1) := by decide +kernel
theorem dArrays_fillB_4 : decode nArrays_fillB.2.1 4 = .ok (.istore_n 3, 1) := by decide +kernel
theorem dArrays_fillB_5 : decode nArrays_fillB.2.1 5 = .ok (.iload_n 2, 1) := by decide +kernel
theorem dArrays_fillB_6 : decode nArrays_fillB.2.1 6 = .ok (.iload_n 3, 1) := by decide +kernel
theorem dArrays_fillB_7 : decode nArrays_fillB.2.1 7 = .ok (.if_icmp .ge 13, 3) := by decide +kernel
theorem dArrays_fillB_10 : decode nArrays_fillB.2.1 10 = .ok (.aload_n 0, 1) := by decide +kernel
theorem dArrays_fillB_11 : decode nArrays_fillB.2.1 11 = .ok (.iload_n 2, 1) := by decide +kernel
theorem dArrays_fillB_12 : decode nArrays_fillB.2.1 12 = .ok (.iload_n 1, 1) := by decide +kernel
theorem dArrays_fillB_13 : decode nArrays_fillB.2.1 13 = .ok (.bastore, 1) := by decide +kernel
theorem dArrays_fillB_14 : decode nArrays_fillB.2.1 14 = .ok (.iinc 2 1, 3) := by decide +kernel
theorem dArrays_fillB_17 : decode nArrays_fillB.2.1 17 = .ok (.goto (-12), 3) := by decide +kernel
theorem dArrays_fillB_20 : decode nArrays_fillB.2.1 20 = .ok (.return_, 1) := by decide +kernel
theorem dLaw_law_0 : decode nLaw_law.2.1 0 = .ok (.new 7, 3) := by decide +kernel
theorem dLaw_law_3 : decode nLaw_law.2.1 3 = .ok (.dup, 1) := by decide +kernel
theorem dLaw_law_4 : decode nLaw_law.2.1 4 = .ok (.invokespecial 9, 3) := by decide +kernel
theorem dLaw_law_7 : decode nLaw_law.2.1 7 = .ok (.astore_n 1, 1) := by decide +kernel
theorem dLaw_law_8 : decode nLaw_law.2.1 8 = .ok (.new 10, 3) := by decide +kernel
theorem dLaw_law_11 : decode nLaw_law.2.1 11 = .ok (.dup, 1) := by decide +kernel
theorem dLaw_law_12 : decode nLaw_law.2.1 12 = .ok (.invokespecial 12, 3) := by decide +kernel
theorem dLaw_law_15 : decode nLaw_law.2.1 15 = .ok (.astore_n 2, 1) := by decide +kernel
theorem dLaw_law_16 : decode nLaw_law.2.1 16 = .ok (.iconst 0, 1) := by decide +kernel
theorem dLaw_law_17 : decode nLaw_law.2.1 17 = .ok (.istore_n 3, 1) := by decide +kernel
theorem dLaw_law_18 : decode nLaw_law.2.1 18 = .ok (.iload_n 3, 1) := by decide +kernel
theorem dLaw_law_19 : decode nLaw_law.2.1 19 = .ok (.aload_n 0, 1) := by decide +kernel
theorem dLaw_law_20 : decode nLaw_law.2.1 20 = .ok (.arraylength, 1) := by decide +kernel
theorem dLaw_law_21 : decode nLaw_law.2.1 21 = .ok (.bipush 6, 2) := by decide +kernel
theorem dLaw_law_23 : decode nLaw_law.2.1 23 = .ok (.isub, 1) := by decide +kernel
theorem dLaw_law_24 : decode nLaw_law.2.1 24 = .ok (.if_icmp .gt 992, 3) := by decide +kernel
theorem dLaw_law_27 : decode nLaw_law.2.1 27 = .ok (.aload_n 0, 1) := by decide +kernel
theorem dLaw_law_28 : decode nLaw_law.2.1 28 = .ok (.iload_n 3, 1) := by decide +kernel
theorem dLaw_law_29 : decode nLaw_law.2.1 29 = .ok (.iaload, 1) := by decide +kernel
theorem dLaw_law_30 : decode nLaw_law.2.1 30 = .ok (.bipush 31, 2) := by decide +kernel
theorem dLaw_law_32 : decode nLaw_law.2.1 32 = .ok (.iand, 1) := by decide +kernel
theorem dLaw_law_33 : decode nLaw_law.2.1 33 = .ok (.tableswitch 977 0 25 #[119, 142, 195, 238, 281, 324, 357, 390, 423, 456, 489, 522, 565, 588, 621, 644, 667, 690, 713, 746, 779, 792, 815, 848, 891, 954], 119) := by decide +kernel
theorem dLaw_law_152 : decode nLaw_law.2.1 152 = .ok (.aload_n 1, 1) := by decide +kernel
theorem dLaw_law_153 : decode nLaw_law.2.1 153 = .ok (.aload_n 0, 1) := by decide +kernel
theorem dLaw_law_154 : decode nLaw_law.2.1 154 = .ok (.iload_n 3, 1) := by decide +kernel
theorem dLaw_law_155 : decode nLaw_law.2.1 155 = .ok (.iconst 1, 1) := by decide +kernel
theorem dLaw_law_156 : decode nLaw_law.2.1 156 = .ok (.iadd, 1) := by decide +kernel
theorem dLaw_law_157 : decode nLaw_law.2.1 157 = .ok (.iaload, 1) := by decide +kernel
theorem dLaw_law_158 : decode nLaw_law.2.1 158 = .ok (.invokevirtual 13, 3) := by decide +kernel
theorem dLaw_law_161 : decode nLaw_law.2.1 161 = .ok (.aload_n 2, 1) := by decide +kernel
theorem dLaw_law_162 : decode nLaw_law.2.1 162 = .ok (.aload_n 0, 1) := by decide +kernel
theorem dLaw_law_163 : decode nLaw_law.2.1 163 = .ok (.iload_n 3, 1) := by decide +kernel
theorem dLaw_law_164 : decode nLaw_law.2.1 164 = .ok (.iconst 1, 1) := by decide +kernel
theorem dLaw_law_165 : decode nLaw_law.2.1 165 = .ok (.iadd, 1) := by decide +kernel
theorem dLaw_law_166 : decode nLaw_law.2.1 166 = .ok (.iaload, 1) := by decide +kernel
theorem dLaw_law_167 : decode nLaw_law.2.1 167 = .ok (.invokevirtual 17, 3) := by decide +kernel
theorem dLaw_law_170 : decode nLaw_law.2.1 170 = .ok (.if_icmp .eq 840, 3) := by decide +kernel
theorem dLaw_law_173 : decode nLaw_law.2.1 173 = .ok (.iconst 0, 1) := by decide +kernel
theorem dLaw_law_174 : decode nLaw_law.2.1 174 = .ok (.ireturn, 1) := by decide +kernel
theorem dLaw_law_175 : decode nLaw_law.2.1 175 = .ok (.aload_n 1, 1) := by decide +kernel
theorem dLaw_law_176 : decode nLaw_law.2.1 176 = .ok (.aload_n 0, 1) := by decide +kernel
theorem dLaw_law_177 : decode nLaw_law.2.1 177 = .ok (.iload_n 3, 1) := by decide +kernel
theorem dLaw_law_178 : decode nLaw_law.2.1 178 = .ok (.iconst 1, 1) := by decide +kernel
theorem dLaw_law_179 : decode nLaw_law.2.1 179 = .ok (.iadd, 1) := by decide +kernel
theorem dLaw_law_180 : decode nLaw_law.2.1 180 = .ok (.iaload, 1) := by decide +kernel
theorem dLaw_law_181 : decode nLaw_law.2.1 181 = .ok (.aload_n 0, 1) := by decide +kernel
theorem dLaw_law_182 : decode nLaw_law.2.1 182 = .ok (.iload_n 3, 1) := by decide +kernel
theorem dLaw_law_183 : decode nLaw_law.2.1 183 = .ok (.iconst 2, 1) := by decide +kernel
theorem dLaw_law_184 : decode nLaw_law.2.1 184 = .ok (.iadd, 1) := by decide +kernel
theorem dLaw_law_185 : decode nLaw_law.2.1 185 = .ok (.iaload, 1) := by decide +kernel
theorem dLaw_law_186 : decode nLaw_law.2.1 186 = .ok (.aload_n 0, 1) := by decide +kernel
theorem dLaw_law_187 : decode nLaw_law.2.1 187 = .ok (.iload_n 3, 1) := by decide +kernel
theorem dLaw_law_188 : decode nLaw_law.2.1 188 = .ok (.iconst 3, 1) := by decide +kernel
theorem dLaw_law_189 : decode nLaw_law.2.1 189 = .ok (.iadd, 1) := by decide +kernel
theorem dLaw_law_190 : decode nLaw_law.2.1 190 = .ok (.iaload, 1) := by decide +kernel
theorem dLaw_law_191 : decode nLaw_law.2.1 191 = .ok (.aload_n 0, 1) := by decide +kernel
theorem dLaw_law_192 : decode nLaw_law.2.1 192 = .ok (.iload_n 3, 1) := by decide +kernel
theorem dLaw_law_193 : decode nLaw_law.2.1 193 = .ok (.iconst 4, 1) := by decide +kernel
theorem dLaw_law_194 : decode nLaw_law.2.1 194 = .ok (.iadd, 1) := by decide +kernel
theorem dLaw_law_195 : decode nLaw_law.2.1 195 = .ok (.iaload, 1) := by decide +kernel
theorem dLaw_law_196 : decode nLaw_law.2.1 196 = .ok (.invokevirtual 18, 3) := by decide +kernel
theorem dLaw_law_199 : decode nLaw_law.2.1 199 = .ok (.aload_n 2, 1) := by decide +kernel
theorem dLaw_law_200 : decode nLaw_law.2.1 200 = .ok (.aload_n 0, 1) := by decide +kernel
theorem dLaw_law_201 : decode nLaw_law.2.1 201 = .ok (.iload_n 3, 1) := by decide +kernel
theorem dLaw_law_202 : decode nLaw_law.2.1 202 = .ok (.iconst 1, 1) := by decide +kernel
theorem dLaw_law_203 : decode nLaw_law.2.1 203 = .ok (.iadd, 1) := by decide +kernel
theorem dLaw_law_204 : decode nLaw_law.2.1 204 = .ok (.iaload, 1) := by decide +kernel
theorem dLaw_law_205 : decode nLaw_law.2.1 205 = .ok (.aload_n 0, 1) := by decide +kernel
theorem dLaw_law_206 : decode nLaw_law.2.1 206 = .ok (.iload_n 3, 1) := by decide +kernel
theorem dLaw_law_207 : decode nLaw_law.2.1 207 = .ok (.iconst 2, 1) := by decide +kernel
theorem dLaw_law_208 : decode nLaw_law.2.1 208 = .ok (.iadd, 1) := by decide +kernel
theorem dLaw_law_209 : decode nLaw_law.2.1 209 = .ok (.iaload, 1) := by decide +kernel
theorem dLaw_law_210 : decode nLaw_law.2.1 210 = .ok (.aload_n 0, 1) := by decide +kernel
theorem dLaw_law_211 : decode nLaw_law.2.1 211 = .ok (.iload_n 3, 1) := by decide +kernel
theorem dLaw_law_212 : decode nLaw_law.2.1 212 = .ok (.iconst 3, 1) := by decide +kernel
theorem dLaw_law_213 : decode nLaw_law.2.1 213 = .ok (.iadd, 1) := by decide +kernel
theorem dLaw_law_214 : decode nLaw_law.2.1 214 = .ok (.iaload, 1) := by decide +kernel
theorem dLaw_law_215 : decode nLaw_law.2.1 215 = .ok (.aload_n 0, 1) := by decide +kernel
theorem dLaw_law_216 : decode nLaw_law.2.1 216 = .ok (.iload_n 3, 1) := by decide +kernel
theorem dLaw_law_217 : decode nLaw_law.2.1 217 = .ok (.iconst 4, 1) := by decide +kernel
theorem dLaw_law_218 : decode nLaw_law.2.1 218 = .ok (.iadd, 1) := by decide +kernel
theorem dLaw_law_219 : decode nLaw_law.2.1 219 = .ok (.iaload, 1) := by decide +kernel
theorem dLaw_law_220 : decode nLaw_law.2.1 220 = .ok (.invokevirtual 22, 3) := by decide +kernel
theorem dLaw_law_223 : decode nLaw_law.2.1 223 = .ok (.if_icmp .eq 787, 3) := by decide +kernel
theorem dLaw_law_226 : decode nLaw_law.2.1 226 = .ok (.iconst 0, 1) := by decide +kernel
theorem dLaw_law_227 : decode nLaw_law.2.1 227 = .ok (.ireturn, 1) := by decide +kernel
theorem dLaw_law_228 : decode nLaw_law.2.1 228 = .ok (.aload_n 1, 1) := by decide +kernel
theorem dLaw_law_229 : decode nLaw_law.2.1 229 = .ok (.aload_n 0, 1) := by decide +kernel
theorem dLaw_law_230 : decode nLaw_law.2.1 230 = .ok (.iload_n 3, 1) := by decide +kernel
theorem dLaw_law_231 : decode nLaw_law.2.1 231 = .ok (.iconst 1, 1) := by decide +kernel
theorem dLaw_law_232 : decode nLaw_law.2.1 232 = .ok (.iadd, 1) := by decide +kernel
theorem dLaw_law_233 : decode nLaw_law.2.1 233 = .ok (.iaload, 1) := by decide +kernel
theorem dLaw_law_234 : decode nLaw_law.2.1 234 = .ok (.aload_n 0, 1) := by decide +kernel
theorem dLaw_law_235 : decode nLaw_law.2.1 235 = .ok (.iload_n 3, 1) := by decide +kernel
theorem dLaw_law_236 : decode nLaw_law.2.1 236 = .ok (.iconst 2, 1) := by decide +kernel
theorem dLaw_law_237 : decode nLaw_law.2.1 237 = .ok (.iadd, 1) := by decide +kernel
theorem dLaw_law_238 : decode nLaw_law.2.1 238 = .ok (.iaload, 1) := by decide +kernel
theorem dLaw_law_239 : decode nLaw_law.2.1 239 = .ok (.aload_n 0, 1) := by decide +kernel
theorem dLaw_law_240 : decode nLaw_law.2.1 240 = .ok (.iload_n 3, 1) := by decide +kernel
theorem dLaw_law_241 : decode nLaw_law.2.1 241 = .ok (.iconst 3, 1) := by decide +kernel
theorem dLaw_law_242 : decode nLaw_law.2.1 242 = .ok (.iadd, 1) := by decide +kernel
theorem dLaw_law_243 : decode nLaw_law.2.1 243 = .ok (.iaload, 1) := by decide +kernel
theorem dLaw_law_244 : decode nLaw_law.2.1 244 = .ok (.invokevirtual 23, 3) := by decide +kernel
theorem dLaw_law_247 : decode nLaw_law.2.1 247 = .ok (.aload_n 2, 1) := by decide +kernel
theorem dLaw_law_248 : decode nLaw_law.2.1 248 = .ok (.aload_n 0, 1) := by decide +kernel
theorem dLaw_law_249 : decode nLaw_law.2.1 249 = .ok (.iload_n 3, 1) := by decide +kernel
theorem dLaw_law_250 : decode nLaw_law.2.1 250 = .ok (.iconst 1, 1) := by decide +kernel
theorem dLaw_law_251 : decode nLaw_law.2.1 251 = .ok (.iadd, 1) := by decide +kernel
theorem dLaw_law_252 : decode nLaw_law.2.1 252 = .ok (.iaload, 1) := by decide +kernel
theorem dLaw_law_253 : decode nLaw_law.2.1 253 = .ok (.aload_n 0, 1) := by decide +kernel
theorem dLaw_law_254 : decode nLaw_law.2.1 254 = .ok (.iload_n 3, 1) := by decide +kernel
theorem dLaw_law_255 : decode nLaw_law.2.1 255 = .ok (.iconst 2, 1) := by decide +kernel
theorem dLaw_law_256 : decode nLaw_law.2.1 256 = .ok (.iadd, 1) := by decide +kernel
theorem dLaw_law_257 : decode nLaw_law.2.1 257 = .ok (.iaload, 1) := by decide +kernel
theorem dLaw_law_258 : decode nLaw_law.2.1 258 = .ok (.aload_n 0, 1) := by decide +kernel
theorem dLaw_law_259 : decode nLaw_law.2.1 259 = .ok (.iload_n 3, 1) := by decide +kernel
theorem dLaw_law_260 : decode nLaw_law.2.1 260 = .ok (.iconst 3, 1) := by decide +kernel
theorem dLaw_law_261 : decode nLaw_law.2.1 261 = .ok (.iadd, 1) := by decide +kernel
theorem dLaw_law_262 : decode nLaw_law.2.1 262 = .ok (.iaload, 1) := by decide +kernel
theorem dLaw_law_263 : decode nLaw_law.2.1 263 = .ok (.invokevirtual 27, 3) := by decide +kernel
theorem dLaw_law_266 : decode nLaw_law.2.1 266 = .ok (.if_icmp .eq 744, 3) := by decide +kernel
theorem dLaw_law_269 : decode nLaw_law.2.1 269 = .ok (.iconst 0, 1) := by decide +kernel
theorem dLaw_law_270 : decode nLaw_law.2.1 270 = .ok (.ireturn, 1) := by decide +kernel
theorem dLaw_law_271 : decode nLaw_law.2.1 271 = .ok (.aload_n 1, 1) := by decide +kernel
theorem dLaw_law_272 : decode nLaw_law.2.1 272 = .ok (.aload_n 0, 1) := by decide +kernel
theorem dLaw_law_273 : decode nLaw_law.2.1 273 = .ok (.iload_n 3, 1) := by decide +kernel
theorem dLaw_law_274 : decode nLaw_law.2.1 274 = .ok (.iconst 1, 1) := by decide +kernel
theorem dLaw_law_275 : decode nLaw_law.2.1 275 = .ok (.iadd, 1) := by decide +kernel
theorem dLaw_law_276 : decode nLaw_law.2.1 276 = .ok (.iaload, 1) := by decide +kernel
theorem dLaw_law_277 : decode nLaw_law.2.1 277 = .ok (.aload_n 0, 1) := by decide +kernel
theorem dLaw_law_278 : decode nLaw_law.2.1 278 = .ok (.iload_n 3, 1) := by decide +kernel
theorem dLaw_law_279 : decode nLaw_law.2.1 279 = .ok (.iconst 2, 1) := by decide +kernel
theorem dLaw_law_280 : decode nLaw_law.2.1 280 = .ok (.iadd, 1) := by decide +kernel
theorem dLaw_law_281 : decode nLaw_law.2.1 281 = .ok (.iaload, 1) := by decide +kernel
theorem dLaw_law_282 : decode nLaw_law.2.1 282 = .ok (.aload_n 0, 1) := by decide +kernel
theorem dLaw_law_283 : decode nLaw_law.2.1 283 = .ok (.iload_n 3, 1) := by decide +kernel
theorem dLaw_law_284 : decode nLaw_law.2.1 284 = .ok (.iconst 3, 1) := by decide +kernel
theorem dLaw_law_285 : decode nLaw_law.2.1 285 = .ok (.iadd, 1) := by decide +kernel
theorem dLaw_law_286 : decode nLaw_law.2.1 286 = .ok (.iaload, 1) := by decide +kernel
theorem dLaw_law_287 : decode nLaw_law.2.1 287 = .ok (.invokevirtual 28, 3) := by decide +kernel
theorem dLaw_law_290 : decode nLaw_law.2.1 290 = .ok (.aload_n 2, 1) := by decide +kernel
theorem dLaw_law_291 : decode nLaw_law.2.1 291 = .ok (.aload_n 0, 1) := by decide +kernel
theorem dLaw_law_292 : decode nLaw_law.2.1 292 = .ok (.iload_n 3, 1) := by decide +kernel
theorem dLaw_law_293 : decode nLaw_law.2.1 293 = .ok (.iconst 1, 1) := by decide +kernel
theorem dLaw_law_294 : decode nLaw_law.2.1 294 = .ok (.iadd, 1) := by decide +kernel
theorem dLaw_law_295 : decode nLaw_law.2.1 295 = .ok (.iaload, 1) := by decide +kernel
theorem dLaw_law_296 : decode nLaw_law.2.1 296 = .ok (.aload_n 0, 1) := by decide +kernel
theorem dLaw_law_297 : decode nLaw_law.2.1 297 = .ok (.iload_n 3, 1) := by decide +kernel
theorem dLaw_law_298 : decode nLaw_law.2.1 298 = .ok (.iconst 2, 1) := by decide +kernel
theorem dLaw_law_299 : decode nLaw_law.2.1 299 = .ok (.iadd, 1) := by decide +kernel
theorem dLaw_law_300 : decode nLaw_law.2.1 300 = .ok (.iaload, 1) := by decide +kernel
theorem dLaw_law_301 : decode nLaw_law.2.1 301 = .ok (.aload_n 0, 1) := by decide +kernel
theorem dLaw_law_302 : decode nLaw_law.2.1 302 = .ok (.iload_n 3, 1) := by decide +kernel
theorem dLaw_law_303 : decode nLaw_law.2.1 303 = .ok (.iconst 3, 1) := by decide +kernel
theorem dLaw_law_304 : decode nLaw_law.2.1 304 = .ok (.iadd, 1) := by decide +kernel
theorem dLaw_law_305 : decode nLaw_law.2.1 305 = .ok (.iaload, 1) := by decide +kernel
theorem dLaw_law_306 : decode nLaw_law.2.1 306 = .ok (.invokevirtual 31, 3) := by decide +kernel
theorem dLaw_law_309 : decode nLaw_law.2.1 309 = .ok (.if_icmp .eq 701, 3) := by decide +kernel
theorem dLaw_law_312 : decode nLaw_law.2.1 312 = .ok (.iconst 0, 1) := by decide +kernel
theorem dLaw_law_313 : decode nLaw_law.2.1 313 = .ok (.ireturn, 1) := by decide +kernel
theorem dLaw_law_314 : decode nLaw_law.2.1 314 = .ok (.aload_n 1, 1) := by decide +kernel
theorem dLaw_law_315 : decode nLaw_law.2.1 315 = .ok (.aload_n 0, 1) := by decide +kernel
theorem dLaw_law_316 : decode nLaw_law.2.1 316 = .ok (.iload_n 3, 1) := by decide +kernel
theorem dLaw_law_317 : decode nLaw_law.2.1 317 = .ok (.iconst 1, 1) := by decide +kernel
theorem dLaw_law_318 : decode nLaw_law.2.1 318 = .ok (.iadd, 1) := by decide +kernel
theorem dLaw_law_319 : decode nLaw_law.2.1 319 = .ok (.iaload, 1) := by decide +kernel
theorem dLaw_law_320 : decode nLaw_law.2.1 320 = .ok (.aload_n 0, 1) := by decide +kernel
theorem dLaw_law_321 : decode nLaw_law.2.1 321 = .ok (.iload_n 3, 1) := by decide +kernel
theorem dLaw_law_322 : decode nLaw_law.2.1 322 = .ok (.iconst 2, 1) := by decide +kernel
theorem dLaw_law_323 : decode nLaw_law.2.1 323 = .ok (.iadd, 1) := by decide +kernel
theorem dLaw_law_324 : decode nLaw_law.2.1 324 = .ok (.iaload, 1) := by decide +kernel
theorem dLaw_law_325 : decode nLaw_law.2.1 325 = .ok (.aload_n 0, 1) := by decide +kernel
theorem dLaw_law_326 : decode nLaw_law.2.1 326 = .ok (.iload_n 3, 1) := by decide +kernel
theorem dLaw_law_327 : decode nLaw_law.2.1 327 = .ok (.iconst 3, 1) := by decide +kernel
theorem dLaw_law_328 : decode nLaw_law.2.1 328 = .ok (.iadd, 1) := by decide +kernel
theorem dLaw_law_329 : decode nLaw_law.2.1 329 = .ok (.iaload, 1) := by decide +kernel
theorem dLaw_law_330 : decode nLaw_law.2.1 330 = .ok (.invokevirtual 32, 3) := by decide +kernel
theorem dLaw_law_333 : decode nLaw_law.2.1 333 = .ok (.aload_n 2, 1) := by decide +kernel
theorem dLaw_law_334 : decode nLaw_law.2.1 334 = .ok (.aload_n 0, 1) := by decide +kernel
theorem dLaw_law_335 : decode nLaw_law.2.1 335 = .ok (.iload_n 3, 1) := by decide +kernel
theorem dLaw_law_336 : decode nLaw_law.2.1 336 = .ok (.iconst 1, 1) := by decide +kernel
theorem dLaw_law_337 : decode nLaw_law.2.1 337 = .ok (.iadd, 1) := by decide +kernel
theorem dLaw_law_338 : decode nLaw_law.2.1 338 = .ok (.iaload, 1) := by decide +kernel
theorem dLaw_law_339 : decode nLaw_law.2.1 339 = .ok (.aload_n 0, 1) := by decide +kernel
theorem dLaw_law_340 : decode nLaw_law.2.1 340 = .ok (.iload_n 3, 1) := by decide +kernel
theorem dLaw_law_341 : decode nLaw_law.2.1 341 = .ok (.iconst 2, 1) := by decide +kernel
theorem dLaw_law_342 : decode nLaw_law.2.1 342 = .ok (.iadd, 1) := by decide +kernel
theorem dLaw_law_343 : decode nLaw_law.2.1 343 = .ok (.iaload, 1) := by decide +kernel
theorem dLaw_law_344 : decode nLaw_law.2.1 344 = .ok (.aload_n 0, 1) := by decide +kernel
theorem dLaw_law_345 : decode nLaw_law.2.1 345 = .ok (.iload_n 3, 1) := by decide +kernel
theorem dLaw_law_346 : decode nLaw_law.2.1 346 = .ok (.iconst 3, 1) := by decide +kernel
theorem dLaw_law_347 : decode nLaw_law.2.1 347 = .ok (.iadd, 1) := by decide +kernel
theorem dLaw_law_348 : decode nLaw_law.2.1 348 = .ok (.iaload, 1) := by decide +kernel
theorem dLaw_law_349 : decode nLaw_law.2.1 349 = .ok (.invokevirtual 35, 3) := by decide +kernel
theorem dLaw_law_352 : decode nLaw_law.2.1 352 = .ok (.if_icmp .eq 658, 3) := by decide +kernel
theorem dLaw_law_355 : decode nLaw_law.2.1 355 = .ok (.iconst 0, 1) := by decide +kernel
theorem dLaw_law_356 : decode nLaw_law.2.1 356 = .ok (.ireturn, 1) := by decide +kernel
theorem dLaw_law_357 : decode nLaw_law.2.1 357 = .ok (.aload_n 1, 1) := by decide +kernel
theorem dLaw_law_358 : decode nLaw_law.2.1 358 = .ok (.aload_n 0, 1) := by decide +kernel
theorem dLaw_law_359 : decode nLaw_law.2.1 359 = .ok (.iload_n 3, 1) := by decide +kernel
theorem dLaw_law_360 : decode nLaw_law.2.1 360 = .ok (.iconst 1, 1) := by decide +kernel
theorem dLaw_law_361 : decode nLaw_law.2.1 361 = .ok (.iadd, 1) := by decide +kernel
theorem dLaw_law_362 : decode nLaw_law.2.1 362 = .ok (.iaload, 1) := by decide +kernel
theorem dLaw_law_363 : decode nLaw_law.2.1 363 = .ok (.aload_n 0, 1) := by decide +kernel
theorem dLaw_law_364 : decode nLaw_law.2.1 364 = .ok (.iload_n 3, 1) := by decide +kernel
theorem dLaw_law_365 : decode nLaw_law.2.1 365 = .ok (.iconst 2, 1) := by decide +kernel
theorem dLaw_law_366 : decode nLaw_law.2.1 366 = .ok (.iadd, 1) := by decide +kernel
theorem dLaw_law_367 : decode nLaw_law.2.1 367 = .ok (.iaload, 1) := by decide +kernel
theorem dLaw_law_368 : decode nLaw_law.2.1 368 = .ok (.invokevirtual 36, 3) := by decide +kernel
theorem dLaw_law_371 : decode nLaw_law.2.1 371 = .ok (.aload_n 2, 1) := by decide +kernel
theorem dLaw_law_372 : decode nLaw_law.2.1 372 = .ok (.aload_n 0, 1) := by decide +kernel
theorem dLaw_law_373 : decode nLaw_law.2.1 373 = .ok (.iload_n 3, 1) := by decide +kernel
theorem dLaw_law_374 : decode nLaw_law.2.1 374 = .ok (.iconst 1, 1) := by decide +kernel
theorem dLaw_law_375 : decode nLaw_law.2.1 375 = .ok (.iadd, 1) := by decide +kernel
theorem dLaw_law_376 : decode nLaw_law.2.1 376 = .ok (.iaload, 1) := by decide +kernel
theorem dLaw_law_377 : decode nLaw_law.2.1 377 = .ok (.aload_n 0, 1) := by decide +kernel
theorem dLaw_law_378 : decode nLaw_law.2.1 378 = .ok (.iload_n 3, 1) := by decide +kernel
theorem dLaw_law_379 : decode nLaw_law.2.1 379 = .ok (.iconst 2, 1) := by decide +kernel
theorem dLaw_law_380 : decode nLaw_law.2.1 380 = .ok (.iadd, 1) := by decide +kernel
theorem dLaw_law_381 : decode nLaw_law.2.1 381 = .ok (.iaload, 1) := by decide +kernel
theorem dLaw_law_382 : decode nLaw_law.2.1 382 = .ok (.invokevirtual 40, 3) := by decide +kernel
theorem dLaw_law_385 : decode nLaw_law.2.1 385 = .ok (.if_icmp .eq 625, 3) := by decide +kernel
theorem dLaw_law_388 : decode nLaw_law.2.1 388 = .ok (.iconst 0, 1) := by decide +kernel
theorem dLaw_law_389 : decode nLaw_law.2.1 389 = .ok (.ireturn, 1) := by decide +kernel
theorem dLaw_law_390 : decode nLaw_law.2.1 390 = .ok (.aload_n 1, 1) := by decide +kernel
theorem dLaw_law_391 : decode nLaw_law.2.1 391 = .ok (.aload_n 0, 1) := by decide +kernel
theorem dLaw_law_392 : decode nLaw_law.2.1 392 = .ok (.iload_n 3, 1) := by decide +kernel
theorem dLaw_law_393 : decode nLaw_law.2.1 393 = .ok (.iconst 1, 1) := by decide +kernel
theorem dLaw_law_394 : decode nLaw_law.2.1 394 = .ok (.iadd, 1) := by decide +kernel
theorem dLaw_law_395 : decode nLaw_law.2.1 395 = .ok (.iaload, 1) := by decide +kernel
theorem dLaw_law_396 : decode nLaw_law.2.1 396 = .ok (.aload_n 0, 1) := by decide +kernel
theorem dLaw_law_397 : decode nLaw_law.2.1 397 = .ok (.iload_n 3, 1) := by decide +kernel
theorem dLaw_law_398 : decode nLaw_law.2.1 398 = .ok (.iconst 2, 1) := by decide +kernel
theorem dLaw_law_399 : decode nLaw_law.2.1 399 = .ok (.iadd, 1) := by decide +kernel
theorem dLaw_law_400 : decode nLaw_law.2.1 400 = .ok (.iaload, 1) := by decide +kernel
theorem dLaw_law_401 : decode nLaw_law.2.1 401 = .ok (.invokevirtual 41, 3) := by decide +kernel
theorem dLaw_law_404 : decode nLaw_law.2.1 404 = .ok (.aload_n 2, 1) := by decide +kernel
theorem dLaw_law_405 : decode nLaw_law.2.1 405 = .ok (.aload_n 0, 1) := by decide +kernel
theorem dLaw_law_406 : decode nLaw_law.2.1 406 = .ok (.iload_n 3, 1) := by decide +kernel
theorem dLaw_law_407 : decode nLaw_law.2.1 407 = .ok (.iconst 1, 1) := by decide +kernel
theorem dLaw_law_408 : decode nLaw_law.2.1 408 = .ok (.iadd, 1) := by decide +kernel
theorem dLaw_law_409 : decode nLaw_law.2.1 409 = .ok (.iaload, 1) := by decide +kernel
theorem dLaw_law_410 : decode nLaw_law.2.1 410 = .ok (.aload_n 0, 1) := by decide +kernel
theorem dLaw_law_411 : decode nLaw_law.2.1 411 = .ok (.iload_n 3, 1) := by decide +kernel
theorem dLaw_law_412 : decode nLaw_law.2.1 412 = .ok (.iconst 2, 1) := by decide +kernel
theorem dLaw_law_413 : decode nLaw_law.2.1 413 = .ok (.iadd, 1) := by decide +kernel
theorem dLaw_law_414 : decode nLaw_law.2.1 414 = .ok (.iaload, 1) := by decide +kernel
theorem dLaw_law_415 : decode nLaw_law.2.1 415 = .ok (.invokevirtual 44, 3) := by decide +kernel
theorem dLaw_law_418 : decode nLaw_law.2.1 418 = .ok (.if_icmp .eq 592, 3) := by decide +kernel
theorem dLaw_law_421 : decode nLaw_law.2.1 421 = .ok (.iconst 0, 1) := by decide +kernel
theorem dLaw_law_422 : decode nLaw_law.2.1 422 = .ok (.ireturn, 1) := by decide +kernel
theorem dLaw_law_423 : decode nLaw_law.2.1 423 = .ok (.aload_n 1, 1) := by decide +kernel
theorem dLaw_law_424 : decode nLaw_law.2.1 424 = .ok (.aload_n 0, 1) := by decide +kernel
theorem dLaw_law_425 : decode nLaw_law.2.1 425 = .ok (.iload_n 3, 1) := by decide +kernel
theorem dLaw_law_426 : decode nLaw_law.2.1 426 = .ok (.iconst 1, 1) := by decide +kernel
theorem dLaw_law_427 : decode nLaw_law.2.1 427 = .ok (.iadd, 1) := by decide +kernel
theorem dLaw_law_428 : decode nLaw_law.2.1 428 = .ok (.iaload, 1) := by decide +kernel
theorem dLaw_law_429 : decode nLaw_law.2.1 429 = .ok (.aload_n 0, 1) := by decide +kernel
theorem dLaw_law_430 : decode nLaw_law.2.1 430 = .ok (.iload_n 3, 1) := by decide +kernel
theorem dLaw_law_431 : decode nLaw_law.2.1 431 = .ok (.iconst 2, 1) := by decide +kernel
theorem dLaw_law_432 : decode nLaw_law.2.1 432 = .ok (.iadd, 1) := by decide +kernel
theorem dLaw_law_433 : decode nLaw_law.2.1 433 = .ok (.iaload, 1) := by decide +kernel
theorem dLaw_law_434 : decode nLaw_law.2.1 434 = .ok (.invokevirtual 45, 3) := by decide +kernel
theorem dLaw_law_437 : decode nLaw_law.2.1 437 = .ok (.aload_n 2, 1) := by decide +kernel
theorem dLaw_law_438 : decode nLaw_law.2.1 438 = .ok (.aload_n 0, 1) := by decide +kernel
theorem dLaw_law_439 : decode nLaw_law.2.1 439 = .ok (.iload_n 3, 1) := by decide +kernel
theorem dLaw_law_440 : decode nLaw_law.2.1 440 = .ok (.iconst 1, 1) := by decide +kernel
theorem dLaw_law_441 : decode nLaw_law.2.1 441 = .ok (.iadd, 1) := by decide +kernel
theorem dLaw_law_442 : decode nLaw_law.2.1 442 = .ok (.iaload, 1) := by decide +kernel
theorem dLaw_law_443 : decode nLaw_law.2.1 443 = .ok (.aload_n 0, 1) := by decide +kernel
theorem dLaw_law_444 : decode nLaw_law.2.1 444 = .ok (.iload_n 3, 1) := by decide +kernel
theorem dLaw_law_445 : decode nLaw_law.2.1 445 = .ok (.iconst 2, 1) := by decide +kernel
theorem dLaw_law_446 : decode nLaw_law.2.1 446 = .ok (.iadd, 1) := by decide +kernel
theorem dLaw_law_447 : decode nLaw_law.2.1 447 = .ok (.iaload, 1) := by decide +kernel
theorem dLaw_law_448 : decode nLaw_law.2.1 448 = .ok (.invokevirtual 48, 3) := by decide +kernel
theorem dLaw_law_451 : decode nLaw_law.2.1 451 = .ok (.if_icmp .eq 559, 3) := by decide +kernel
theorem dLaw_law_454 : decode nLaw_law.2.1 454 = .ok (.iconst 0, 1) := by decide +kernel
theorem dLaw_law_455 : decode nLaw_law.2.1 455 = .ok (.ireturn, 1) := by decide +kernel
theorem dLaw_law_456 : decode nLaw_law.2.1 456 = .ok (.aload_n 1, 1) := by decide +kernel
theorem dLaw_law_457 : decode nLaw_law.2.1 457 = .ok (.aload_n 0, 1) := by decide +kernel
theorem dLaw_law_458 : decode nLaw_law.2.1 458 = .ok (.iload_n 3, 1) := by decide +kernel
theorem dLaw_law_459 : decode nLaw_law.2.1 459 = .ok (.iconst 1, 1) := by decide +kernel
theorem dLaw_law_460 : decode nLaw_law.2.1 460 = .ok (.iadd, 1) := by decide +kernel
theorem dLaw_law_461 : decode nLaw_law.2.1 461 = .ok (.iaload, 1) := by decide +kernel
theorem dLaw_law_462 : decode nLaw_law.2.1 462 = .ok (.aload_n 0, 1) := by decide +kernel
theorem dLaw_law_463 : decode nLaw_law.2.1 463 = .ok (.iload_n 3, 1) := by decide +kernel
theorem dLaw_law_464 : decode nLaw_law.2.1 464 = .ok (.iconst 2, 1) := by decide +kernel
theorem dLaw_law_465 : decode nLaw_law.2.1 465 = .ok (.iadd, 1) := by decide +kernel
theorem dLaw_law_466 : decode nLaw_law.2.1 466 = .ok (.iaload, 1) := by decide +kernel
theorem dLaw_law_467 : decode nLaw_law.2.1 467 = .ok (.invokevirtual 49, 3) := by decide +kernel
theorem dLaw_law_470 : decode nLaw_law.2.1 470 = .ok (.aload_n 2, 1) := by decide +kernel
theorem dLaw_law_471 : decode nLaw_law.2.1 471 = .ok (.aload_n 0, 1) := by decide +kernel
theorem dLaw_law_472 : decode nLaw_law.2.1 472 = .ok (.iload_n 3, 1) := by decide +kernel
theorem dLaw_law_473 : decode nLaw_law.2.1 473 = .ok (.iconst 1, 1) := by decide +kernel
theorem dLaw_law_474 : decode nLaw_law.2.1 474 = .ok (.iadd, 1) := by decide +kernel
theorem dLaw_law_475 : decode nLaw_law.2.1 475 = .ok (.iaload, 1) := by decide +kernel
theorem dLaw_law_476 : decode nLaw_law.2.1 476 = .ok (.aload_n 0, 1) := by decide +kernel
theorem dLaw_law_477 : decode nLaw_law.2.1 477 = .ok (.iload_n 3, 1) := by decide +kernel
theorem dLaw_law_478 : decode nLaw_law.2.1 478 = .ok (.iconst 2, 1) := by decide +kernel
theorem dLaw_law_479 : decode nLaw_law.2.1 479 = .ok (.iadd, 1) := by decide +kernel
theorem dLaw_law_480 : decode nLaw_law.2.1 480 = .ok (.iaload, 1) := by decide +kernel
theorem dLaw_law_481 : decode nLaw_law.2.1 481 = .ok (.invokevirtual 52, 3) := by decide +kernel
theorem dLaw_law_484 : decode nLaw_law.2.1 484 = .ok (.if_icmp .eq 526, 3) := by decide +kernel
theorem dLaw_law_487 : decode nLaw_law.2.1 487 = .ok (.iconst 0, 1) := by decide +kernel
theorem dLaw_law_488 : decode nLaw_law.2.1 488 = .ok (.ireturn, 1) := by decide +kernel
theorem dLaw_law_489 : decode nLaw_law.2.1 489 = .ok (.aload_n 1, 1) := by decide +kernel
theorem dLaw_law_490 : decode nLaw_law.2.1 490 = .ok (.aload_n 0, 1) := by decide +kernel
theorem dLaw_law_491 : decode nLaw_law.2.1 491 = .ok (.iload_n 3, 1) := by decide +kernel
theorem dLaw_law_492 : decode nLaw_law.2.1 492 = .ok (.iconst 1, 1) := by decide +kernel
theorem dLaw_law_493 : decode nLaw_law.2.1 493 = .ok (.iadd, 1) := by decide +kernel
theorem dLaw_law_494 : decode nLaw_law.2.1 494 = .ok (.iaload, 1) := by decide +kernel
theorem dLaw_law_495 : decode nLaw_law.2.1 495 = .ok (.aload_n 0, 1) := by decide +kernel
theorem dLaw_law_496 : decode nLaw_law.2.1 496 = .ok (.iload_n 3, 1) := by decide +kernel
theorem dLaw_law_497 : decode nLaw_law.2.1 497 = .ok (.iconst 2, 1) := by decide +kernel
theorem dLaw_law_498 : decode nLaw_law.2.1 498 = .ok (.iadd, 1) := by decide +kernel
theorem dLaw_law_499 : decode nLaw_law.2.1 499 = .ok (.iaload, 1) := by decide +kernel
theorem dLaw_law_500 : decode nLaw_law.2.1 500 = .ok (.invokevirtual 53, 3) := by decide +kernel
theorem dLaw_law_503 : decode nLaw_law.2.1 503 = .ok (.aload_n 2, 1) := by decide +kernel
theorem dLaw_law_504 : decode nLaw_law.2.1 504 = .ok (.aload_n 0, 1) := by decide +kernel
theorem dLaw_law_505 : decode nLaw_law.2.1 505 = .ok (.iload_n 3, 1) := by decide +kernel
theorem dLaw_law_506 : decode nLaw_law.2.1 506 = .ok (.iconst 1, 1) := by decide +kernel
theorem dLaw_law_507 : decode nLaw_law.2.1 507 = .ok (.iadd, 1) := by decide +kernel
theorem dLaw_law_508 : decode nLaw_law.2.1 508 = .ok (.iaload, 1) := by decide +kernel
theorem dLaw_law_509 : decode nLaw_law.2.1 509 = .ok (.aload_n 0, 1) := by decide +kernel
theorem dLaw_law_510 : decode nLaw_law.2.1 510 = .ok (.iload_n 3, 1) := by decide +kernel
theorem dLaw_law_511 : decode nLaw_law.2.1 511 = .ok (.iconst 2, 1) := by decide +kernel
theorem dLaw_law_512 : decode nLaw_law.2.1 512 = .ok (.iadd, 1) := by decide +kernel
theorem dLaw_law_513 : decode nLaw_law.2.1 513 = .ok (.iaload, 1) := by decide +kernel
theorem dLaw_law_514 : decode nLaw_law.2.1 514 = .ok (.invokevirtual 56, 3) := by decide +kernel
theorem dLaw_law_517 : decode nLaw_law.2.1 517 = .ok (.if_icmp .eq 493, 3) := by decide +kernel
theorem dLaw_law_520 : decode nLaw_law.2.1 520 = .ok (.iconst 0, 1) := by decide +kernel
theorem dLaw_law_521 : decode nLaw_law.2.1 521 = .ok (.ireturn, 1) := by decide +kernel
theorem dLaw_law_522 : decode nLaw_law.2.1 522 = .ok (.aload_n 1, 1) := by decide +kernel
theorem dLaw_law_523 : decode nLaw_law.2.1 523 = .ok (.aload_n 0, 1) := by decide +kernel
theorem dLaw_law_524 : decode nLaw_law.2.1 524 = .ok (.iload_n 3, 1) := by decide +kernel
theorem dLaw_law_525 : decode nLaw_law.2.1 525 = .ok (.iconst 1, 1) := by decide +kernel
theorem dLaw_law_526 : decode nLaw_law.2.1 526 = .ok (.iadd, 1) := by decide +kernel
theorem dLaw_law_527 : decode nLaw_law.2.1 527 = .ok (.iaload, 1) := by decide +kernel
theorem dLaw_law_528 : decode nLaw_law.2.1 528 = .ok (.aload_n 0, 1) := by decide +kernel
theorem dLaw_law_529 : decode nLaw_law.2.1 529 = .ok (.iload_n 3, 1) := by decide +kernel
theorem dLaw_law_530 : decode nLaw_law.2.1 530 = .ok (.iconst 2, 1) := by decide +kernel
theorem dLaw_law_531 : decode nLaw_law.2.1 531 = .ok (.iadd, 1) := by decide +kernel
theorem dLaw_law_532 : decode nLaw_law.2.1 532 = .ok (.iaload, 1) := by decide +kernel
theorem dLaw_law_533 : decode nLaw_law.2.1 533 = .ok (.invokevirtual 57, 3) := by decide +kernel
theorem dLaw_law_536 : decode nLaw_law.2.1 536 = .ok (.aload_n 2, 1) := by decide +kernel
theorem dLaw_law_537 : decode nLaw_law.2.1 537 = .ok (.aload_n 0, 1) := by decide +kernel
theorem dLaw_law_538 : decode nLaw_law.2.1 538 = .ok (.iload_n 3, 1) := by decide +kernel
theorem dLaw_law_539 : decode nLaw_law.2.1 539 = .ok (.iconst 1, 1) := by decide +kernel
theorem dLaw_law_540 : decode nLaw_law.2.1 540 = .ok (.iadd, 1) := by decide +kernel
theorem dLaw_law_541 : decode nLaw_law.2.1 541 = .ok (.iaload, 1) := by decide +kernel
theorem dLaw_law_542 : decode nLaw_law.2.1 542 = .ok (.aload_n 0, 1) := by decide +kernel
theorem dLaw_law_543 : decode nLaw_law.2.1 543 = .ok (.iload_n 3, 1) := by decide +kernel
theorem dLaw_law_544 : decode nLaw_law.2.1 544 = .ok (.iconst 2, 1) := by decide +kernel
theorem dLaw_law_545 : decode nLaw_law.2.1 545 = .ok (.iadd, 1) := by decide +kernel
theorem dLaw_law_546 : decode nLaw_law.2.1 546 = .ok (.iaload, 1) := by decide +kernel
theorem dLaw_law_547 : decode nLaw_law.2.1 547 = .ok (.invokevirtual 60, 3) := by decide +kernel
theorem dLaw_law_550 : decode nLaw_law.2.1 550 = .ok (.if_icmp .eq 460, 3) := by decide +kernel
theorem dLaw_law_553 : decode nLaw_law.2.1 553 = .ok (.iconst 0, 1) := by decide +kernel
theorem dLaw_law_554 : decode nLaw_law.2.1 554 = .ok (.ireturn, 1) := by decide +kernel
theorem dLaw_law_555 : decode nLaw_law.2.1 555 = .ok (.aload_n 1, 1) := by decide +kernel
theorem dLaw_law_556 : decode nLaw_law.2.1 556 = .ok (.aload_n 0, 1) := by decide +kernel
theorem dLaw_law_557 : decode nLaw_law.2.1 557 = .ok (.iload_n 3, 1) := by decide +kernel
theorem dLaw_law_558 : decode nLaw_law.2.1 558 = .ok (.iconst 1, 1) := by decide +kernel
theorem dLaw_law_559 : decode nLaw_law.2.1 559 = .ok (.iadd, 1) := by decide +kernel
theorem dLaw_law_560 : decode nLaw_law.2.1 560 = .ok (.iaload, 1) := by decide +kernel
theorem dLaw_law_561 : decode nLaw_law.2.1 561 = .ok (.aload_n 0, 1) := by decide +kernel
theorem dLaw_law_562 : decode nLaw_law.2.1 562 = .ok (.iload_n 3, 1) := by decide +kernel
theorem dLaw_law_563 : decode nLaw_law.2.1 563 = .ok (.iconst 2, 1) := by decide +kernel
theorem dLaw_law_564 : decode nLaw_law.2.1 564 = .ok (.iadd, 1) := by decide +kernel
theorem dLaw_law_565 : decode nLaw_law.2.1 565 = .ok (.iaload, 1) := by decide +kernel
theorem dLaw_law_566 : decode nLaw_law.2.1 566 = .ok (.aload_n 0, 1) := by decide +kernel
theorem dLaw_law_567 : decode nLaw_law.2.1 567 = .ok (.iload_n 3, 1) := by decide +kernel
theorem dLaw_law_568 : decode nLaw_law.2.1 568 = .ok (.iconst 3, 1) := by decide +kernel
theorem dLaw_law_569 : decode nLaw_law.2.1 569 = .ok (.iadd, 1) := by decide +kernel
theorem dLaw_law_570 : decode nLaw_law.2.1 570 = .ok (.iaload, 1) := by decide +kernel
theorem dLaw_law_571 : decode nLaw_law.2.1 571 = .ok (.invokevirtual 61, 3) := by decide +kernel
theorem dLaw_law_574 : decode nLaw_law.2.1 574 = .ok (.aload_n 2, 1) := by decide +kernel
theorem dLaw_law_575 : decode nLaw_law.2.1 575 = .ok (.aload_n 0, 1) := by decide +kernel
theorem dLaw_law_576 : decode nLaw_law.2.1 576 = .ok (.iload_n 3, 1) := by decide +kernel
theorem dLaw_law_577 : decode nLaw_law.2.1 577 = .ok (.iconst 1, 1) := by decide +kernel
theorem dLaw_law_578 : decode nLaw_law.2.1 578 = .ok (.iadd, 1) := by decide +kernel
theorem dLaw_law_579 : decode nLaw_law.2.1 579 = .ok (.iaload, 1) := by decide +kernel
theorem dLaw_law_580 : decode nLaw_law.2.1 580 = .ok (.aload_n 0, 1) := by decide +kernel
theorem dLaw_law_581 : decode nLaw_law.2.1 581 = .ok (.iload_n 3, 1) := by decide +kernel
theorem dLaw_law_582 : decode nLaw_law.2.1 582 = .ok (.iconst 2, 1) := by decide +kernel
theorem dLaw_law_583 : decode nLaw_law.2.1 583 = .ok (.iadd, 1) := by decide +kernel
theorem dLaw_law_584 : decode nLaw_law.2.1 584 = .ok (.iaload, 1) := by decide +kernel
theorem dLaw_law_585 : decode nLaw_law.2.1 585 = .ok (.aload_n 0, 1) := by decide +kernel
theorem dLaw_law_586 : decode nLaw_law.2.1 586 = .ok (.iload_n 3, 1) := by decide +kernel
theorem dLaw_law_587 : decode nLaw_law.2.1 587 = .ok (.iconst 3, 1) := by decide +kernel
theorem dLaw_law_588 : decode nLaw_law.2.1 588 = .ok (.iadd, 1) := by decide +kernel
theorem dLaw_law_589 : decode nLaw_law.2.1 589 = .ok (.iaload, 1) := by decide +kernel
theorem dLaw_law_590 : decode nLaw_law.2.1 590 = .ok (.invokevirtual 64, 3) := by decide +kernel
theorem dLaw_law_593 : decode nLaw_law.2.1 593 = .ok (.if_icmp .eq 417, 3) := by decide +kernel
theorem dLaw_law_596 : decode nLaw_law.2.1 596 = .ok (.iconst 0, 1) := by decide +kernel
theorem dLaw_law_597 : decode nLaw_law.2.1 597 = .ok (.ireturn, 1) := by decide +kernel
theorem dLaw_law_598 : decode nLaw_law.2.1 598 = .ok (.aload_n 1, 1) := by decide +kernel
theorem dLaw_law_599 : decode nLaw_law.2.1 599 = .ok (.aload_n 0, 1) := by decide +kernel
theorem dLaw_law_600 : decode nLaw_law.2.1 600 = .ok (.iload_n 3, 1) := by decide +kernel
theorem dLaw_law_601 : decode nLaw_law.2.1 601 = .ok (.iconst 1, 1) := by decide +kernel
theorem dLaw_law_602 : decode nLaw_law.2.1 602 = .ok (.iadd, 1) := by decide +kernel
theorem dLaw_law_603 : decode nLaw_law.2.1 603 = .ok (.iaload, 1) := by decide +kernel
theorem dLaw_law_604 : decode nLaw_law.2.1 604 = .ok (.invokevirtual 65, 3) := by decide +kernel
theorem dLaw_law_607 : decode nLaw_law.2.1 607 = .ok (.aload_n 2, 1) := by decide +kernel
theorem dLaw_law_608 : decode nLaw_law.2.1 608 = .ok (.aload_n 0, 1) := by decide +kernel
theorem dLaw_law_609 : decode nLaw_law.2.1 609 = .ok (.iload_n 3, 1) := by decide +kernel
theorem dLaw_law_610 : decode nLaw_law.2.1 610 = .ok (.iconst 1, 1) := by decide +kernel
theorem dLaw_law_611 : decode nLaw_law.2.1 611 = .ok (.iadd, 1) := by decide +kernel
theorem dLaw_law_612 : decode nLaw_law.2.1 612 = .ok (.iaload, 1) := by decide +kernel
theorem dLaw_law_613 : decode nLaw_law.2.1 613 = .ok (.invokevirtual 68, 3) := by decide +kernel
theorem dLaw_law_616 : decode nLaw_law.2.1 616 = .ok (.if_icmp .eq 394, 3) := by decide +kernel
theorem dLaw_law_619 : decode nLaw_law.2.1 619 = .ok (.iconst 0, 1) := by decide +kernel
theorem dLaw_law_620 : decode nLaw_law.2.1 620 = .ok (.ireturn, 1) := by decide +kernel
theorem dLaw_law_621 : decode nLaw_law.2.1 621 = .ok (.aload_n 1, 1) := by decide +kernel
theorem dLaw_law_622 : decode nLaw_law.2.1 622 = .ok (.aload_n 0, 1) := by decide +kernel
theorem dLaw_law_623 : decode nLaw_law.2.1 623 = .ok (.iload_n 3, 1) := by decide +kernel
theorem dLaw_law_624 : decode nLaw_law.2.1 624 = .ok (.iconst 1, 1) := by decide +kernel
theorem dLaw_law_625 : decode nLaw_law.2.1 625 = .ok (.iadd, 1) := by decide +kernel
theorem dLaw_law_626 : decode nLaw_law.2.1 626 = .ok (.iaload, 1) := by decide +kernel
theorem dLaw_law_627 : decode nLaw_law.2.1 627 = .ok (.aload_n 0, 1) := by decide +kernel
theorem dLaw_law_628 : decode nLaw_law.2.1 628 = .ok (.iload_n 3, 1) := by decide +kernel
theorem dLaw_law_629 : decode nLaw_law.2.1 629 = .ok (.iconst 2, 1) := by decide +kernel
theorem dLaw_law_630 : decode nLaw_law.2.1 630 = .ok (.iadd, 1) := by decide +kernel
theorem dLaw_law_631 : decode nLaw_law.2.1 631 = .ok (.iaload, 1) := by decide +kernel
theorem dLaw_law_632 : decode nLaw_law.2.1 632 = .ok (.invokevirtual 69, 3) := by decide +kernel
theorem dLaw_law_635 : decode nLaw_law.2.1 635 = .ok (.aload_n 2, 1) := by decide +kernel
theorem dLaw_law_636 : decode nLaw_law.2.1 636 = .ok (.aload_n 0, 1) := by decide +kernel
theorem dLaw_law_637 : decode nLaw_law.2.1 637 = .ok (.iload_n 3, 1) := by decide +kernel
theorem dLaw_law_638 : decode nLaw_law.2.1 638 = .ok (.iconst 1, 1) := by decide +kernel
theorem dLaw_law_639 : decode nLaw_law.2.1 639 = .ok (.iadd, 1) := by decide +kernel
theorem dLaw_law_640 : decode nLaw_law.2.1 640 = .ok (.iaload, 1) := by decide +kernel
theorem dLaw_law_641 : decode nLaw_law.2.1 641 = .ok (.aload_n 0, 1) := by decide +kernel
theorem dLaw_law_642 : decode nLaw_law.2.1 642 = .ok (.iload_n 3, 1) := by decide +kernel
theorem dLaw_law_643 : decode nLaw_law.2.1 643 = .ok (.iconst 2, 1) := by decide +kernel
theorem dLaw_law_644 : decode nLaw_law.2.1 644 = .ok (.iadd, 1) := by decide +kernel
theorem dLaw_law_645 : decode nLaw_law.2.1 645 = .ok (.iaload, 1) := by decide +kernel
theorem dLaw_law_646 : decode nLaw_law.2.1 646 = .ok (.invokevirtual 72, 3) := by decide +kernel
theorem dLaw_law_649 : decode nLaw_law.2.1 649 = .ok (.if_icmp .eq 361, 3) := by decide +kernel
theorem dLaw_law_652 : decode nLaw_law.2.1 652 = .ok (.iconst 0, 1) := by decide +kernel
theorem dLaw_law_653 : decode nLaw_law.2.1 653 = .ok (.ireturn, 1) := by decide +kernel
theorem dLaw_law_654 : decode nLaw_law.2.1 654 = .ok (.aload_n 1, 1) := by decide +kernel
theorem dLaw_law_655 : decode nLaw_law.2.1 655 = .ok (.aload_n 0, 1) := by decide +kernel
theorem dLaw_law_656 : decode nLaw_law.2.1 656 = .ok (.iload_n 3, 1) := by decide +kernel
theorem dLaw_law_657 : decode nLaw_law.2.1 657 = .ok (.iconst 1, 1) := by decide +kernel
theorem dLaw_law_658 : decode nLaw_law.2.1 658 = .ok (.iadd, 1) := by decide +kernel
theorem dLaw_law_659 : decode nLaw_law.2.1 659 = .ok (.iaload, 1) := by decide +kernel
theorem dLaw_law_660 : decode nLaw_law.2.1 660 = .ok (.invokevirtual 73, 3) := by decide +kernel
theorem dLaw_law_663 : decode nLaw_law.2.1 663 = .ok (.aload_n 2, 1) := by decide +kernel
theorem dLaw_law_664 : decode nLaw_law.2.1 664 = .ok (.aload_n 0, 1) := by decide +kernel
theorem dLaw_law_665 : decode nLaw_law.2.1 665 = .ok (.iload_n 3, 1) := by decide +kernel
theorem dLaw_law_666 : decode nLaw_law.2.1 666 = .ok (.iconst 1, 1) := by decide +kernel
theorem dLaw_law_667 : decode nLaw_law.2.1 667 = .ok (.iadd, 1) := by decide +kernel
theorem dLaw_law_668 : decode nLaw_law.2.1 668 = .ok (.iaload, 1) := by decide +kernel
theorem dLaw_law_669 : decode nLaw_law.2.1 669 = .ok (.invokevirtual 76, 3) := by decide +kernel
theorem dLaw_law_672 : decode nLaw_law.2.1 672 = .ok (.if_icmp .eq 338, 3) := by decide +kernel
theorem dLaw_law_675 : decode nLaw_law.2.1 675 = .ok (.iconst 0, 1) := by decide +kernel
theorem dLaw_law_676 : decode nLaw_law.2.1 676 = .ok (.ireturn, 1) := by decide +kernel
theorem dLaw_law_677 : decode nLaw_law.2.1 677 = .ok (.aload_n 1, 1) := by decide +kernel
theorem dLaw_law_678 : decode nLaw_law.2.1 678 = .ok (.aload_n 0, 1) := by decide +kernel
theorem dLaw_law_679 : decode nLaw_law.2.1 679 = .ok (.iload_n 3, 1) := by decide +kernel
theorem dLaw_law_680 : decode nLaw_law.2.1 680 = .ok (.iconst 1, 1) := by decide +kernel
theorem dLaw_law_681 : decode nLaw_law.2.1 681 = .ok (.iadd, 1) := by decide +kernel
theorem dLaw_law_682 : decode nLaw_law.2.1 682 = .ok (.iaload, 1) := by decide +kernel
theorem dLaw_law_683 : decode nLaw_law.2.1 683 = .ok (.invokevirtual 77, 3) := by decide +kernel
theorem dLaw_law_686 : decode nLaw_law.2.1 686 = .ok (.aload_n 2, 1) := by decide +kernel
theorem dLaw_law_687 : decode nLaw_law.2.1 687 = .ok (.aload_n 0, 1) := by decide +kernel
theorem dLaw_law_688 : decode nLaw_law.2.1 688 = .ok (.iload_n 3, 1) := by decide +kernel
theorem dLaw_law_689 : decode nLaw_law.2.1 689 = .ok (.iconst 1, 1) := by decide +kernel
theorem dLaw_law_690 : decode nLaw_law.2.1 690 = .ok (.iadd, 1) := by decide +kernel
theorem dLaw_law_691 : decode nLaw_law.2.1 691 = .ok (.iaload, 1) := by decide +kernel
theorem dLaw_law_692 : decode nLaw_law.2.1 692 = .ok (.invokevirtual 80, 3) := by decide +kernel
theorem dLaw_law_695 : decode nLaw_law.2.1 695 = .ok (.if_icmp .eq 315, 3) := by decide +kernel
theorem dLaw_law_698 : decode nLaw_law.2.1 698 = .ok (.iconst 0, 1) := by decide +kernel
theorem dLaw_law_699 : decode nLaw_law.2.1 699 = .ok (.ireturn, 1) := by decide +kernel
theorem dLaw_law_700 : decode nLaw_law.2.1 700 = .ok (.aload_n 1, 1) := by decide +kernel
theorem dLaw_law_701 : decode nLaw_law.2.1 701 = .ok (.aload_n 0, 1) := by decide +kernel
theorem dLaw_law_702 : decode nLaw_law.2.1 702 = .ok (.iload_n 3, 1) := by decide +kernel
theorem dLaw_law_703 : decode nLaw_law.2.1 703 = .ok (.iconst 1, 1) := by decide +kernel
theorem dLaw_law_704 : decode nLaw_law.2.1 704 = .ok (.iadd, 1) := by decide +kernel
theorem dLaw_law_705 : decode nLaw_law.2.1 705 = .ok (.iaload, 1) := by decide +kernel
theorem dLaw_law_706 : decode nLaw_law.2.1 706 = .ok (.invokevirtual 81, 3) := by decide +kernel
theorem dLaw_law_709 : decode nLaw_law.2.1 709 = .ok (.aload_n 2, 1) := by decide +kernel
theorem dLaw_law_710 : decode nLaw_law.2.1 710 = .ok (.aload_n 0, 1) := by decide +kernel
theorem dLaw_law_711 : decode nLaw_law.2.1 711 = .ok (.iload_n 3, 1) := by decide +kernel
theorem dLaw_law_712 : decode nLaw_law.2.1 712 = .ok (.iconst 1, 1) := by decide +kernel
theorem dLaw_law_713 : decode nLaw_law.2.1 713 = .ok (.iadd, 1) := by decide +kernel
theorem dLaw_law_714 : decode nLaw_law.2.1 714 = .ok (.iaload, 1) := by decide +kernel
theorem dLaw_law_715 : decode nLaw_law.2.1 715 = .ok (.invokevirtual 84, 3) := by decide +kernel
theorem dLaw_law_718 : decode nLaw_law.2.1 718 = .ok (.if_icmp .eq 292, 3) := by decide +kernel
theorem dLaw_law_721 : decode nLaw_law.2.1 721 = .ok (.iconst 0, 1) := by decide +kernel
theorem dLaw_law_722 : decode nLaw_law.2.1 722 = .ok (.ireturn, 1) := by decide +kernel
theorem dLaw_law_723 : decode nLaw_law.2.1 723 = .ok (.aload_n 1, 1) := by decide +kernel
theorem dLaw_law_724 : decode nLaw_law.2.1 724 = .ok (.aload_n 0, 1) := by decide +kernel
theorem dLaw_law_725 : decode nLaw_law.2.1 725 = .ok (.iload_n 3, 1) := by decide +kernel
theorem dLaw_law_726 : decode nLaw_law.2.1 726 = .ok (.iconst 1, 1) := by decide +kernel
theorem dLaw_law_727 : decode nLaw_law.2.1 727 = .ok (.iadd, 1) := by decide +kernel
theorem dLaw_law_728 : decode nLaw_law.2.1 728 = .ok (.iaload, 1) := by decide +kernel
theorem dLaw_law_729 : decode nLaw_law.2.1 729 = .ok (.invokevirtual 85, 3) := by decide +kernel
theorem dLaw_law_732 : decode nLaw_law.2.1 732 = .ok (.aload_n 2, 1) := by decide +kernel
theorem dLaw_law_733 : decode nLaw_law.2.1 733 = .ok (.aload_n 0, 1) := by decide +kernel
theorem dLaw_law_734 : decode nLaw_law.2.1 734 = .ok (.iload_n 3, 1) := by decide +kernel
theorem dLaw_law_735 : decode nLaw_law.2.1 735 = .ok (.iconst 1, 1) := by decide +kernel
theorem dLaw_law_736 : decode nLaw_law.2.1 736 = .ok (.iadd, 1) := by decide +kernel
theorem dLaw_law_737 : decode nLaw_law.2.1 737 = .ok (.iaload, 1) := by decide +kernel
theorem dLaw_law_738 : decode nLaw_law.2.1 738 = .ok (.invokevirtual 88, 3) := by decide +kernel
theorem dLaw_law_741 : decode nLaw_law.2.1 741 = .ok (.if_icmp .eq 269, 3) := by decide +kernel
theorem dLaw_law_744 : decode nLaw_law.2.1 744 = .ok (.iconst 0, 1) := by decide +kernel
theorem dLaw_law_745 : decode nLaw_law.2.1 745 = .ok (.ireturn, 1) := by decide +kernel
theorem dLaw_law_746 : decode nLaw_law.2.1 746 = .ok (.aload_n 1, 1) := by decide +kernel
theorem dLaw_law_747 : decode nLaw_law.2.1 747 = .ok (.aload_n 0, 1) := by decide +kernel
theorem dLaw_law_748 : decode nLaw_law.2.1 748 = .ok (.iload_n 3, 1) := by decide +kernel
theorem dLaw_law_749 : decode nLaw_law.2.1 749 = .ok (.iconst 1, 1) := by decide +kernel
theorem dLaw_law_750 : decode nLaw_law.2.1 750 = .ok (.iadd, 1) := by decide +kernel
theorem dLaw_law_751 : decode nLaw_law.2.1 751 = .ok (.iaload, 1) := by decide +kernel
theorem dLaw_law_752 : decode nLaw_law.2.1 752 = .ok (.aload_n 0, 1) := by decide +kernel
theorem dLaw_law_753 : decode nLaw_law.2.1 753 = .ok (.iload_n 3, 1) := by decide +kernel
theorem dLaw_law_754 : decode nLaw_law.2.1 754 = .ok (.iconst 2, 1) := by decide +kernel
theorem dLaw_law_755 : decode nLaw_law.2.1 755 = .ok (.iadd, 1) := by decide +kernel
theorem dLaw_law_756 : decode nLaw_law.2.1 756 = .ok (.iaload, 1) := by decide +kernel
theorem dLaw_law_757 : decode nLaw_law.2.1 757 = .ok (.invokevirtual 89, 3) := by decide +kernel
theorem dLaw_law_760 : decode nLaw_law.2.1 760 = .ok (.aload_n 2, 1) := by decide +kernel
theorem dLaw_law_761 : decode nLaw_law.2.1 761 = .ok (.aload_n 0, 1) := by decide +kernel
theorem dLaw_law_762 : decode nLaw_law.2.1 762 = .ok (.iload_n 3, 1) := by decide +kernel
theorem dLaw_law_763 : decode nLaw_law.2.1 763 = .ok (.iconst 1, 1) := by decide +kernel
theorem dLaw_law_764 : decode nLaw_law.2.1 764 = .ok (.iadd, 1) := by decide +kernel
theorem dLaw_law_765 : decode nLaw_law.2.1 765 = .ok (.iaload, 1) := by decide +kernel
theorem dLaw_law_766 : decode nLaw_law.2.1 766 = .ok (.aload_n 0, 1) := by decide +kernel
theorem dLaw_law_767 : decode nLaw_law.2.1 767 = .ok (.iload_n 3, 1) := by decide +kernel
theorem dLaw_law_768 : decode nLaw_law.2.1 768 = .ok (.iconst 2, 1) := by decide +kernel
theorem dLaw_law_769 : decode nLaw_law.2.1 769 = .ok (.iadd, 1) := by decide +kernel
theorem dLaw_law_770 : decode nLaw_law.2.1 770 = .ok (.iaload, 1) := by decide +kernel
theorem dLaw_law_771 : decode nLaw_law.2.1 771 = .ok (.invokevirtual 92, 3) := by decide +kernel
theorem dLaw_law_774 : decode nLaw_law.2.1 774 = .ok (.if_icmp .eq 236, 3) := by decide +kernel
theorem dLaw_law_777 : decode nLaw_law.2.1 777 = .ok (.iconst 0, 1) := by decide +kernel
theorem dLaw_law_778 : decode nLaw_law.2.1 778 = .ok (.ireturn, 1) := by decide +kernel
theorem dLaw_law_779 : decode nLaw_law.2.1 779 = .ok (.aload_n 1, 1) := by decide +kernel
theorem dLaw_law_780 : decode nLaw_law.2.1 780 = .ok (.aload_n 0, 1) := by decide +kernel
theorem dLaw_law_781 : decode nLaw_law.2.1 781 = .ok (.iload_n 3, 1) := by decide +kernel
theorem dLaw_law_782 : decode nLaw_law.2.1 782 = .ok (.iconst 1, 1) := by decide +kernel
theorem dLaw_law_783 : decode nLaw_law.2.1 783 = .ok (.iadd, 1) := by decide +kernel
theorem dLaw_law_784 : decode nLaw_law.2.1 784 = .ok (.iaload, 1) := by decide +kernel
theorem dLaw_law_785 : decode nLaw_law.2.1 785 = .ok (.aload_n 0, 1) := by decide +kernel
theorem dLaw_law_786 : decode nLaw_law.2.1 786 = .ok (.iload_n 3, 1) := by decide +kernel
theorem dLaw_law_787 : decode nLaw_law.2.1 787 = .ok (.iconst 2, 1) := by decide +kernel
theorem dLaw_law_788 : decode nLaw_law.2.1 788 = .ok (.iadd, 1) := by decide +kernel
theorem dLaw_law_789 : decode nLaw_law.2.1 789 = .ok (.iaload, 1) := by decide +kernel
theorem dLaw_law_790 : decode nLaw_law.2.1 790 = .ok (.invokevirtual 93, 3) := by decide +kernel
theorem dLaw_law_793 : decode nLaw_law.2.1 793 = .ok (.aload_n 2, 1) := by decide +kernel
theorem dLaw_law_794 : decode nLaw_law.2.1 794 = .ok (.aload_n 0, 1) := by decide +kernel
theorem dLaw_law_795 : decode nLaw_law.2.1 795 = .ok (.iload_n 3, 1) := by decide +kernel
theorem dLaw_law_796 : decode nLaw_law.2.1 796 = .ok (.iconst 1, 1) := by decide +kernel
theorem dLaw_law_797 : decode nLaw_law.2.1 797 = .ok (.iadd, 1) := by decide +kernel
theorem dLaw_law_798 : decode nLaw_law.2.1 798 = .ok (.iaload, 1) := by decide +kernel
theorem dLaw_law_799 : decode nLaw_law.2.1 799 = .ok (.aload_n 0, 1) := by decide +kernel
theorem dLaw_law_800 : decode nLaw_law.2.1 800 = .ok (.iload_n 3, 1) := by decide +kernel
theorem dLaw_law_801 : decode nLaw_law.2.1 801 = .ok (.iconst 2, 1) := by decide +kernel
theorem dLaw_law_802 : decode nLaw_law.2.1 802 = .ok (.iadd, 1) := by decide +kernel
theorem dLaw_law_803 : decode nLaw_law.2.1 803 = .ok (.iaload, 1) := by decide +kernel
theorem dLaw_law_804 : decode nLaw_law.2.1 804 = .ok (.invokevirtual 96, 3) := by decide +kernel
theorem dLaw_law_807 : decode nLaw_law.2.1 807 = .ok (.if_icmp .eq 203, 3) := by decide +kernel
theorem dLaw_law_810 : decode nLaw_law.2.1 810 = .ok (.iconst 0, 1) := by decide +kernel
theorem dLaw_law_811 : decode nLaw_law.2.1 811 = .ok (.ireturn, 1) := by decide +kernel
theorem dLaw_law_812 : decode nLaw_law.2.1 812 = .ok (.aload_n 1, 1) := by decide +kernel
theorem dLaw_law_813 : decode nLaw_law.2.1 813 = .ok (.invokevirtual 97, 3) := by decide +kernel
theorem dLaw_law_816 : decode nLaw_law.2.1 816 = .ok (.aload_n 2, 1) := by decide +kernel
theorem dLaw_law_817 : decode nLaw_law.2.1 817 = .ok (.invokevirtual 101, 3) := by decide +kernel
theorem dLaw_law_820 : decode nLaw_law.2.1 820 = .ok (.if_icmp .eq 190, 3) := by decide +kernel
theorem dLaw_law_823 : decode nLaw_law.2.1 823 = .ok (.iconst 0, 1) := by decide +kernel
theorem dLaw_law_824 : decode nLaw_law.2.1 824 = .ok (.ireturn, 1) := by decide +kernel
theorem dLaw_law_825 : decode nLaw_law.2.1 825 = .ok (.aload_n 1, 1) := by decide +kernel
theorem dLaw_law_826 : decode nLaw_law.2.1 826 = .ok (.aload_n 0, 1) := by decide +kernel
theorem dLaw_law_827 : decode nLaw_law.2.1 827 = .ok (.iload_n 3, 1) := by decide +kernel
theorem dLaw_law_828 : decode nLaw_law.2.1 828 = .ok (.iconst 1, 1) := by decide +kernel
theorem dLaw_law_829 : decode nLaw_law.2.1 829 = .ok (.iadd, 1) := by decide +kernel
theorem dLaw_law_830 : decode nLaw_law.2.1 830 = .ok (.iaload, 1) := by decide +kernel
theorem dLaw_law_831 : decode nLaw_law.2.1 831 = .ok (.invokevirtual 102, 3) := by decide +kernel
theorem dLaw_law_834 : decode nLaw_law.2.1 834 = .ok (.aload_n 2, 1) := by decide +kernel
theorem dLaw_law_835 : decode nLaw_law.2.1 835 = .ok (.aload_n 0, 1) := by decide +kernel
theorem dLaw_law_836 : decode nLaw_law.2.1 836 = .ok (.iload_n 3, 1) := by decide +kernel
theorem dLaw_law_837 : decode nLaw_law.2.1 837 = .ok (.iconst 1, 1) := by decide +kernel
theorem dLaw_law_838 : decode nLaw_law.2.1 838 = .ok (.iadd, 1) := by decide +kernel
theorem dLaw_law_839 : decode nLaw_law.2.1 839 = .ok (.iaload, 1) := by decide +kernel
theorem dLaw_law_840 : decode nLaw_law.2.1 840 = .ok (.invokevirtual 105, 3) := by decide +kernel
theorem dLaw_law_843 : decode nLaw_law.2.1 843 = .ok (.if_icmp .eq 167, 3) := by decide +kernel
theorem dLaw_law_846 : decode nLaw_law.2.1 846 = .ok (.iconst 0, 1) := by decide +kernel
theorem dLaw_law_847 : decode nLaw_law.2.1 847 = .ok (.ireturn, 1) := by decide +kernel
theorem dLaw_law_848 : decode nLaw_law.2.1 848 = .ok (.aload_n 1, 1) := by decide +kernel
theorem dLaw_law_849 : decode nLaw_law.2.1 849 = .ok (.aload_n 0, 1) := by decide +kernel
theorem dLaw_law_850 : decode nLaw_law.2.1 850 = .ok (.iload_n 3, 1) := by decide +kernel
theorem dLaw_law_851 : decode nLaw_law.2.1 851 = .ok (.iconst 1, 1) := by decide +kernel
theorem dLaw_law_852 : decode nLaw_law.2.1 852 = .ok (.iadd, 1) := by decide +kernel
theorem dLaw_law_853 : decode nLaw_law.2.1 853 = .ok (.iaload, 1) := by decide +kernel
theorem dLaw_law_854 : decode nLaw_law.2.1 854 = .ok (.aload_n 0, 1) := by decide +kernel
theorem dLaw_law_855 : decode nLaw_law.2.1 855 = .ok (.iload_n 3, 1) := by decide +kernel
theorem dLaw_law_856 : decode nLaw_law.2.1 856 = .ok (.iconst 2, 1) := by decide +kernel
theorem dLaw_law_857 : decode nLaw_law.2.1 857 = .ok (.iadd, 1) := by decide +kernel
theorem dLaw_law_858 : decode nLaw_law.2.1 858 = .ok (.iaload, 1) := by decide +kernel
theorem dLaw_law_859 : decode nLaw_law.2.1 859 = .ok (.invokevirtual 106, 3) := by decide +kernel
theorem dLaw_law_862 : decode nLaw_law.2.1 862 = .ok (.aload_n 2, 1) := by decide +kernel
theorem dLaw_law_863 : decode nLaw_law.2.1 863 = .ok (.aload_n 0, 1) := by decide +kernel
theorem dLaw_law_864 : decode nLaw_law.2.1 864 = .ok (.iload_n 3, 1) := by decide +kernel
theorem dLaw_law_865 : decode nLaw_law.2.1 865 = .ok (.iconst 1, 1) := by decide +kernel
theorem dLaw_law_866 : decode nLaw_law.2.1 866 = .ok (.iadd, 1) := by decide +kernel
theorem dLaw_law_867 : decode nLaw_law.2.1 867 = .ok (.iaload, 1) := by decide +kernel
theorem dLaw_law_868 : decode nLaw_law.2.1 868 = .ok (.aload_n 0, 1) := by decide +kernel
theorem dLaw_law_869 : decode nLaw_law.2.1 869 = .ok (.iload_n 3, 1) := by decide +kernel
theorem dLaw_law_870 : decode nLaw_law.2.1 870 = .ok (.iconst 2, 1) := by decide +kernel
theorem dLaw_law_871 : decode nLaw_law.2.1 871 = .ok (.iadd, 1) := by decide +kernel
theorem dLaw_law_872 : decode nLaw_law.2.1 872 = .ok (.iaload, 1) := by decide +kernel
theorem dLaw_law_873 : decode nLaw_law.2.1 873 = .ok (.invokevirtual 109, 3) := by decide +kernel
theorem dLaw_law_876 : decode nLaw_law.2.1 876 = .ok (.if_icmp .eq 134, 3) := by decide +kernel
theorem dLaw_law_879 : decode nLaw_law.2.1 879 = .ok (.iconst 0, 1) := by decide +kernel
theorem dLaw_law_880 : decode nLaw_law.2.1 880 = .ok (.ireturn, 1) := by decide +kernel
theorem dLaw_law_881 : decode nLaw_law.2.1 881 = .ok (.aload_n 1, 1) := by decide +kernel
theorem dLaw_law_882 : decode nLaw_law.2.1 882 = .ok (.aload_n 0, 1) := by decide +kernel
theorem dLaw_law_883 : decode nLaw_law.2.1 883 = .ok (.iload_n 3, 1) := by decide +kernel
theorem dLaw_law_884 : decode nLaw_law.2.1 884 = .ok (.iconst 1, 1) := by decide +kernel
theorem dLaw_law_885 : decode nLaw_law.2.1 885 = .ok (.iadd, 1) := by decide +kernel
theorem dLaw_law_886 : decode nLaw_law.2.1 886 = .ok (.iaload, 1) := by decide +kernel
theorem dLaw_law_887 : decode nLaw_law.2.1 887 = .ok (.aload_n 0, 1) := by decide +kernel
theorem dLaw_law_888 : decode nLaw_law.2.1 888 = .ok (.iload_n 3, 1) := by decide +kernel
theorem dLaw_law_889 : decode nLaw_law.2.1 889 = .ok (.iconst 2, 1) := by decide +kernel
theorem dLaw_law_890 : decode nLaw_law.2.1 890 = .ok (.iadd, 1) := by decide +kernel
theorem dLaw_law_891 : decode nLaw_law.2.1 891 = .ok (.iaload, 1) := by decide +kernel
theorem dLaw_law_892 : decode nLaw_law.2.1 892 = .ok (.aload_n 0, 1) := by decide +kernel
theorem dLaw_law_893 : decode nLaw_law.2.1 893 = .ok (.iload_n 3, 1) := by decide +kernel
theorem dLaw_law_894 : decode nLaw_law.2.1 894 = .ok (.iconst 3, 1) := by decide +kernel
theorem dLaw_law_895 : decode nLaw_law.2.1 895 = .ok (.iadd, 1) := by decide +kernel
theorem dLaw_law_896 : decode nLaw_law.2.1 896 = .ok (.iaload, 1) := by decide +kernel
theorem dLaw_law_897 : decode nLaw_law.2.1 897 = .ok (.invokevirtual 110, 3) := by decide +kernel
theorem dLaw_law_900 : decode nLaw_law.2.1 900 = .ok (.aload_n 2, 1) := by decide +kernel
theorem dLaw_law_901 : decode nLaw_law.2.1 901 = .ok (.aload_n 0, 1) := by decide +kernel
theorem dLaw_law_902 : decode nLaw_law.2.1 902 = .ok (.iload_n 3, 1) := by decide +kernel
theorem dLaw_law_903 : decode nLaw_law.2.1 903 = .ok (.iconst 1, 1) := by decide +kernel
theorem dLaw_law_904 : decode nLaw_law.2.1 904 = .ok (.iadd, 1) := by decide +kernel
theorem dLaw_law_905 : decode nLaw_law.2.1 905 = .ok (.iaload, 1) := by decide +kernel
theorem dLaw_law_906 : decode nLaw_law.2.1 906 = .ok (.aload_n 0, 1) := by decide +kernel
theorem dLaw_law_907 : decode nLaw_law.2.1 907 = .ok (.iload_n 3, 1) := by decide +kernel
theorem dLaw_law_908 : decode nLaw_law.2.1 908 = .ok (.iconst 2, 1) := by decide +kernel
theorem dLaw_law_909 : decode nLaw_law.2.1 909 = .ok (.iadd, 1) := by decide +kernel
theorem dLaw_law_910 : decode nLaw_law.2.1 910 = .ok (.iaload, 1) := by decide +kernel
theorem dLaw_law_911 : decode nLaw_law.2.1 911 = .ok (.aload_n 0, 1) := by decide +kernel
theorem dLaw_law_912 : decode nLaw_law.2.1 912 = .ok (.iload_n 3, 1) := by decide +kernel
theorem dLaw_law_913 : decode nLaw_law.2.1 913 = .ok (.iconst 3, 1) := by decide +kernel
theorem dLaw_law_914 : decode nLaw_law.2.1 914 = .ok (.iadd, 1) := by decide +kernel
theorem dLaw_law_915 : decode nLaw_law.2.1 915 = .ok (.iaload, 1) := by decide +kernel
theorem dLaw_law_916 : decode nLaw_law.2.1 916 = .ok (.invokevirtual 113, 3) := by decide +kernel
theorem dLaw_law_919 : decode nLaw_law.2.1 919 = .ok (.if_icmp .eq 91, 3) := by decide +kernel
theorem dLaw_law_922 : decode nLaw_law.2.1 922 = .ok (.iconst 0, 1) := by decide +kernel
theorem dLaw_law_923 : decode nLaw_law.2.1 923 = .ok (.ireturn, 1) := by decide +kernel
theorem dLaw_law_924 : decode nLaw_law.2.1 924 = .ok (.aload_n 1, 1) := by decide +kernel
theorem dLaw_law_925 : decode nLaw_law.2.1 925 = .ok (.aload_n 0, 1) := by decide +kernel
theorem dLaw_law_926 : decode nLaw_law.2.1 926 = .ok (.iload_n 3, 1) := by decide +kernel
theorem dLaw_law_927 : decode nLaw_law.2.1 927 = .ok (.iconst 1, 1) := by decide +kernel
theorem dLaw_law_928 : decode nLaw_law.2.1 928 = .ok (.iadd, 1) := by decide +kernel
theorem dLaw_law_929 : decode nLaw_law.2.1 929 = .ok (.iaload, 1) := by decide +kernel
theorem dLaw_law_930 : decode nLaw_law.2.1 930 = .ok (.aload_n 0, 1) := by decide +kernel
theorem dLaw_law_931 : decode nLaw_law.2.1 931 = .ok (.iload_n 3, 1) := by decide +kernel
theorem dLaw_law_932 : decode nLaw_law.2.1 932 = .ok (.iconst 2, 1) := by decide +kernel
theorem dLaw_law_933 : decode nLaw_law.2.1 933 = .ok (.iadd, 1) := by decide +kernel
theorem dLaw_law_934 : decode nLaw_law.2.1 934 = .ok (.iaload, 1) := by decide +kernel
theorem dLaw_law_935 : decode nLaw_law.2.1 935 = .ok (.aload_n 0, 1) := by decide +kernel
theorem dLaw_law_936 : decode nLaw_law.2.1 936 = .ok (.iload_n 3, 1) := by decide +kernel
theorem dLaw_law_937 : decode nLaw_law.2.1 937 = .ok (.iconst 3, 1) := by decide +kernel
theorem dLaw_law_938 : decode nLaw_law.2.1 938 = .ok (.iadd, 1) := by decide +kernel
theorem dLaw_law_939 : decode nLaw_law.2.1 939 = .ok (.iaload, 1) := by decide +kernel
theorem dLaw_law_940 : decode nLaw_law.2.1 940 = .ok (.aload_n 0, 1) := by decide +kernel
theorem dLaw_law_941 : decode nLaw_law.2.1 941 = .ok (.iload_n 3, 1) := by decide +kernel
theorem dLaw_law_942 : decode nLaw_law.2.1 942 = .ok (.iconst 4, 1) := by decide +kernel
theorem dLaw_law_943 : decode nLaw_law.2.1 943 = .ok (.iadd, 1) := by decide +kernel
theorem dLaw_law_944 : decode nLaw_law.2.1 944 = .ok (.iaload, 1) := by decide +kernel
theorem dLaw_law_945 : decode nLaw_law.2.1 945 = .ok (.aload_n 0, 1) := by decide +kernel
theorem dLaw_law_946 : decode nLaw_law.2.1 946 = .ok (.iload_n 3, 1) := by decide +kernel
theorem dLaw_law_947 : decode nLaw_law.2.1 947 = .ok (.iconst 5, 1) := by decide +kernel
theorem dLaw_law_948 : decode nLaw_law.2.1 948 = .ok (.iadd, 1) := by decide +kernel
theorem dLaw_law_949 : decode nLaw_law.2.1 949 = .ok (.iaload, 1) := by decide +kernel
theorem dLaw_law_950 : decode nLaw_law.2.1 950 = .ok (.invokevirtual 114, 3) := by decide +kernel
theorem dLaw_law_953 : decode nLaw_law.2.1 953 = .ok (.aload_n 2, 1) := by decide +kernel
theorem dLaw_law_954 : decode nLaw_law.2.1 954 = .ok (.aload_n 0, 1) := by decide +kernel
theorem dLaw_law_955 : decode nLaw_law.2.1 955 = .ok (.iload_n 3, 1) := by decide +kernel
theorem dLaw_law_956 : decode nLaw_law.2.1 956 = .ok (.iconst 1, 1) := by decide +kernel
theorem dLaw_law_957 : decode nLaw_law.2.1 957 = .ok (.iadd, 1) := by decide +kernel
theorem dLaw_law_958 : decode nLaw_law.2.1 958 = .ok (.iaload, 1) := by decide +kernel
theorem dLaw_law_959 : decode nLaw_law.2.1 959 = .ok (.aload_n 0, 1) := by decide +kernel
theorem dLaw_law_960 : decode nLaw_law.2.1 960 = .ok (.iload_n 3, 1) := by decide +kernel
theorem dLaw_law_961 : decode nLaw_law.2.1 961 = .ok (.iconst 2, 1) := by decide +kernel
theorem dLaw_law_962 : decode nLaw_law.2.1 962 = .ok (.iadd, 1) := by decide +kernel
theorem dLaw_law_963 : decode nLaw_law.2.1 963 = .ok (.iaload, 1) := by decide +kernel
theorem dLaw_law_964 : decode nLaw_law.2.1 964 = .ok (.aload_n 0, 1) := by decide +kernel
theorem dLaw_law_965 : decode nLaw_law.2.1 965 = .ok (.iload_n 3, 1) := by decide +kernel
theorem dLaw_law_966 : decode nLaw_law.2.1 966 = .ok (.iconst 3, 1) := by decide +kernel
theorem dLaw_law_967 : decode nLaw_law.2.1 967 = .ok (.iadd, 1) := by decide +kernel
theorem dLaw_law_968 : decode nLaw_law.2.1 968 = .ok (.iaload, 1) := by decide +kernel
theorem dLaw_law_969 : decode nLaw_law.2.1 969 = .ok (.aload_n 0, 1) := by decide +kernel
theorem dLaw_law_970 : decode nLaw_law.2.1 970 = .ok (.iload_n 3, 1) := by decide +kernel
theorem dLaw_law_971 : decode nLaw_law.2.1 971 = .ok (.iconst 4, 1) := by decide +kernel
theorem dLaw_law_972 : decode nLaw_law.2.1 972 = .ok (.iadd, 1) := by decide +kernel
theorem dLaw_law_973 : decode nLaw_law.2.1 973 = .ok (.iaload, 1) := by decide +kernel
theorem dLaw_law_974 : decode nLaw_law.2.1 974 = .ok (.aload_n 0, 1) := by decide +kernel
theorem dLaw_law_975 : decode nLaw_law.2.1 975 = .ok (.iload_n 3, 1) := by decide +kernel
theorem dLaw_law_976 : decode nLaw_law.2.1 976 = .ok (.iconst 5, 1) := by decide +kernel
theorem dLaw_law_977 : decode nLaw_law.2.1 977 = .ok (.iadd, 1) := by decide +kernel
theorem dLaw_law_978 : decode nLaw_law.2.1 978 = .ok (.iaload, 1) := by decide +kernel
theorem dLaw_law_979 : decode nLaw_law.2.1 979 = .ok (.invokevirtual 118, 3) := by decide +kernel
theorem dLaw_law_982 : decode nLaw_law.2.1 982 = .ok (.if_icmp .eq 28, 3) := by decide +kernel
theorem dLaw_law_985 : decode nLaw_law.2.1 985 = .ok (.iconst 0, 1) := by decide +kernel
theorem dLaw_law_986 : decode nLaw_law.2.1 986 = .ok (.ireturn, 1) := by decide +kernel
theorem dLaw_law_987 : decode nLaw_law.2.1 987 = .ok (.aload_n 1, 1) := by decide +kernel
theorem dLaw_law_988 : decode nLaw_law.2.1 988 = .ok (.aload_n 0, 1) := by decide +kernel
theorem dLaw_law_989 : decode nLaw_law.2.1 989 = .ok (.iload_n 3, 1) := by decide +kernel
theorem dLaw_law_990 : decode nLaw_law.2.1 990 = .ok (.iconst 1, 1) := by decide +kernel
theorem dLaw_law_991 : decode nLaw_law.2.1 991 = .ok (.iadd, 1) := by decide +kernel
theorem dLaw_law_992 : decode nLaw_law.2.1 992 = .ok (.iaload, 1) := by decide +kernel
theorem dLaw_law_993 : decode nLaw_law.2.1 993 = .ok (.invokevirtual 119, 3) := by decide +kernel
theorem dLaw_law_996 : decode nLaw_law.2.1 996 = .ok (.aload_n 2, 1) := by decide +kernel
theorem dLaw_law_997 : decode nLaw_law.2.1 997 = .ok (.aload_n 0, 1) := by decide +kernel
theorem dLaw_law_998 : decode nLaw_law.2.1 998 = .ok (.iload_n 3, 1) := by decide +kernel
theorem dLaw_law_999 : decode nLaw_law.2.1 999 = .ok (.iconst 1, 1) := by decide +kernel
theorem dLaw_law_1000 : decode nLaw_law.2.1 1000 = .ok (.iadd, 1) := by decide +kernel
theorem dLaw_law_1001 : decode nLaw_law.2.1 1001 = .ok (.iaload, 1) := by decide +kernel
theorem dLaw_law_1002 : decode nLaw_law.2.1 1002 = .ok (.invokevirtual 122, 3) := by decide +kernel
theorem dLaw_law_1005 : decode nLaw_law.2.1 1005 = .ok (.if_icmp .eq 5, 3) := by decide +kernel
theorem dLaw_law_1008 : decode nLaw_law.2.1 1008 = .ok (.iconst 0, 1) := by decide +kernel
theorem dLaw_law_1009 : decode nLaw_law.2.1 1009 = .ok (.ireturn, 1) := by decide +kernel
theorem dLaw_law_1010 : decode nLaw_law.2.1 1010 = .ok (.iinc 3 6, 3) := by decide +kernel
theorem dLaw_law_1013 : decode nLaw_law.2.1 1013 = .ok (.goto (-995), 3) := by decide +kernel
theorem dLaw_law_1016 : decode nLaw_law.2.1 1016 = .ok (.iconst 1, 1) := by decide +kernel
theorem dLaw_law_1017 : decode nLaw_law.2.1 1017 = .ok (.ireturn, 1) := by decide +kernel
end
