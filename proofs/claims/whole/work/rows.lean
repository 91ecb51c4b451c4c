section
-- ===== PART A: goes FIRST, ahead of the names: the tables' words, and 'selects' of the private methods out of them =====
/-- a private method of a class that the tables say can be made, by its rows of tables_1 -/
def lw_okq (q : MethodName × Nat) : Prop := (q.1.cls ≠ "java/lang/invoke/MethodHandle" ∧ q.1.cls ≠ "java/lang/invoke/VarHandle") ∧ Cond.instantiable q.1.cls q.2 ∈ tables_1 ∧ Cond.privateMethod q.1 ∈ tables_1 ∧ Cond.instanceMethod q.1 ∈ tables_1
theorem lw_p0 : lw_okq (⟨"java/util/ArrayList", "add", "(Ljava/lang/Object;[Ljava/lang/Object;I)V"⟩, 3) := ⟨⟨by decide +kernel, by decide +kernel⟩, List.mem_of_getElem? (i := 41) (by decide +kernel), List.mem_of_getElem? (i := 135) (by decide +kernel), List.mem_of_getElem? (i := 136) (by decide +kernel)⟩
theorem lw_p1 : lw_okq (⟨"java/util/ArrayList", "grow", "()[Ljava/lang/Object;"⟩, 3) := ⟨⟨by decide +kernel, by decide +kernel⟩, List.mem_of_getElem? (i := 41) (by decide +kernel), List.mem_of_getElem? (i := 139) (by decide +kernel), List.mem_of_getElem? (i := 140) (by decide +kernel)⟩
theorem lw_p2 : lw_okq (⟨"java/util/ArrayList", "grow", "(I)[Ljava/lang/Object;"⟩, 3) := ⟨⟨by decide +kernel, by decide +kernel⟩, List.mem_of_getElem? (i := 41) (by decide +kernel), List.mem_of_getElem? (i := 143) (by decide +kernel), List.mem_of_getElem? (i := 144) (by decide +kernel)⟩
theorem lw_p3 : lw_okq (⟨"FairquotaBroker", "reckonDues", "()V"⟩, 11) := ⟨⟨by decide +kernel, by decide +kernel⟩, List.mem_of_getElem? (i := 33) (by decide +kernel), List.mem_of_getElem? (i := 247) (by decide +kernel), List.mem_of_getElem? (i := 248) (by decide +kernel)⟩
theorem lw_p4 : lw_okq (⟨"FairquotaBroker", "reckonDemands", "()V"⟩, 11) := ⟨⟨by decide +kernel, by decide +kernel⟩, List.mem_of_getElem? (i := 33) (by decide +kernel), List.mem_of_getElem? (i := 251) (by decide +kernel), List.mem_of_getElem? (i := 252) (by decide +kernel)⟩
theorem lw_p5 : lw_okq (⟨"FairquotaBroker", "dealShares", "()V"⟩, 11) := ⟨⟨by decide +kernel, by decide +kernel⟩, List.mem_of_getElem? (i := 33) (by decide +kernel), List.mem_of_getElem? (i := 275) (by decide +kernel), List.mem_of_getElem? (i := 276) (by decide +kernel)⟩
theorem lw_p6 : lw_okq (⟨"FairquotaBroker", "rootShare", "()I"⟩, 11) := ⟨⟨by decide +kernel, by decide +kernel⟩, List.mem_of_getElem? (i := 33) (by decide +kernel), List.mem_of_getElem? (i := 279) (by decide +kernel), List.mem_of_getElem? (i := 280) (by decide +kernel)⟩
theorem lw_p7 : lw_okq (⟨"FairquotaBroker$Team", "giveOneByOne", "(I)V"⟩, 14) := ⟨⟨by decide +kernel, by decide +kernel⟩, List.mem_of_getElem? (i := 67) (by decide +kernel), List.mem_of_getElem? (i := 291) (by decide +kernel), List.mem_of_getElem? (i := 292) (by decide +kernel)⟩
theorem lw_p8 : lw_okq (⟨"FairquotaBroker$Team", "neediestChild", "()LFairquotaBroker$Team;"⟩, 14) := ⟨⟨by decide +kernel, by decide +kernel⟩, List.mem_of_getElem? (i := 67) (by decide +kernel), List.mem_of_getElem? (i := 295) (by decide +kernel), List.mem_of_getElem? (i := 296) (by decide +kernel)⟩
theorem lw_p9 : lw_okq (⟨"FairquotaBroker", "reckonHeldUnits", "()V"⟩, 11) := ⟨⟨by decide +kernel, by decide +kernel⟩, List.mem_of_getElem? (i := 33) (by decide +kernel), List.mem_of_getElem? (i := 299) (by decide +kernel), List.mem_of_getElem? (i := 300) (by decide +kernel)⟩
theorem lw_p10 : lw_okq (⟨"FairquotaBroker", "fillShares", "()V"⟩, 11) := ⟨⟨by decide +kernel, by decide +kernel⟩, List.mem_of_getElem? (i := 33) (by decide +kernel), List.mem_of_getElem? (i := 305) (by decide +kernel), List.mem_of_getElem? (i := 306) (by decide +kernel)⟩
theorem lw_p11 : lw_okq (⟨"FairquotaBroker$Team", "levelWithin", "(I)I"⟩, 14) := ⟨⟨by decide +kernel, by decide +kernel⟩, List.mem_of_getElem? (i := 67) (by decide +kernel), List.mem_of_getElem? (i := 313) (by decide +kernel), List.mem_of_getElem? (i := 314) (by decide +kernel)⟩
theorem lw_p12 : lw_okq (⟨"FairquotaBroker$Team", "childrenUnitsAtLevel", "(I)I"⟩, 14) := ⟨⟨by decide +kernel, by decide +kernel⟩, List.mem_of_getElem? (i := 67) (by decide +kernel), List.mem_of_getElem? (i := 317) (by decide +kernel), List.mem_of_getElem? (i := 318) (by decide +kernel)⟩
theorem lw_p13 : lw_okq (⟨"FairquotaBroker$Team", "unitsAtLevel", "(I)I"⟩, 14) := ⟨⟨by decide +kernel, by decide +kernel⟩, List.mem_of_getElem? (i := 67) (by decide +kernel), List.mem_of_getElem? (i := 321) (by decide +kernel), List.mem_of_getElem? (i := 322) (by decide +kernel)⟩
theorem lw_p14 : lw_okq (⟨"FairquotaBroker", "sharesAreFair", "()Z"⟩, 11) := ⟨⟨by decide +kernel, by decide +kernel⟩, List.mem_of_getElem? (i := 33) (by decide +kernel), List.mem_of_getElem? (i := 325) (by decide +kernel), List.mem_of_getElem? (i := 326) (by decide +kernel)⟩
theorem lw_p15 : lw_okq (⟨"FairquotaBroker", "someFirstJobCanBeServed", "()Z"⟩, 11) := ⟨⟨by decide +kernel, by decide +kernel⟩, List.mem_of_getElem? (i := 33) (by decide +kernel), List.mem_of_getElem? (i := 333) (by decide +kernel), List.mem_of_getElem? (i := 334) (by decide +kernel)⟩
def lw_privs_1 : List (MethodName × Nat) := [(⟨"java/util/ArrayList", "add", "(Ljava/lang/Object;[Ljava/lang/Object;I)V"⟩, 3), (⟨"java/util/ArrayList", "grow", "()[Ljava/lang/Object;"⟩, 3), (⟨"java/util/ArrayList", "grow", "(I)[Ljava/lang/Object;"⟩, 3), (⟨"FairquotaBroker", "reckonDues", "()V"⟩, 11), (⟨"FairquotaBroker", "reckonDemands", "()V"⟩, 11), (⟨"FairquotaBroker", "dealShares", "()V"⟩, 11), (⟨"FairquotaBroker", "rootShare", "()I"⟩, 11), (⟨"FairquotaBroker$Team", "giveOneByOne", "(I)V"⟩, 14), (⟨"FairquotaBroker$Team", "neediestChild", "()LFairquotaBroker$Team;"⟩, 14), (⟨"FairquotaBroker", "reckonHeldUnits", "()V"⟩, 11), (⟨"FairquotaBroker", "fillShares", "()V"⟩, 11), (⟨"FairquotaBroker$Team", "levelWithin", "(I)I"⟩, 14), (⟨"FairquotaBroker$Team", "childrenUnitsAtLevel", "(I)I"⟩, 14), (⟨"FairquotaBroker$Team", "unitsAtLevel", "(I)I"⟩, 14), (⟨"FairquotaBroker", "sharesAreFair", "()Z"⟩, 11), (⟨"FairquotaBroker", "someFirstJobCanBeServed", "()Z"⟩, 11)]
theorem lw_r1 : ∀ q ∈ lw_privs_1, lw_okq q := List.forall_mem_cons.mpr ⟨lw_p0, List.forall_mem_cons.mpr ⟨lw_p1, List.forall_mem_cons.mpr ⟨lw_p2, List.forall_mem_cons.mpr ⟨lw_p3, List.forall_mem_cons.mpr ⟨lw_p4, List.forall_mem_cons.mpr ⟨lw_p5, List.forall_mem_cons.mpr ⟨lw_p6, List.forall_mem_cons.mpr ⟨lw_p7, List.forall_mem_cons.mpr ⟨lw_p8, List.forall_mem_cons.mpr ⟨lw_p9, List.forall_mem_cons.mpr ⟨lw_p10, List.forall_mem_cons.mpr ⟨lw_p11, List.forall_mem_cons.mpr ⟨lw_p12, List.forall_mem_cons.mpr ⟨lw_p13, List.forall_mem_cons.mpr ⟨lw_p14, List.forall_mem_cons.mpr ⟨lw_p15, fun _ h => absurd h List.not_mem_nil⟩⟩⟩⟩⟩⟩⟩⟩⟩⟩⟩⟩⟩⟩⟩⟩
theorem lw_p16 : lw_okq (⟨"FairquotaBroker", "formLine", "()V"⟩, 11) := ⟨⟨by decide +kernel, by decide +kernel⟩, List.mem_of_getElem? (i := 33) (by decide +kernel), List.mem_of_getElem? (i := 337) (by decide +kernel), List.mem_of_getElem? (i := 338) (by decide +kernel)⟩
theorem lw_p17 : lw_okq (⟨"FairquotaBroker", "firstJob", "(LFairquotaBroker$Team;)LFairquotaBroker$Job;"⟩, 11) := ⟨⟨by decide +kernel, by decide +kernel⟩, List.mem_of_getElem? (i := 33) (by decide +kernel), List.mem_of_getElem? (i := 345) (by decide +kernel), List.mem_of_getElem? (i := 346) (by decide +kernel)⟩
theorem lw_p18 : lw_okq (⟨"FairquotaBroker", "placeInLine", "(LFairquotaBroker$Team;)I"⟩, 11) := ⟨⟨by decide +kernel, by decide +kernel⟩, List.mem_of_getElem? (i := 33) (by decide +kernel), List.mem_of_getElem? (i := 349) (by decide +kernel), List.mem_of_getElem? (i := 350) (by decide +kernel)⟩
theorem lw_p19 : lw_okq (⟨"java/util/ArrayList", "rangeCheckForAdd", "(I)V"⟩, 3) := ⟨⟨by decide +kernel, by decide +kernel⟩, List.mem_of_getElem? (i := 41) (by decide +kernel), List.mem_of_getElem? (i := 361) (by decide +kernel), List.mem_of_getElem? (i := 362) (by decide +kernel)⟩
theorem lw_p20 : lw_okq (⟨"java/lang/Throwable", "fillInStackTrace", "(I)Ljava/lang/Throwable;"⟩, 6) := ⟨⟨by decide +kernel, by decide +kernel⟩, List.mem_of_getElem? (i := 407) (by decide +kernel), List.mem_of_getElem? (i := 405) (by decide +kernel), List.mem_of_getElem? (i := 406) (by decide +kernel)⟩
theorem lw_p21 : lw_okq (⟨"java/util/ArrayList", "outOfBoundsMsg", "(I)Ljava/lang/String;"⟩, 3) := ⟨⟨by decide +kernel, by decide +kernel⟩, List.mem_of_getElem? (i := 41) (by decide +kernel), List.mem_of_getElem? (i := 410) (by decide +kernel), List.mem_of_getElem? (i := 411) (by decide +kernel)⟩
theorem lw_p22 : lw_okq (⟨"FairquotaBroker", "canStartOrReclaim", "(LFairquotaBroker$Job;)Z"⟩, 11) := ⟨⟨by decide +kernel, by decide +kernel⟩, List.mem_of_getElem? (i := 33) (by decide +kernel), List.mem_of_getElem? (i := 685) (by decide +kernel), List.mem_of_getElem? (i := 686) (by decide +kernel)⟩
theorem lw_p23 : lw_okq (⟨"FairquotaBroker", "freeUnits", "(LFairquotaBroker$Team;)I"⟩, 11) := ⟨⟨by decide +kernel, by decide +kernel⟩, List.mem_of_getElem? (i := 33) (by decide +kernel), List.mem_of_getElem? (i := 693) (by decide +kernel), List.mem_of_getElem? (i := 694) (by decide +kernel)⟩
theorem lw_p24 : lw_okq (⟨"FairquotaBroker", "findVictims", "(LFairquotaBroker$Job;)Z"⟩, 11) := ⟨⟨by decide +kernel, by decide +kernel⟩, List.mem_of_getElem? (i := 33) (by decide +kernel), List.mem_of_getElem? (i := 697) (by decide +kernel), List.mem_of_getElem? (i := 698) (by decide +kernel)⟩
theorem lw_p25 : lw_okq (⟨"FairquotaBroker", "youngestBorrower", "(LFairquotaBroker$Team;)LFairquotaBroker$Job;"⟩, 11) := ⟨⟨by decide +kernel, by decide +kernel⟩, List.mem_of_getElem? (i := 33) (by decide +kernel), List.mem_of_getElem? (i := 701) (by decide +kernel), List.mem_of_getElem? (i := 702) (by decide +kernel)⟩
theorem lw_p26 : lw_okq (⟨"FairquotaBroker", "teamAt", "(I)LFairquotaBroker$Team;"⟩, 11) := ⟨⟨by decide +kernel, by decide +kernel⟩, List.mem_of_getElem? (i := 33) (by decide +kernel), List.mem_of_getElem? (i := 742) (by decide +kernel), List.mem_of_getElem? (i := 743) (by decide +kernel)⟩
theorem lw_p27 : lw_okq (⟨"FairquotaBroker", "serve", "()V"⟩, 11) := ⟨⟨by decide +kernel, by decide +kernel⟩, List.mem_of_getElem? (i := 33) (by decide +kernel), List.mem_of_getElem? (i := 771) (by decide +kernel), List.mem_of_getElem? (i := 772) (by decide +kernel)⟩
theorem lw_p28 : lw_okq (⟨"FairquotaBroker", "serveNext", "()Z"⟩, 11) := ⟨⟨by decide +kernel, by decide +kernel⟩, List.mem_of_getElem? (i := 33) (by decide +kernel), List.mem_of_getElem? (i := 776) (by decide +kernel), List.mem_of_getElem? (i := 777) (by decide +kernel)⟩
theorem lw_p29 : lw_okq (⟨"FairquotaBroker", "stopVictims", "()V"⟩, 11) := ⟨⟨by decide +kernel, by decide +kernel⟩, List.mem_of_getElem? (i := 33) (by decide +kernel), List.mem_of_getElem? (i := 780) (by decide +kernel), List.mem_of_getElem? (i := 781) (by decide +kernel)⟩
theorem lw_p30 : lw_okq (⟨"FairquotaBroker", "start", "(LFairquotaBroker$Job;)V"⟩, 11) := ⟨⟨by decide +kernel, by decide +kernel⟩, List.mem_of_getElem? (i := 33) (by decide +kernel), List.mem_of_getElem? (i := 784) (by decide +kernel), List.mem_of_getElem? (i := 785) (by decide +kernel)⟩
theorem lw_p31 : lw_okq (⟨"FairquotaBroker", "teamBelowRoot", "(I)LFairquotaBroker$Team;"⟩, 11) := ⟨⟨by decide +kernel, by decide +kernel⟩, List.mem_of_getElem? (i := 33) (by decide +kernel), List.mem_of_getElem? (i := 796) (by decide +kernel), List.mem_of_getElem? (i := 797) (by decide +kernel)⟩
def lw_privs_2 : List (MethodName × Nat) := [(⟨"FairquotaBroker", "formLine", "()V"⟩, 11), (⟨"FairquotaBroker", "firstJob", "(LFairquotaBroker$Team;)LFairquotaBroker$Job;"⟩, 11), (⟨"FairquotaBroker", "placeInLine", "(LFairquotaBroker$Team;)I"⟩, 11), (⟨"java/util/ArrayList", "rangeCheckForAdd", "(I)V"⟩, 3), (⟨"java/lang/Throwable", "fillInStackTrace", "(I)Ljava/lang/Throwable;"⟩, 6), (⟨"java/util/ArrayList", "outOfBoundsMsg", "(I)Ljava/lang/String;"⟩, 3), (⟨"FairquotaBroker", "canStartOrReclaim", "(LFairquotaBroker$Job;)Z"⟩, 11), (⟨"FairquotaBroker", "freeUnits", "(LFairquotaBroker$Team;)I"⟩, 11), (⟨"FairquotaBroker", "findVictims", "(LFairquotaBroker$Job;)Z"⟩, 11), (⟨"FairquotaBroker", "youngestBorrower", "(LFairquotaBroker$Team;)LFairquotaBroker$Job;"⟩, 11), (⟨"FairquotaBroker", "teamAt", "(I)LFairquotaBroker$Team;"⟩, 11), (⟨"FairquotaBroker", "serve", "()V"⟩, 11), (⟨"FairquotaBroker", "serveNext", "()Z"⟩, 11), (⟨"FairquotaBroker", "stopVictims", "()V"⟩, 11), (⟨"FairquotaBroker", "start", "(LFairquotaBroker$Job;)V"⟩, 11), (⟨"FairquotaBroker", "teamBelowRoot", "(I)LFairquotaBroker$Team;"⟩, 11)]
theorem lw_r2 : ∀ q ∈ lw_privs_2, lw_okq q := List.forall_mem_cons.mpr ⟨lw_p16, List.forall_mem_cons.mpr ⟨lw_p17, List.forall_mem_cons.mpr ⟨lw_p18, List.forall_mem_cons.mpr ⟨lw_p19, List.forall_mem_cons.mpr ⟨lw_p20, List.forall_mem_cons.mpr ⟨lw_p21, List.forall_mem_cons.mpr ⟨lw_p22, List.forall_mem_cons.mpr ⟨lw_p23, List.forall_mem_cons.mpr ⟨lw_p24, List.forall_mem_cons.mpr ⟨lw_p25, List.forall_mem_cons.mpr ⟨lw_p26, List.forall_mem_cons.mpr ⟨lw_p27, List.forall_mem_cons.mpr ⟨lw_p28, List.forall_mem_cons.mpr ⟨lw_p29, List.forall_mem_cons.mpr ⟨lw_p30, List.forall_mem_cons.mpr ⟨lw_p31, fun _ h => absurd h List.not_mem_nil⟩⟩⟩⟩⟩⟩⟩⟩⟩⟩⟩⟩⟩⟩⟩⟩
theorem lw_p32 : lw_okq (⟨"FairquotaBroker", "aliveJobAt", "(I)LFairquotaBroker$Job;"⟩, 11) := ⟨⟨by decide +kernel, by decide +kernel⟩, List.mem_of_getElem? (i := 33) (by decide +kernel), List.mem_of_getElem? (i := 918) (by decide +kernel), List.mem_of_getElem? (i := 919) (by decide +kernel)⟩
theorem lw_p33 : lw_okq (⟨"FairquotaBroker", "jobAt", "(I)LFairquotaBroker$Job;"⟩, 11) := ⟨⟨by decide +kernel, by decide +kernel⟩, List.mem_of_getElem? (i := 33) (by decide +kernel), List.mem_of_getElem? (i := 922) (by decide +kernel), List.mem_of_getElem? (i := 923) (by decide +kernel)⟩
theorem lw_p34 : lw_okq (⟨"FairquotaBroker", "forgetDeadJobs", "()V"⟩, 11) := ⟨⟨by decide +kernel, by decide +kernel⟩, List.mem_of_getElem? (i := 33) (by decide +kernel), List.mem_of_getElem? (i := 947) (by decide +kernel), List.mem_of_getElem? (i := 948) (by decide +kernel)⟩
theorem lw_p35 : lw_okq (⟨"java/util/ArrayList", "fastRemove", "([Ljava/lang/Object;I)V"⟩, 3) := ⟨⟨by decide +kernel, by decide +kernel⟩, List.mem_of_getElem? (i := 41) (by decide +kernel), List.mem_of_getElem? (i := 955) (by decide +kernel), List.mem_of_getElem? (i := 956) (by decide +kernel)⟩
theorem lw_p36 : lw_okq (⟨"FairquotaBroker", "endJobs", "()I"⟩, 11) := ⟨⟨by decide +kernel, by decide +kernel⟩, List.mem_of_getElem? (i := 33) (by decide +kernel), List.mem_of_getElem? (i := 966) (by decide +kernel), List.mem_of_getElem? (i := 967) (by decide +kernel)⟩
theorem lw_p37 : lw_okq (⟨"FairquotaBroker", "changeUse", "()V"⟩, 11) := ⟨⟨by decide +kernel, by decide +kernel⟩, List.mem_of_getElem? (i := 33) (by decide +kernel), List.mem_of_getElem? (i := 970) (by decide +kernel), List.mem_of_getElem? (i := 971) (by decide +kernel)⟩
theorem lw_p38 : lw_okq (⟨"FairquotaBroker", "leafAt", "(I)LFairquotaBroker$Team;"⟩, 11) := ⟨⟨by decide +kernel, by decide +kernel⟩, List.mem_of_getElem? (i := 33) (by decide +kernel), List.mem_of_getElem? (i := 1003) (by decide +kernel), List.mem_of_getElem? (i := 1004) (by decide +kernel)⟩
theorem lw_p39 : lw_okq (⟨"FairquotaBroker", "reservationFor", "(III)LFairquotaBroker$Reservation;"⟩, 11) := ⟨⟨by decide +kernel, by decide +kernel⟩, List.mem_of_getElem? (i := 33) (by decide +kernel), List.mem_of_getElem? (i := 1023) (by decide +kernel), List.mem_of_getElem? (i := 1024) (by decide +kernel)⟩
theorem lw_p40 : lw_okq (⟨"FairquotaBroker", "forgetReservation", "(LFairquotaBroker$Reservation;)V"⟩, 11) := ⟨⟨by decide +kernel, by decide +kernel⟩, List.mem_of_getElem? (i := 33) (by decide +kernel), List.mem_of_getElem? (i := 1058) (by decide +kernel), List.mem_of_getElem? (i := 1059) (by decide +kernel)⟩
theorem lw_p41 : lw_okq (⟨"FairquotaBrokerModel", "isTeam", "(I)Z"⟩, 33) := ⟨⟨by decide +kernel, by decide +kernel⟩, List.mem_of_getElem? (i := 1150) (by decide +kernel), List.mem_of_getElem? (i := 1267) (by decide +kernel), List.mem_of_getElem? (i := 1268) (by decide +kernel)⟩
theorem lw_p42 : lw_okq (⟨"FairquotaBrokerModel", "goesOn", "(I)Z"⟩, 33) := ⟨⟨by decide +kernel, by decide +kernel⟩, List.mem_of_getElem? (i := 1150) (by decide +kernel), List.mem_of_getElem? (i := 1274) (by decide +kernel), List.mem_of_getElem? (i := 1275) (by decide +kernel)⟩
theorem lw_p43 : lw_okq (⟨"FairquotaBrokerModel", "serves", "()V"⟩, 33) := ⟨⟨by decide +kernel, by decide +kernel⟩, List.mem_of_getElem? (i := 1150) (by decide +kernel), List.mem_of_getElem? (i := 1278) (by decide +kernel), List.mem_of_getElem? (i := 1279) (by decide +kernel)⟩
theorem lw_p44 : lw_okq (⟨"FairquotaBrokerModel", "laysShares", "()V"⟩, 33) := ⟨⟨by decide +kernel, by decide +kernel⟩, List.mem_of_getElem? (i := 1150) (by decide +kernel), List.mem_of_getElem? (i := 1282) (by decide +kernel), List.mem_of_getElem? (i := 1283) (by decide +kernel)⟩
theorem lw_p45 : lw_okq (⟨"FairquotaBrokerModel", "demandOf", "(I)I"⟩, 33) := ⟨⟨by decide +kernel, by decide +kernel⟩, List.mem_of_getElem? (i := 1150) (by decide +kernel), List.mem_of_getElem? (i := 1286) (by decide +kernel), List.mem_of_getElem? (i := 1287) (by decide +kernel)⟩
theorem lw_p46 : lw_okq (⟨"FairquotaBrokerModel", "isLeaf", "(I)Z"⟩, 33) := ⟨⟨by decide +kernel, by decide +kernel⟩, List.mem_of_getElem? (i := 1150) (by decide +kernel), List.mem_of_getElem? (i := 1290) (by decide +kernel), List.mem_of_getElem? (i := 1291) (by decide +kernel)⟩
theorem lw_p47 : lw_okq (⟨"FairquotaBrokerModel", "childrenOf", "(I)I"⟩, 33) := ⟨⟨by decide +kernel, by decide +kernel⟩, List.mem_of_getElem? (i := 1150) (by decide +kernel), List.mem_of_getElem? (i := 1294) (by decide +kernel), List.mem_of_getElem? (i := 1295) (by decide +kernel)⟩
def lw_privs_3 : List (MethodName × Nat) := [(⟨"FairquotaBroker", "aliveJobAt", "(I)LFairquotaBroker$Job;"⟩, 11), (⟨"FairquotaBroker", "jobAt", "(I)LFairquotaBroker$Job;"⟩, 11), (⟨"FairquotaBroker", "forgetDeadJobs", "()V"⟩, 11), (⟨"java/util/ArrayList", "fastRemove", "([Ljava/lang/Object;I)V"⟩, 3), (⟨"FairquotaBroker", "endJobs", "()I"⟩, 11), (⟨"FairquotaBroker", "changeUse", "()V"⟩, 11), (⟨"FairquotaBroker", "leafAt", "(I)LFairquotaBroker$Team;"⟩, 11), (⟨"FairquotaBroker", "reservationFor", "(III)LFairquotaBroker$Reservation;"⟩, 11), (⟨"FairquotaBroker", "forgetReservation", "(LFairquotaBroker$Reservation;)V"⟩, 11), (⟨"FairquotaBrokerModel", "isTeam", "(I)Z"⟩, 33), (⟨"FairquotaBrokerModel", "goesOn", "(I)Z"⟩, 33), (⟨"FairquotaBrokerModel", "serves", "()V"⟩, 33), (⟨"FairquotaBrokerModel", "laysShares", "()V"⟩, 33), (⟨"FairquotaBrokerModel", "demandOf", "(I)I"⟩, 33), (⟨"FairquotaBrokerModel", "isLeaf", "(I)Z"⟩, 33), (⟨"FairquotaBrokerModel", "childrenOf", "(I)I"⟩, 33)]
theorem lw_r3 : ∀ q ∈ lw_privs_3, lw_okq q := List.forall_mem_cons.mpr ⟨lw_p32, List.forall_mem_cons.mpr ⟨lw_p33, List.forall_mem_cons.mpr ⟨lw_p34, List.forall_mem_cons.mpr ⟨lw_p35, List.forall_mem_cons.mpr ⟨lw_p36, List.forall_mem_cons.mpr ⟨lw_p37, List.forall_mem_cons.mpr ⟨lw_p38, List.forall_mem_cons.mpr ⟨lw_p39, List.forall_mem_cons.mpr ⟨lw_p40, List.forall_mem_cons.mpr ⟨lw_p41, List.forall_mem_cons.mpr ⟨lw_p42, List.forall_mem_cons.mpr ⟨lw_p43, List.forall_mem_cons.mpr ⟨lw_p44, List.forall_mem_cons.mpr ⟨lw_p45, List.forall_mem_cons.mpr ⟨lw_p46, List.forall_mem_cons.mpr ⟨lw_p47, fun _ h => absurd h List.not_mem_nil⟩⟩⟩⟩⟩⟩⟩⟩⟩⟩⟩⟩⟩⟩⟩⟩
theorem lw_p48 : lw_okq (⟨"FairquotaBrokerModel", "gives", "(I)V"⟩, 33) := ⟨⟨by decide +kernel, by decide +kernel⟩, List.mem_of_getElem? (i := 1150) (by decide +kernel), List.mem_of_getElem? (i := 1298) (by decide +kernel), List.mem_of_getElem? (i := 1299) (by decide +kernel)⟩
theorem lw_p49 : lw_okq (⟨"FairquotaBrokerModel", "servesOne", "()Z"⟩, 33) := ⟨⟨by decide +kernel, by decide +kernel⟩, List.mem_of_getElem? (i := 1150) (by decide +kernel), List.mem_of_getElem? (i := 1302) (by decide +kernel), List.mem_of_getElem? (i := 1303) (by decide +kernel)⟩
theorem lw_p50 : lw_okq (⟨"FairquotaBrokerModel", "laysLine", "()V"⟩, 33) := ⟨⟨by decide +kernel, by decide +kernel⟩, List.mem_of_getElem? (i := 1150) (by decide +kernel), List.mem_of_getElem? (i := 1306) (by decide +kernel), List.mem_of_getElem? (i := 1307) (by decide +kernel)⟩
theorem lw_p51 : lw_okq (⟨"FairquotaBrokerModel", "firstJob", "(I)I"⟩, 33) := ⟨⟨by decide +kernel, by decide +kernel⟩, List.mem_of_getElem? (i := 1150) (by decide +kernel), List.mem_of_getElem? (i := 1310) (by decide +kernel), List.mem_of_getElem? (i := 1311) (by decide +kernel)⟩
theorem lw_p52 : lw_okq (⟨"FairquotaBrokerModel", "isAhead", "(II)Z"⟩, 33) := ⟨⟨by decide +kernel, by decide +kernel⟩, List.mem_of_getElem? (i := 1150) (by decide +kernel), List.mem_of_getElem? (i := 1314) (by decide +kernel), List.mem_of_getElem? (i := 1315) (by decide +kernel)⟩
theorem lw_p53 : lw_okq (⟨"FairquotaBrokerModel", "canStart", "(I)Z"⟩, 33) := ⟨⟨by decide +kernel, by decide +kernel⟩, List.mem_of_getElem? (i := 1150) (by decide +kernel), List.mem_of_getElem? (i := 1318) (by decide +kernel), List.mem_of_getElem? (i := 1319) (by decide +kernel)⟩
theorem lw_p54 : lw_okq (⟨"FairquotaBrokerModel", "isWithinLimits", "(I)Z"⟩, 33) := ⟨⟨by decide +kernel, by decide +kernel⟩, List.mem_of_getElem? (i := 1150) (by decide +kernel), List.mem_of_getElem? (i := 1322) (by decide +kernel), List.mem_of_getElem? (i := 1323) (by decide +kernel)⟩
theorem lw_p55 : lw_okq (⟨"FairquotaBrokerModel", "freeOf", "(I)I"⟩, 33) := ⟨⟨by decide +kernel, by decide +kernel⟩, List.mem_of_getElem? (i := 1150) (by decide +kernel), List.mem_of_getElem? (i := 1326) (by decide +kernel), List.mem_of_getElem? (i := 1327) (by decide +kernel)⟩
theorem lw_p56 : lw_okq (⟨"FairquotaBrokerModel", "reservedFor", "(I)I"⟩, 33) := ⟨⟨by decide +kernel, by decide +kernel⟩, List.mem_of_getElem? (i := 1150) (by decide +kernel), List.mem_of_getElem? (i := 1330) (by decide +kernel), List.mem_of_getElem? (i := 1331) (by decide +kernel)⟩
theorem lw_p57 : lw_okq (⟨"FairquotaBrokerModel", "makesRoom", "(I)Z"⟩, 33) := ⟨⟨by decide +kernel, by decide +kernel⟩, List.mem_of_getElem? (i := 1150) (by decide +kernel), List.mem_of_getElem? (i := 1334) (by decide +kernel), List.mem_of_getElem? (i := 1335) (by decide +kernel)⟩
theorem lw_p58 : lw_okq (⟨"FairquotaBrokerModel", "dueOf", "(I)I"⟩, 33) := ⟨⟨by decide +kernel, by decide +kernel⟩, List.mem_of_getElem? (i := 1150) (by decide +kernel), List.mem_of_getElem? (i := 1338) (by decide +kernel), List.mem_of_getElem? (i := 1339) (by decide +kernel)⟩
theorem lw_p59 : lw_okq (⟨"FairquotaBrokerModel", "lastOver", "(I)I"⟩, 33) := ⟨⟨by decide +kernel, by decide +kernel⟩, List.mem_of_getElem? (i := 1150) (by decide +kernel), List.mem_of_getElem? (i := 1342) (by decide +kernel), List.mem_of_getElem? (i := 1343) (by decide +kernel)⟩
theorem lw_p60 : lw_okq (⟨"FairquotaBrokerModel", "restores", "()V"⟩, 33) := ⟨⟨by decide +kernel, by decide +kernel⟩, List.mem_of_getElem? (i := 1150) (by decide +kernel), List.mem_of_getElem? (i := 1346) (by decide +kernel), List.mem_of_getElem? (i := 1347) (by decide +kernel)⟩
theorem lw_p61 : lw_okq (⟨"FairquotaBrokerModel", "goesBack", "(I)V"⟩, 33) := ⟨⟨by decide +kernel, by decide +kernel⟩, List.mem_of_getElem? (i := 1150) (by decide +kernel), List.mem_of_getElem? (i := 1350) (by decide +kernel), List.mem_of_getElem? (i := 1351) (by decide +kernel)⟩
theorem lw_p62 : lw_okq (⟨"FairquotaBrokerModel", "runsMore", "(II)V"⟩, 33) := ⟨⟨by decide +kernel, by decide +kernel⟩, List.mem_of_getElem? (i := 1150) (by decide +kernel), List.mem_of_getElem? (i := 1354) (by decide +kernel), List.mem_of_getElem? (i := 1355) (by decide +kernel)⟩
theorem lw_p63 : lw_okq (⟨"FairquotaBrokerModel", "halts", "(I)V"⟩, 33) := ⟨⟨by decide +kernel, by decide +kernel⟩, List.mem_of_getElem? (i := 1150) (by decide +kernel), List.mem_of_getElem? (i := 1358) (by decide +kernel), List.mem_of_getElem? (i := 1359) (by decide +kernel)⟩
def lw_privs_4 : List (MethodName × Nat) := [(⟨"FairquotaBrokerModel", "gives", "(I)V"⟩, 33), (⟨"FairquotaBrokerModel", "servesOne", "()Z"⟩, 33), (⟨"FairquotaBrokerModel", "laysLine", "()V"⟩, 33), (⟨"FairquotaBrokerModel", "firstJob", "(I)I"⟩, 33), (⟨"FairquotaBrokerModel", "isAhead", "(II)Z"⟩, 33), (⟨"FairquotaBrokerModel", "canStart", "(I)Z"⟩, 33), (⟨"FairquotaBrokerModel", "isWithinLimits", "(I)Z"⟩, 33), (⟨"FairquotaBrokerModel", "freeOf", "(I)I"⟩, 33), (⟨"FairquotaBrokerModel", "reservedFor", "(I)I"⟩, 33), (⟨"FairquotaBrokerModel", "makesRoom", "(I)Z"⟩, 33), (⟨"FairquotaBrokerModel", "dueOf", "(I)I"⟩, 33), (⟨"FairquotaBrokerModel", "lastOver", "(I)I"⟩, 33), (⟨"FairquotaBrokerModel", "restores", "()V"⟩, 33), (⟨"FairquotaBrokerModel", "goesBack", "(I)V"⟩, 33), (⟨"FairquotaBrokerModel", "runsMore", "(II)V"⟩, 33), (⟨"FairquotaBrokerModel", "halts", "(I)V"⟩, 33)]
theorem lw_r4 : ∀ q ∈ lw_privs_4, lw_okq q := List.forall_mem_cons.mpr ⟨lw_p48, List.forall_mem_cons.mpr ⟨lw_p49, List.forall_mem_cons.mpr ⟨lw_p50, List.forall_mem_cons.mpr ⟨lw_p51, List.forall_mem_cons.mpr ⟨lw_p52, List.forall_mem_cons.mpr ⟨lw_p53, List.forall_mem_cons.mpr ⟨lw_p54, List.forall_mem_cons.mpr ⟨lw_p55, List.forall_mem_cons.mpr ⟨lw_p56, List.forall_mem_cons.mpr ⟨lw_p57, List.forall_mem_cons.mpr ⟨lw_p58, List.forall_mem_cons.mpr ⟨lw_p59, List.forall_mem_cons.mpr ⟨lw_p60, List.forall_mem_cons.mpr ⟨lw_p61, List.forall_mem_cons.mpr ⟨lw_p62, List.forall_mem_cons.mpr ⟨lw_p63, fun _ h => absurd h List.not_mem_nil⟩⟩⟩⟩⟩⟩⟩⟩⟩⟩⟩⟩⟩⟩⟩⟩
theorem lw_p64 : lw_okq (⟨"FairquotaBrokerModel", "starts", "(I)V"⟩, 33) := ⟨⟨by decide +kernel, by decide +kernel⟩, List.mem_of_getElem? (i := 1150) (by decide +kernel), List.mem_of_getElem? (i := 1362) (by decide +kernel), List.mem_of_getElem? (i := 1363) (by decide +kernel)⟩
theorem lw_p65 : lw_okq (⟨"FairquotaBrokerModel", "liveFault", "(I)I"⟩, 33) := ⟨⟨by decide +kernel, by decide +kernel⟩, List.mem_of_getElem? (i := 1150) (by decide +kernel), List.mem_of_getElem? (i := 1402) (by decide +kernel), List.mem_of_getElem? (i := 1403) (by decide +kernel)⟩
theorem lw_p66 : lw_okq (⟨"FairquotaBrokerModel", "isJob", "(I)Z"⟩, 33) := ⟨⟨by decide +kernel, by decide +kernel⟩, List.mem_of_getElem? (i := 1150) (by decide +kernel), List.mem_of_getElem? (i := 1406) (by decide +kernel), List.mem_of_getElem? (i := 1407) (by decide +kernel)⟩
theorem lw_p67 : lw_okq (⟨"FairquotaBrokerModel", "leaves", "(II)V"⟩, 33) := ⟨⟨by decide +kernel, by decide +kernel⟩, List.mem_of_getElem? (i := 1150) (by decide +kernel), List.mem_of_getElem? (i := 1410) (by decide +kernel), List.mem_of_getElem? (i := 1411) (by decide +kernel)⟩
theorem lw_p68 : lw_okq (⟨"FairquotaBrokerModel", "passesOne", "()I"⟩, 33) := ⟨⟨by decide +kernel, by decide +kernel⟩, List.mem_of_getElem? (i := 1150) (by decide +kernel), List.mem_of_getElem? (i := 1418) (by decide +kernel), List.mem_of_getElem? (i := 1419) (by decide +kernel)⟩
theorem lw_p69 : lw_okq (⟨"FairquotaBrokerModel", "leafFault", "(I)I"⟩, 33) := ⟨⟨by decide +kernel, by decide +kernel⟩, List.mem_of_getElem? (i := 1150) (by decide +kernel), List.mem_of_getElem? (i := 1447) (by decide +kernel), List.mem_of_getElem? (i := 1448) (by decide +kernel)⟩
theorem lw_p70 : lw_okq (⟨"FairquotaBrokerModel", "reserveFault", "(IIII)I"⟩, 33) := ⟨⟨by decide +kernel, by decide +kernel⟩, List.mem_of_getElem? (i := 1150) (by decide +kernel), List.mem_of_getElem? (i := 1459) (by decide +kernel), List.mem_of_getElem? (i := 1460) (by decide +kernel)⟩
theorem lw_p71 : lw_okq (⟨"FairquotaBrokerModel", "spanOf", "(III)I"⟩, 33) := ⟨⟨by decide +kernel, by decide +kernel⟩, List.mem_of_getElem? (i := 1150) (by decide +kernel), List.mem_of_getElem? (i := 1463) (by decide +kernel), List.mem_of_getElem? (i := 1464) (by decide +kernel)⟩
theorem lw_p72 : lw_okq (⟨"FairquotaBrokerModel", "sharesBelow", "(I)I"⟩, 33) := ⟨⟨by decide +kernel, by decide +kernel⟩, List.mem_of_getElem? (i := 1150) (by decide +kernel), List.mem_of_getElem? (i := 1516) (by decide +kernel), List.mem_of_getElem? (i := 1517) (by decide +kernel)⟩
def lw_privs_5 : List (MethodName × Nat) := [(⟨"FairquotaBrokerModel", "starts", "(I)V"⟩, 33), (⟨"FairquotaBrokerModel", "liveFault", "(I)I"⟩, 33), (⟨"FairquotaBrokerModel", "isJob", "(I)Z"⟩, 33), (⟨"FairquotaBrokerModel", "leaves", "(II)V"⟩, 33), (⟨"FairquotaBrokerModel", "passesOne", "()I"⟩, 33), (⟨"FairquotaBrokerModel", "leafFault", "(I)I"⟩, 33), (⟨"FairquotaBrokerModel", "reserveFault", "(IIII)I"⟩, 33), (⟨"FairquotaBrokerModel", "spanOf", "(III)I"⟩, 33), (⟨"FairquotaBrokerModel", "sharesBelow", "(I)I"⟩, 33)]
theorem lw_r5 : ∀ q ∈ lw_privs_5, lw_okq q := List.forall_mem_cons.mpr ⟨lw_p64, List.forall_mem_cons.mpr ⟨lw_p65, List.forall_mem_cons.mpr ⟨lw_p66, List.forall_mem_cons.mpr ⟨lw_p67, List.forall_mem_cons.mpr ⟨lw_p68, List.forall_mem_cons.mpr ⟨lw_p69, List.forall_mem_cons.mpr ⟨lw_p70, List.forall_mem_cons.mpr ⟨lw_p71, List.forall_mem_cons.mpr ⟨lw_p72, fun _ h => absurd h List.not_mem_nil⟩⟩⟩⟩⟩⟩⟩⟩⟩
def lw_privs : List (MethodName × Nat) := lw_privs_1 ++ (lw_privs_2 ++ (lw_privs_3 ++ (lw_privs_4 ++ (lw_privs_5))))
def lw_tbl : List Cond := k2_sels lw_privs ++ tables_1
theorem lw_privs_ok : ∀ q ∈ lw_privs, lw_okq q := by
  show ∀ q ∈ lw_privs_1 ++ (lw_privs_2 ++ (lw_privs_3 ++ (lw_privs_4 ++ (lw_privs_5)))), lw_okq q
  exact List.forall_mem_append.mpr ⟨lw_r1, List.forall_mem_append.mpr ⟨lw_r2, List.forall_mem_append.mpr ⟨lw_r3, List.forall_mem_append.mpr ⟨lw_r4, lw_r5⟩⟩⟩⟩
/-- the streams that the claim lets the run draw from -/
abbrev lw_cs : List Choice := [Jvm.Choice.named "NaN.bits"]
theorem lw_bits : nanBits ∈ lw_cs := by first | decide | exact List.mem_cons_self | simp [lw_cs, nanBits]
-- ===== end of PART A; then your names; then what follows =====
/-! ===== BEGIN words of one list among another's, by their places ===== -/
theorem goodIn_r {big : List Cond} (ws : List Cond) (ps : List Nat) (hp : ws = ps.filterMap (fun i => big[i]?)) (h : ws.all goodWord = true) : GoodIn big ws := by
  intro w hw
  have h1 := List.all_eq_true.mp h w hw
  rw [hp] at hw
  obtain ⟨i, -, hi⟩ := List.mem_filterMap.mp hw
  have hm : w ∈ big := by first | exact List.mem_of_getElem? hi | exact List.getElem?_mem hi
  exact ⟨hm, good_of_word h1⟩
theorem goodIn_app {big a b : List Cond} (ha : GoodIn big a) (hb : GoodIn big b) : GoodIn big (a ++ b) := fun w h => (List.mem_append.mp h).elim (ha w) (hb w)
theorem goodIn_ca {big a b : List Cond} {c : Cond} (ha : GoodIn big (c :: a)) (hb : GoodIn big b) : GoodIn big (c :: (a ++ b)) := fun w h => (List.mem_cons.mp h).elim (fun e => ha w (List.mem_cons.mpr (Or.inl e))) (fun h => (List.mem_append.mp h).elim (fun h => ha w (List.mem_cons.mpr (Or.inr h))) (hb w))
theorem goodIn_sub {big ws : List Cond} (hm : ∀ w ∈ ws, w ∈ big) (h : ws.all goodWord = true) : GoodIn big ws := fun w hw => ⟨hm w hw, good_of_word (List.all_eq_true.mp h w hw)⟩
/-! ===== END ===== -/

/-! ===== BEGIN exceptions that leave a method, and their catching by the caller (launches without stack traces) ===== -/
section VXA
/-! The laws vx_back, vx_callV, vx_callS, vx_callSW, vx_throw0, vx_throwS follow proofs of the library, with one case more: JvmDerived/Free/Laws.lean (Back.of_free), Shelf42/LK1.lean (callV, callS), Shelf/KitTraced.lean (throwNew0V, throwNewS). -/
/-- where a method has thrown q: the class by its name, the cell, what was written, the world -/
def vx_T (XC : String → State → State → Prop) (st : State) (q : Addr) (t : State) (mc ms : Nat) (free : Addr → Prop) : Prop :=
  ∃ (E : String) (ce : Cell) (L : List Loc), XC E st t ∧ t.heap[q]? = some ce ∧ ce.vm = .none ∧ st.vm.findClass E = some ce.cls ∧ st.WarmedH t.vm ∧ st.sameButNew ({ t with vm := st.vm } : State) L mc ms ∧ ∀ z ∈ L, free z.base
def vx_Q (Qc : Array Value → State → Outcome → State → Prop) (XC : String → State → State → Prop) (mc ms : Nat) (free : Addr → Prop) : Array Value → State → Outcome → State → Prop := fun a st o t =>
  (Qc a st o t ∧ ∃ L, FrameEnd st o t L mc ms ∧ ∀ q ∈ L, free q.base) ∨ ∃ q, o = .threw q ∧ vx_T XC st q t mc ms free
/-- a callee that returns or throws -/
def vx_Met (l : Launch) (y : MethodName) (ws : List Cond) (rm : Room) (Pc : Array Value → State → Prop) (Qc : Array Value → State → Outcome → State → Prop) (XC : String → State → State → Prop) (mc ms : Nat) (free : Addr → Prop) : Prop :=
  MetFree l y (headSpec ws rm) Pc (fun _ _ _ _ _ => True) (vx_Q Qc XC mc ms free)
def vx_Post (XC : String → State → State → Prop) (mc ms : Nat) (free : Addr → Prop) : Pt → Array Value → Addr → Pt → Prop := fun A a q B =>
  ∃ (g : JFrame) (mk : MethodId) (t : State) (L : List Loc) (E : String) (ce : Cell), B.U.heap = t.heap ∧ B.U.vm = t.vm ∧ XC E (A.U.calling g mk a) t ∧ t.heap[q]? = some ce ∧ ce.vm = .none ∧ A.U.vm.findClass E = some ce.cls ∧ B.locs = A.locs ++ L ∧ (∀ z ∈ L, free z.base) ∧ B.cells = A.cells + mc ∧ B.slots = A.slots + ms
def vx_Back (l : Launch) (R : Room) (p : Program) (e : Env) (below : List Frame) (s : State) (sargs : Array Value) (y : MethodName) (len W9 : Nat)
    (Pre : Pt → Array Value → Prop) (Post : Pt → Array Value → Option Value → Pt → Prop) (PostX : Pt → Array Value → Addr → Pt → Prop) : Prop :=
  ∀ (m : MethodId) (meth : Method) (c : Code) (A : Pt) (g : JFrame) (ig : Instr) (mk : MethodId) (a : Array Value),
    Stand p l e R s m sargs below meth c A.U A.locs A.cells A.slots → g.method = m → g.locals.size = c.maxLocals → decode c.code g.pc = .ok (ig, len) →
    2 * g.monitorRoom + (g.stack.map fun v => v.category).sum ≤ W9 → A.U.methodNamed? y = some mk → Pre A a →
    (∃ (v : Option Value) (B : Pt), Stand p l e R s m sargs below meth c B.U B.locs B.cells B.slots ∧ Post A a v B ∧
      Steps p.tables e below (doInvoke e (A.U.setTop g) [] mk a).1 (B.U.setTop { g with pc := g.pc + len, stack := v.toList ++ g.stack })) ∨
    (∃ (q : Addr) (B : Pt), Stand p l e R s m sargs below meth c B.U B.locs B.cells B.slots ∧ PostX A a q B ∧
      Steps p.tables e below (doInvoke e (A.U.setTop g) [] mk a).1 ((B.U.setTop g).pushFrame (.throwing q)))
section Payer
variable {l : Launch} {R : Room} {p : Program} {e : Env} {below : List Frame} {s : State} {sargs : Array Value} {y : MethodName} {len W9 : Nat}
theorem vx_back {ws : List Cond} {rm : Room} {Pc : Array Value → State → Prop} {Qc : Array Value → State → Outcome → State → Prop} {XC : String → State → State → Prop} {mc ms : Nat} {free : Addr → Prop} {bytes : ByteArray} {maxL : Nat} {ret : Option FieldType}
    (hM : vx_Met l y ws rm Pc Qc XC mc ms free) (hblind : FrameBlind Pc) (hrc : rm.cells = mc) (hrs : rm.slots = ms)
    (hframes : rm.frames + 1 ≤ R.frames) (hlocals : W9 + (maxL + 11) + rm.locals ≤ R.locals)
    (hws : ∀ w ∈ ws, ∀ a' U, s.WarmedH U.vm → w.before a' U = true) (hcode : Cond.code y bytes maxL ret ∈ ws) (hinit : ∀ a' U, s.WarmedH U.vm → (Cond.initialized y.cls).before a' U = true) :
    vx_Back l R p e below s sargs y len W9 (PreOf R mc ms Pc) (PostOf Qc mc ms free) (vx_Post XC mc ms free) := by
  intro m meth c A g ig mk a X hg hsize hdg hW hn hp
  have h1 : (headSpec ws rm).pre.before a A.U = true := atoms_intro fun w hw => hws w hw _ _ X.warmed
  have h2 : (Cond.code y bytes maxL ret).before a A.U = true := hws _ hcode _ _ X.warmed
  have h3 : (Cond.initialized y.cls).before a A.U = true := hinit _ _ X.warmed
  have h4 : A.cells + (headSpec ws rm).room.cells ≤ R.cells := by rw [show (headSpec ws rm).room.cells = mc from hrc]; exact hp.1
  have h5 : A.slots + (headSpec ws rm).room.slots ≤ R.slots := by rw [show (headSpec ws rm).room.slots = ms from hrs]; exact hp.2.1
  have hPc : Pc a (A.U.calling g mk a) := hblind _ _ _ _ hp.2.2
  obtain ⟨U, Ls, c0, s0⟩ := A
  dsimp only [Pt.U, Pt.locs, Pt.cells, Pt.slots] at h1 h2 h3 h4 h5 X hn hPc ⊢
  obtain ⟨methY, cY, hmY, hcY, -, hlY, -, -, -, -⟩ := Cond.code_spec hn h2
  obtain ⟨kY, hkY, -⟩ := className_of_methodNamed hn
  have hinitY : kY.init = .initialized := Cond.initialized_spec (findClass_of_methodNamed hn) hkY h3
  have h : At U g.method c below := by rw [hg]; exact X.here
  have hlocals9 : W9 + (maxL + 11) + (headSpec ws rm).room.locals ≤ R.locals := hlocals
  have happ : (headSpec ws rm).appliesLoose y e.platform (U.calling g mk a) = true :=
    Spec.appliesLoose_calling (g := g) h hdg hn hkY hinitY
      (X.room_calling (g := g) (R' := (headSpec ws rm).room) hsize hmY hcY hframes (by rw [hlY]; omega) h4 h5) h1
  obtain ⟨mid, hmid⟩ := h.above
  have hfr : (U.setTop g).frames = (.java g :: mid) ++ below := by rw [State.frames_setTop' g h.top, hmid]; rfl
  obtain ⟨o, s₂, hsteps, -, hend, hq⟩ := Steps.callFree hM p X.admits X.cas X.clock (acts := []) hfr happ hPc trivial
  have hq' : vx_Q Qc XC mc ms free a (U.calling g mk a) o s₂ := hq
  rw [State.frames_setTop' g h.top] at hend
  obtain ⟨g₀, hg0⟩ := Option.isSome_iff_exists.mp h.top
  obtain ⟨r, hr⟩ := State.topJava?_eq_some.mp hg0
  have hr' : (({ U with heap := s₂.heap, slotsUsed := s₂.slotsUsed } : State).setVm s₂.vm).frames = .java g₀ :: r := hr
  rcases hq' with ⟨hqc, L, hfe, hL⟩ | ⟨q, rfl, E, ce, L, hx, hce, hcv, hcl, hW₂, hsm, hL⟩
  · obtain ⟨⟨v, rfl⟩, hW₂, e2, q2, q3, q4, q5, q6⟩ := id hfe
    have e3 : s₂ = ({ (U.calling g mk a).setFrames s₂.frames with heap := s₂.heap, slotsUsed := s₂.slotsUsed } : State).setVm s₂.vm := by
      have : s₂ = ({ s₂ with vm := (U.calling g mk a).vm } : State).setVm s₂.vm := rfl
      rw [e2] at this
      exact this
    obtain ⟨c₂, i₂, len₂, hc₂, hd₂, hf₂⟩ := hend
    have hW' : U.WarmedH s₂.vm := hW₂
    have hcc : c₂ = c := by
      have h1 : s₂.code? g.method = U.code? g.method := by
        rw [State.code?_eq, State.code?_eq, hW'.alike.method?]
      exact Option.some.inj (hc₂.symm.trans (h1.trans h.code))
    subst hcc
    have hlen : len₂ = len := by rw [hdg] at hd₂; cases hd₂; rfl
    subst hlen
    have hs₂ : s₂ = (({ U with heap := s₂.heap, slotsUsed := s₂.slotsUsed } : State).setVm s₂.vm).setTop { g with pc := g.pc + len₂, stack := v.toList ++ g.stack } := by
      refine e3.trans ?_
      rw [hf₂, State.calling_eq h.top, State.setFrames_setFrames, State.setTop_of_frames _ hr', hr]
      rfl
    have hsame : U.sameButNew ({ U with heap := s₂.heap, slotsUsed := s₂.slotsUsed } : State) L mc ms := by
      refine ⟨?_, q2, q3, q4, q5, q6⟩
      obtain ⟨t, ht, -⟩ := State.frames_cons hr
      show ({ U with heap := s₂.heap, slotsUsed := s₂.slotsUsed } : State) = { U.setFrames U.frames with heap := s₂.heap, slotsUsed := s₂.slotsUsed }
      rw [State.setFrames_self ht]
    subst hg
    refine Or.inl ⟨v, ⟨(({ U with heap := s₂.heap, slotsUsed := s₂.slotsUsed } : State).setVm s₂.vm), Ls ++ L, c0 + mc, s0 + ms⟩,
      ⟨X.admits, X.cas, X.clock, X.frames, X.room, X.hears, X.method, X.code, (X.here.setHeapUsed s₂.heap s₂.slotsUsed).setVm hW'.alike, X.tail, State.WarmedH.trans X.warmed hW', X.limits, X.bytes, X.same.trans (hsame.setVm s.vm)⟩,
      ⟨g, mk, s₂, L, rfl, rfl, hqc, rfl, hL, rfl, rfl⟩, ?_⟩
    show Steps p.tables e below _ ((({ U with heap := s₂.heap, slotsUsed := s₂.slotsUsed } : State).setVm s₂.vm).setTop { g with pc := g.pc + len₂, stack := v.toList ++ g.stack })
    rw [← hs₂]
    exact hsteps
  · obtain ⟨e2, q2, q3, q4, q5, q6⟩ := id hsm
    have e3 : s₂ = ({ (U.calling g mk a).setFrames s₂.frames with heap := s₂.heap, slotsUsed := s₂.slotsUsed } : State).setVm s₂.vm := by
      have : s₂ = ({ s₂ with vm := (U.calling g mk a).vm } : State).setVm s₂.vm := rfl
      rw [e2] at this
      exact this
    have hf₂ : s₂.frames = .throwing q :: .java g :: U.frames.tail := hend
    have hW' : U.WarmedH s₂.vm := hW₂
    have hs₂ : s₂ = ((({ U with heap := s₂.heap, slotsUsed := s₂.slotsUsed } : State).setVm s₂.vm).setTop g).pushFrame (.throwing q) := by
      refine e3.trans ?_
      rw [hf₂, State.calling_eq h.top, State.setFrames_setFrames, State.pushFrame, State.frames_setTop _ hr', State.setTop_of_frames _ hr', State.setFrames_setFrames, hr]
      rfl
    have hsame : U.sameButNew ({ U with heap := s₂.heap, slotsUsed := s₂.slotsUsed } : State) L mc ms := by
      refine ⟨?_, q2, q3, q4, q5, q6⟩
      obtain ⟨t, ht, -⟩ := State.frames_cons hr
      show ({ U with heap := s₂.heap, slotsUsed := s₂.slotsUsed } : State) = { U.setFrames U.frames with heap := s₂.heap, slotsUsed := s₂.slotsUsed }
      rw [State.setFrames_self ht]
    subst hg
    refine Or.inr ⟨q, ⟨(({ U with heap := s₂.heap, slotsUsed := s₂.slotsUsed } : State).setVm s₂.vm), Ls ++ L, c0 + mc, s0 + ms⟩,
      ⟨X.admits, X.cas, X.clock, X.frames, X.room, X.hears, X.method, X.code, (X.here.setHeapUsed s₂.heap s₂.slotsUsed).setVm hW'.alike, X.tail, State.WarmedH.trans X.warmed hW', X.limits, X.bytes, X.same.trans (hsame.setVm s.vm)⟩,
      ⟨g, mk, s₂, L, E, ce, rfl, rfl, hx, hce, hcv, hcl, rfl, hL, rfl, rfl⟩, ?_⟩
    show Steps p.tables e below _ (((({ U with heap := s₂.heap, slotsUsed := s₂.slotsUsed } : State).setVm s₂.vm).setTop g).pushFrame (.throwing q))
    rw [← hs₂]
    exact hsteps
end Payer
section Calls
variable {p : Program} {l : Launch} {e : Env} {R : Room} {s : State} {m : MethodId} {args : Array Value} {below : List Frame} {meth : Method} {c : Code} {T : State} {locs : List Loc} {cells slots : Nat}
theorem vx_callV (X : Stand p l e R s m args below meth c T locs cells slots) (hexec : p.tables.exec = Jvm.exec) {own C : String} {index : Nat} {y : MethodName} {bytes : ByteArray} {maxL : Nat} {ret : Option FieldType}
    (hown : s.vm.findClass own = some m.cls) (hlink : (Cond.methodLink own index y).before args s = true) (hinst : (Cond.instanceMethod y).before args s = true) (hsel : (Cond.selects C y y).before args s = true)
    (hcode : (Cond.code y bytes maxL ret).before args s = true) (hy : y.cls ≠ "java/lang/invoke/MethodHandle" ∧ y.cls ≠ "java/lang/invoke/VarHandle")
    {W9 : Nat} {Pre : Pt → Array Value → Prop} {Post : Pt → Array Value → Option Value → Pt → Prop} {PostX : Pt → Array Value → Addr → Pt → Prop} (hK : vx_Back l R p e below s args y 3 W9 Pre Post PostX)
    {b : Addr} {cellB : Cell} (hcell : T.heap[b]? = some cellB) (hobj : cellB.vm.isStatics = false) (hcls : s.vm.findClass C = some cellB.cls)
    {g : JFrame} (hg : g.method = m) (hsize : g.locals.size = c.maxLocals) {argsL rest : List Value} (hlen : ∀ sig, parseMethodDescriptor y.desc = some sig → argsL.length = sig.parameters.length)
    (hstack : g.stack = argsL.reverse ++ .ref b :: rest) (hW : 2 * g.monitorRoom + (rest.map fun v => v.category).sum ≤ W9) (hdg : decode c.code g.pc = .ok (.invokevirtual index, 3))
    (hpre : ∀ vm₁, s.WarmedH vm₁ → Pre ⟨T.setVm vm₁, locs, cells, slots⟩ (Value.ref b :: argsL).toArray) :
    (∃ (v : Option Value) (vm₁ : Vm) (B : Pt), s.WarmedH vm₁ ∧ Stand p l e R s m args below meth c B.U B.locs B.cells B.slots ∧ Post ⟨T.setVm vm₁, locs, cells, slots⟩ (Value.ref b :: argsL).toArray v B ∧
      ∀ target, Steps p.tables e below (B.U.setTop { g with pc := g.pc + 3, stack := v.toList ++ rest }) target → Steps p.tables e below (T.setTop g) target) ∨
    (∃ (q : Addr) (vm₁ : Vm) (B : Pt), s.WarmedH vm₁ ∧ Stand p l e R s m args below meth c B.U B.locs B.cells B.slots ∧ PostX ⟨T.setVm vm₁, locs, cells, slots⟩ (Value.ref b :: argsL).toArray q B ∧
      Steps p.tables e below (T.setTop g) ((B.U.setTop { g with stack := rest }).pushFrame (.throwing q))) := by
  obtain ⟨mk, methM, hnamed, hmethM, hstM, habM⟩ := Cond.instanceMethod_spec hinst
  obtain ⟨methM', cM, hmethM', -, -, -, -, -, -, hsigM⟩ := Cond.code_spec hnamed hcode
  cases hmethM.symm.trans hmethM'
  obtain ⟨c2, r2, m2, q1, q2, q3, q4, kP, hkP, hkPi⟩ := Cond.selects_spec hsel
  cases hcls.symm.trans q1
  cases (State.methodFound?_of_named hnamed hy).symm.trans q2
  cases hnamed.symm.trans q3
  have hselP : selectMethod e.platform s.vm cellB.cls mk = .method mk := by rw [Launch.admits_selectMethod X.admits]; exact q4
  obtain ⟨vm₁, X₁, hstep₁⟩ := X.invokevirtual hexec hown hlink hnamed hmethM hstM hkP hkPi hy (a := b) (cell := cellB) hcell
    (fun z h => by rw [h] at hobj; cases hobj) hselP hmethM habM hkP hkPi (g := g) hg (argsL := argsL) (rest := rest) (hlen _ hsigM) hstack hdg
  rcases hK m meth c ⟨T.setVm vm₁, locs, cells, slots⟩ { g with stack := rest } (.invokevirtual index) mk (Value.ref b :: argsL).toArray X₁ hg hsize hdg hW (X₁.named hnamed) (hpre vm₁ X₁.warmed) with ⟨v, B, X', hpost, hsteps⟩ | ⟨q, B, X', hpost, hsteps⟩
  · exact Or.inl ⟨v, vm₁, B, X₁.warmed, X', hpost, fun target h => hstep₁ _ fun acts => by rw [doInvoke_state]; exact hsteps.trans h⟩
  · exact Or.inr ⟨q, vm₁, B, X₁.warmed, X', hpost, hstep₁ _ fun acts => by rw [doInvoke_state]; exact hsteps⟩
theorem vx_callS (X : Stand p l e R s m args below meth c T locs cells slots) (hexec : p.tables.exec = Jvm.exec) {own : String} {index : Nat} {y : MethodName} {bytes : ByteArray} {maxL : Nat} {ret : Option FieldType}
    (hown : s.vm.findClass own = some m.cls) (hlink : (Cond.methodLink own index y).before args s = true) (hstat : (Cond.static y).before args s = true) (hinit : (Cond.initialized y.cls).before args s = true)
    (hcode : (Cond.code y bytes maxL ret).before args s = true) (hy : y.cls ≠ "java/lang/invoke/MethodHandle" ∧ y.cls ≠ "java/lang/invoke/VarHandle")
    {W9 : Nat} {Pre : Pt → Array Value → Prop} {Post : Pt → Array Value → Option Value → Pt → Prop} {PostX : Pt → Array Value → Addr → Pt → Prop} (hK : vx_Back l R p e below s args y 3 W9 Pre Post PostX)
    {g : JFrame} (hg : g.method = m) (hsize : g.locals.size = c.maxLocals) {argsL rest : List Value} (hlen : ∀ sig, parseMethodDescriptor y.desc = some sig → argsL.length = sig.parameters.length)
    (hstack : g.stack = argsL.reverse ++ rest) (hW : 2 * g.monitorRoom + (rest.map fun v => v.category).sum ≤ W9) (hdg : decode c.code g.pc = .ok (.invokestatic index, 3))
    (hpre : ∀ vm₁, s.WarmedH vm₁ → Pre ⟨T.setVm vm₁, locs, cells, slots⟩ argsL.toArray) :
    (∃ (v : Option Value) (vm₁ : Vm) (B : Pt), s.WarmedH vm₁ ∧ Stand p l e R s m args below meth c B.U B.locs B.cells B.slots ∧ Post ⟨T.setVm vm₁, locs, cells, slots⟩ argsL.toArray v B ∧
      ∀ target, Steps p.tables e below (B.U.setTop { g with pc := g.pc + 3, stack := v.toList ++ rest }) target → Steps p.tables e below (T.setTop g) target) ∨
    (∃ (q : Addr) (vm₁ : Vm) (B : Pt), s.WarmedH vm₁ ∧ Stand p l e R s m args below meth c B.U B.locs B.cells B.slots ∧ PostX ⟨T.setVm vm₁, locs, cells, slots⟩ argsL.toArray q B ∧
      Steps p.tables e below (T.setTop g) ((B.U.setTop { g with stack := rest }).pushFrame (.throwing q))) := by
  obtain ⟨mk, hnamed⟩ := Cond.code_named hcode
  obtain ⟨methM, cM, hmethM, -, -, -, -, -, -, hsigM⟩ := Cond.code_spec hnamed hcode
  have hstatic : methM.isStatic = true := Cond.static_spec hnamed hmethM hstat
  obtain ⟨kP, hkP, -⟩ := className_of_methodNamed hnamed
  have hinitP : kP.init = .initialized := Cond.initialized_spec (findClass_of_methodNamed hnamed) hkP hinit
  obtain ⟨vm₁, X₁, hstep₁⟩ := X.invokestatic hexec hown hlink hnamed hmethM hstatic hkP hinitP hy (g := g) hg (argsL := argsL) (rest := rest) (hlen _ hsigM) hstack hdg
  rcases hK m meth c ⟨T.setVm vm₁, locs, cells, slots⟩ { g with stack := rest } (.invokestatic index) mk argsL.toArray X₁ hg hsize hdg hW (X₁.named hnamed) (hpre vm₁ X₁.warmed) with ⟨v, B, X', hpost, hsteps⟩ | ⟨q, B, X', hpost, hsteps⟩
  · exact Or.inl ⟨v, vm₁, B, X₁.warmed, X', hpost, fun target h => hstep₁ _ fun acts => by rw [doInvoke_state]; exact hsteps.trans h⟩
  · exact Or.inr ⟨q, vm₁, B, X₁.warmed, X', hpost, hstep₁ _ fun acts => by rw [doInvoke_state]; exact hsteps⟩
end Calls
theorem vx_cls {s : State} {T : State} {vm₁ : Vm} {E : String} {k : ClassId} (hW : s.WarmedH vm₁) (h : (T.setVm vm₁).vm.findClass E = some k) : s.vm.findClass E = some k := by
  have h1 : vm₁.findClass E = some k := h
  rw [hW.alike.findClass] at h1
  exact h1
/-- the method's frame g, with q thrown over it -/
def vx_W (p : Program) (l : Launch) (e : Env) (R : Room) (s : State) (m : MethodId) (args : Array Value) (below : List Frame) (meth : Method) (c : Code) (H : Heap) (locs : List Loc) (cells slots : Nat) (Q : State → Prop) (g : JFrame) (q : Addr) : Prop :=
  ∀ T : State, T.heap = H → Stand p l e R s m args below meth c T locs cells slots → ∃ t, Steps p.tables e below ((T.setTop g).pushFrame (.throwing q)) t ∧ Q t
def vx_Run (p : Program) (l : Launch) (e : Env) (R : Room) (s : State) (m : MethodId) (args : Array Value) (below : List Frame) (meth : Method) (c : Code) (H : Heap) (locs : List Loc) (cells slots mc ms : Nat) (g : JFrame) (rest : List Value) (Qa : State → Outcome → State → Prop) (XC : String → State → State → Prop) (free : Addr → Prop) : Prop :=
  ∀ T : State, T.heap = H → Stand p l e R s m args below meth c T locs cells slots →
    (∃ (v : Option Value) (st₀ t T' : State) (L : List Loc), st₀.heap = H ∧ Stand p l e R s m args below meth c T' (locs ++ L) (cells + mc) (slots + ms) ∧ (∀ q ∈ L, free q.base) ∧ T'.heap = t.heap ∧ T'.vm = t.vm ∧ Qa st₀ (.returned v) t ∧
      Goes p e below T g T' { g with pc := g.pc + 3, stack := v.toList ++ rest }) ∨
    (∃ (q : Addr) (st₀ t T' : State) (L : List Loc) (E : String) (ce : Cell), st₀.heap = H ∧ Stand p l e R s m args below meth c T' (locs ++ L) (cells + mc) (slots + ms) ∧ (∀ z ∈ L, free z.base) ∧ T'.heap = t.heap ∧ T'.vm = t.vm ∧ XC E st₀ t ∧ t.heap[q]? = some ce ∧ ce.vm = .none ∧ s.vm.findClass E = some ce.cls ∧
      Steps p.tables e below (T.setTop g) ((T'.setTop { g with stack := rest }).pushFrame (.throwing q)))
def vx_X {S : Type} (px : S → Prop) (B : String → S → State → Prop) (A : Nat → Prop) : String → State → State → Prop := fun E st t => ∃ u : S, px u ∧ B E u t ∧ va_F A st t
section Runs
variable {p : Program} {l : Launch} {e : Env} {R : Room} {s : State} {m : MethodId} {args : Array Value} {below : List Frame} {meth : Method} {c : Code} {H : Heap} {locs : List Loc} {cells slots : Nat}
variable {y : MethodName} {bytes cc : ByteArray} {maxL nL mc ms n index : Nat} {ret : Option FieldType} {ws : List Cond} {rm : Room} {Pc : Array Value → State → Prop} {Qc : Array Value → State → Outcome → State → Prop} {XC : String → State → State → Prop} {free : Addr → Prop} {Ts : List Cond} {own C : String} {b : Addr} {As rest : List Value} {g : JFrame}
theorem vx_callBack (cb : CallB R s args own index y bytes maxL ret ws rm mc ms n) (hM : vx_Met l y ws rm Pc Qc XC mc ms free) (hbl : FrameBlind Pc) : vx_Back l R p e below s args y 3 8 (PreOf R mc ms Pc) (PostOf Qc mc ms free) (vx_Post XC mc ms free) := by
  obtain ⟨hrc, hrs, hfr, hlo, hws, hcw, -, hini, -⟩ := cb
  exact vx_back (bytes := bytes) (maxL := maxL) (ret := ret) hM hbl hrc hrs hfr hlo hws hcw (fun a' U hW => word_at hW (Or.inl (by first | rfl | simp [Cond.onTables, Cond.keeps, Cond.steady])) hini)
theorem vx_runV (S : CallFix p m c cc nL s args Ts own) (hM : vx_Met l y ws rm Pc Qc XC mc ms free) (cw : CallW R s args own C index y bytes maxL ret ws rm mc ms n) (hp : PreV s H C b Pc As)
    (hg : g.method = m) (hn : As.length = n) (hsize : g.locals.size = nL) (hstack : g.stack = As.reverse ++ .ref b :: rest) (hW : 2 * g.monitorRoom + (rest.map fun v => v.category).sum ≤ 8) (hdg : decode cc g.pc = .ok (.invokevirtual index, 3)) (hf : cells + mc ≤ R.cells ∧ slots + ms ≤ R.slots) :
    vx_Run p l e R s m args below meth c H locs cells slots mc ms g rest (Qc (Value.ref b :: As).toArray) XC free := by
  have hK : vx_Back l R p e below s args y 3 8 (PreOf R mc ms Pc) (PostOf Qc mc ms free) (vx_Post XC mc ms free) := vx_callBack cw.1 hM hp.1
  obtain ⟨⟨-, -, -, -, -, -, hcode, -, hy, hlen, hl⟩, hin, hse⟩ := cw
  obtain ⟨hx, hb, hml, ho, -⟩ := S
  obtain ⟨-, ⟨cellB, hcB, hoB, hclB⟩, hPc⟩ := hp
  intro T hT X
  rcases vx_callV X hx (C := C) (bytes := bytes) (maxL := maxL) (ret := ret) ho hl hin hse hcode hy hK (by rw [hT]; exact hcB) hoB hclB hg (hsize.trans hml.symm) (argsL := As) (rest := rest) (fun sig h => hn.trans (hlen sig h)) hstack hW (by rw [hb]; exact hdg)
    (fun vm₁ hW₁ => ⟨hf.1, hf.2, hPc (T.setVm vm₁) hT hW₁⟩) with ⟨v, vm₁, ⟨U', l2, c2, s2⟩, hW₁, X', ⟨g', mk, t, L, e1, e2, hq, h1, hL, h2, h3⟩, st⟩ | ⟨q, vm₁, ⟨U', l2, c2, s2⟩, hW₁, X', ⟨g', mk, t, L, E, ce, e1, e2, hq, hce, hcv, hcl, h1, hL, h2, h3⟩, st⟩
  · dsimp only [Pt.U, Pt.locs, Pt.cells, Pt.slots] at X' e1 e2 h1 h2 h3 st
    subst h1; subst h2; subst h3
    exact Or.inl ⟨v, (T.setVm vm₁).calling g' mk (Value.ref b :: As).toArray, t, U', L, hT, X', hL, e1, e2, hq, st⟩
  · dsimp only [Pt.U, Pt.locs, Pt.cells, Pt.slots] at X' e1 e2 h1 h2 h3 st hcl
    subst h1; subst h2; subst h3
    exact Or.inr ⟨q, (T.setVm vm₁).calling g' mk (Value.ref b :: As).toArray, t, U', L, E, ce, hT, X', hL, e1, e2, hq, hce, hcv, vx_cls hW₁ hcl, st⟩
theorem vx_runS (S : CallFix p m c cc nL s args Ts own) (hM : vx_Met l y ws rm Pc Qc XC mc ms free) (cw : CallB R s args own index y bytes maxL ret ws rm mc ms n ∧ (Cond.static y).before args s = true) (hp : PreS s H Pc As)
    (hg : g.method = m) (hn : As.length = n) (hsize : g.locals.size = nL) (hstack : g.stack = As.reverse ++ rest) (hW : 2 * g.monitorRoom + (rest.map fun v => v.category).sum ≤ 8) (hdg : decode cc g.pc = .ok (.invokestatic index, 3)) (hf : cells + mc ≤ R.cells ∧ slots + ms ≤ R.slots) :
    vx_Run p l e R s m args below meth c H locs cells slots mc ms g rest (Qc As.toArray) XC free := by
  have hK : vx_Back l R p e below s args y 3 8 (PreOf R mc ms Pc) (PostOf Qc mc ms free) (vx_Post XC mc ms free) := vx_callBack cw.1 hM hp.1
  obtain ⟨⟨-, -, -, -, -, -, hcode, hini, hy, hlen, hl⟩, hstt⟩ := cw
  obtain ⟨hx, hb, hml, ho, -⟩ := S
  intro T hT X
  rcases vx_callS X hx (bytes := bytes) (maxL := maxL) (ret := ret) ho hl hstt hini hcode hy hK hg (hsize.trans hml.symm) (argsL := As) (rest := rest) (fun sig h => hn.trans (hlen sig h)) hstack hW (by rw [hb]; exact hdg)
    (fun vm₁ hW₁ => ⟨hf.1, hf.2, hp.2 (T.setVm vm₁) hT hW₁⟩) with ⟨v, vm₁, ⟨U', l2, c2, s2⟩, hW₁, X', ⟨g', mk, t, L, e1, e2, hq, h1, hL, h2, h3⟩, st⟩ | ⟨q, vm₁, ⟨U', l2, c2, s2⟩, hW₁, X', ⟨g', mk, t, L, E, ce, e1, e2, hq, hce, hcv, hcl, h1, hL, h2, h3⟩, st⟩
  · dsimp only [Pt.U, Pt.locs, Pt.cells, Pt.slots] at X' e1 e2 h1 h2 h3 st
    subst h1; subst h2; subst h3
    exact Or.inl ⟨v, (T.setVm vm₁).calling g' mk As.toArray, t, U', L, hT, X', hL, e1, e2, hq, st⟩
  · dsimp only [Pt.U, Pt.locs, Pt.cells, Pt.slots] at X' e1 e2 h1 h2 h3 st hcl
    subst h1; subst h2; subst h3
    exact Or.inr ⟨q, (T.setVm vm₁).calling g' mk As.toArray, t, U', L, E, ce, hT, X', hL, e1, e2, hq, hce, hcv, vx_cls hW₁ hcl, st⟩
end Runs
section Rows
variable {p : Program} {l : Launch} {e : Env} {R : Room} {s : State} {m : MethodId} {args : Array Value} {below : List Frame} {meth : Method} {c : Code} {H : Heap} {locs : List Loc} {cells slots : Nat} {Q : State → Prop}
variable {mc ms : Nat} {free : Addr → Prop} {A0 A1 : Nat → Prop} {H0 : Heap} {a : Array Value} {pc : Nat} {ls : Array Slot} {st0 rest : List Value}
theorem vx_keep {st₀ t T' : State} {L : List Loc} (h0 : st₀.heap = H) (e1 : T'.heap = t.heap) (hS : va_S A0 H0 H locs) (hA : ∀ q, q < H.size → A1 q → A0 q) (hf : ∀ q, free q → A0 q) (hL : ∀ q ∈ L, free q.base) (hF : va_F A1 st₀ t) :
    H.size ≤ T'.heap.size ∧ (∀ q : Nat, q < H.size → ¬ A1 q → T'.heap[q]? = H[q]?) ∧ va_S A0 H0 T'.heap (locs ++ L) := by
  obtain ⟨hz, hk⟩ := hF
  rw [h0] at hz hk
  exact ⟨by rw [e1]; exact hz, fun q h1 h2 => by rw [e1]; exact hk q h1 h2,
    ⟨Nat.le_trans hS.1 (by rw [e1]; exact hz), fun q h1 h2 => by rw [e1, hk q (Nat.lt_of_lt_of_le h1 hS.1) (fun z => h2 (hA q (Nat.lt_of_lt_of_le h1 hS.1) z))]; exact hS.2.1 q h1 h2, fun q hq => by
      rcases List.mem_append.mp hq with h | h
      · exact hS.2.2 q h
      · exact hf _ (hL q h)⟩⟩
theorem vx_calli {S SX : Type} {post : Int32 → S → Prop} {px : SX → Prop} {B : S → State → Prop} {BX : String → SX → State → Prop} {AX : Nat → Prop} (hr : vx_Run p l e R s m args below meth c H locs cells slots mc ms (F0 m pc ls st0) rest (va_Qi post B A1 a) (vx_X px BX AX) free) (hS : va_S A0 H0 H locs) (hA : ∀ q, q < H.size → A1 q → A0 q) (hf : ∀ q, free q → A0 q) (hAX : ∀ q, q < H.size → AX q → A0 q)
    (kx : ∀ (E : String) (ce : Cell) (q9 : Addr) (u : SX) (t : State) (H1 : Heap) (locs1 : List Loc), t.heap = H1 → s.vm.Alike t.vm → px u → BX E u t → H.size ≤ H1.size → (∀ q : Nat, q < H.size → ¬ AX q → H1[q]? = H[q]?) → va_S A0 H0 H1 locs1 → H1[q9]? = some ce → ce.vm = .none → s.vm.findClass E = some ce.cls → vx_W p l e R s m args below meth c H1 locs1 (cells + mc) (slots + ms) Q (F0 m pc ls rest) q9)
    (kk : ∀ (r : Int32) (u : S) (t : State) (H1 : Heap) (locs1 : List Loc), t.heap = H1 → s.vm.Alike t.vm → post r u → B u t → H.size ≤ H1.size → (∀ q : Nat, q < H.size → ¬ A1 q → H1[q]? = H[q]?) → va_S A0 H0 H1 locs1 → W p l e R s m args below meth c H1 locs1 (cells + mc) (slots + ms) Q (F0 m (pc + 3) ls (.int r :: rest))) : W p l e R s m args below meth c H locs cells slots Q (F0 m pc ls st0) := by
  intro T hT X
  rcases hr T hT X with ⟨v, st₀, t, T', L, h0, X', hL, e1, e2, ⟨⟨r, u, hv, hp, hb⟩, hF⟩, st⟩ | ⟨q, st₀, t, T', L, E, ce, h0, X', hL, e1, e2, ⟨u, hp, hb, hF⟩, hce, hcv, hcl, st⟩
  · cases hv
    obtain ⟨k1, k2, k3⟩ := vx_keep h0 e1 hS hA hf hL hF
    obtain ⟨t2, a1, b1⟩ := kk r u t T'.heap (locs ++ L) e1.symm (by rw [← e2]; exact X'.warmed.alike) hp hb k1 k2 k3 T' rfl X'
    exact ⟨t2, st t2 a1, b1⟩
  · obtain ⟨k1, k2, k3⟩ := vx_keep h0 e1 hS hAX hf hL hF
    obtain ⟨t2, a1, b1⟩ := kx E ce q u t T'.heap (locs ++ L) e1.symm (by rw [← e2]; exact X'.warmed.alike) hp hb k1 k2 k3 (by rw [e1]; exact hce) hcv hcl T' rfl X'
    exact ⟨t2, st.trans a1, b1⟩
theorem vx_calll {S SX : Type} {post : Int64 → S → Prop} {px : SX → Prop} {B : S → State → Prop} {BX : String → SX → State → Prop} {AX : Nat → Prop} (hr : vx_Run p l e R s m args below meth c H locs cells slots mc ms (F0 m pc ls st0) rest (va_Ql post B A1 a) (vx_X px BX AX) free) (hS : va_S A0 H0 H locs) (hA : ∀ q, q < H.size → A1 q → A0 q) (hf : ∀ q, free q → A0 q) (hAX : ∀ q, q < H.size → AX q → A0 q)
    (kx : ∀ (E : String) (ce : Cell) (q9 : Addr) (u : SX) (t : State) (H1 : Heap) (locs1 : List Loc), t.heap = H1 → s.vm.Alike t.vm → px u → BX E u t → H.size ≤ H1.size → (∀ q : Nat, q < H.size → ¬ AX q → H1[q]? = H[q]?) → va_S A0 H0 H1 locs1 → H1[q9]? = some ce → ce.vm = .none → s.vm.findClass E = some ce.cls → vx_W p l e R s m args below meth c H1 locs1 (cells + mc) (slots + ms) Q (F0 m pc ls rest) q9)
    (kk : ∀ (r : Int64) (u : S) (t : State) (H1 : Heap) (locs1 : List Loc), t.heap = H1 → s.vm.Alike t.vm → post r u → B u t → H.size ≤ H1.size → (∀ q : Nat, q < H.size → ¬ A1 q → H1[q]? = H[q]?) → va_S A0 H0 H1 locs1 → W p l e R s m args below meth c H1 locs1 (cells + mc) (slots + ms) Q (F0 m (pc + 3) ls (.long r :: rest))) : W p l e R s m args below meth c H locs cells slots Q (F0 m pc ls st0) := by
  intro T hT X
  rcases hr T hT X with ⟨v, st₀, t, T', L, h0, X', hL, e1, e2, ⟨⟨r, u, hv, hp, hb⟩, hF⟩, st⟩ | ⟨q, st₀, t, T', L, E, ce, h0, X', hL, e1, e2, ⟨u, hp, hb, hF⟩, hce, hcv, hcl, st⟩
  · cases hv
    obtain ⟨k1, k2, k3⟩ := vx_keep h0 e1 hS hA hf hL hF
    obtain ⟨t2, a1, b1⟩ := kk r u t T'.heap (locs ++ L) e1.symm (by rw [← e2]; exact X'.warmed.alike) hp hb k1 k2 k3 T' rfl X'
    exact ⟨t2, st t2 a1, b1⟩
  · obtain ⟨k1, k2, k3⟩ := vx_keep h0 e1 hS hAX hf hL hF
    obtain ⟨t2, a1, b1⟩ := kx E ce q u t T'.heap (locs ++ L) e1.symm (by rw [← e2]; exact X'.warmed.alike) hp hb k1 k2 k3 (by rw [e1]; exact hce) hcv hcl T' rfl X'
    exact ⟨t2, st.trans a1, b1⟩
theorem vx_callf {S SX : Type} {post : UInt32 → S → Prop} {px : SX → Prop} {B : S → State → Prop} {BX : String → SX → State → Prop} {AX : Nat → Prop} (hr : vx_Run p l e R s m args below meth c H locs cells slots mc ms (F0 m pc ls st0) rest (va_Qf post B A1 a) (vx_X px BX AX) free) (hS : va_S A0 H0 H locs) (hA : ∀ q, q < H.size → A1 q → A0 q) (hf : ∀ q, free q → A0 q) (hAX : ∀ q, q < H.size → AX q → A0 q)
    (kx : ∀ (E : String) (ce : Cell) (q9 : Addr) (u : SX) (t : State) (H1 : Heap) (locs1 : List Loc), t.heap = H1 → s.vm.Alike t.vm → px u → BX E u t → H.size ≤ H1.size → (∀ q : Nat, q < H.size → ¬ AX q → H1[q]? = H[q]?) → va_S A0 H0 H1 locs1 → H1[q9]? = some ce → ce.vm = .none → s.vm.findClass E = some ce.cls → vx_W p l e R s m args below meth c H1 locs1 (cells + mc) (slots + ms) Q (F0 m pc ls rest) q9)
    (kk : ∀ (r : UInt32) (u : S) (t : State) (H1 : Heap) (locs1 : List Loc), t.heap = H1 → s.vm.Alike t.vm → post r u → B u t → H.size ≤ H1.size → (∀ q : Nat, q < H.size → ¬ A1 q → H1[q]? = H[q]?) → va_S A0 H0 H1 locs1 → W p l e R s m args below meth c H1 locs1 (cells + mc) (slots + ms) Q (F0 m (pc + 3) ls (.float r :: rest))) : W p l e R s m args below meth c H locs cells slots Q (F0 m pc ls st0) := by
  intro T hT X
  rcases hr T hT X with ⟨v, st₀, t, T', L, h0, X', hL, e1, e2, ⟨⟨r, u, hv, hp, hb⟩, hF⟩, st⟩ | ⟨q, st₀, t, T', L, E, ce, h0, X', hL, e1, e2, ⟨u, hp, hb, hF⟩, hce, hcv, hcl, st⟩
  · cases hv
    obtain ⟨k1, k2, k3⟩ := vx_keep h0 e1 hS hA hf hL hF
    obtain ⟨t2, a1, b1⟩ := kk r u t T'.heap (locs ++ L) e1.symm (by rw [← e2]; exact X'.warmed.alike) hp hb k1 k2 k3 T' rfl X'
    exact ⟨t2, st t2 a1, b1⟩
  · obtain ⟨k1, k2, k3⟩ := vx_keep h0 e1 hS hAX hf hL hF
    obtain ⟨t2, a1, b1⟩ := kx E ce q u t T'.heap (locs ++ L) e1.symm (by rw [← e2]; exact X'.warmed.alike) hp hb k1 k2 k3 (by rw [e1]; exact hce) hcv hcl T' rfl X'
    exact ⟨t2, st.trans a1, b1⟩
theorem vx_calld {S SX : Type} {post : UInt64 → S → Prop} {px : SX → Prop} {B : S → State → Prop} {BX : String → SX → State → Prop} {AX : Nat → Prop} (hr : vx_Run p l e R s m args below meth c H locs cells slots mc ms (F0 m pc ls st0) rest (va_Qd post B A1 a) (vx_X px BX AX) free) (hS : va_S A0 H0 H locs) (hA : ∀ q, q < H.size → A1 q → A0 q) (hf : ∀ q, free q → A0 q) (hAX : ∀ q, q < H.size → AX q → A0 q)
    (kx : ∀ (E : String) (ce : Cell) (q9 : Addr) (u : SX) (t : State) (H1 : Heap) (locs1 : List Loc), t.heap = H1 → s.vm.Alike t.vm → px u → BX E u t → H.size ≤ H1.size → (∀ q : Nat, q < H.size → ¬ AX q → H1[q]? = H[q]?) → va_S A0 H0 H1 locs1 → H1[q9]? = some ce → ce.vm = .none → s.vm.findClass E = some ce.cls → vx_W p l e R s m args below meth c H1 locs1 (cells + mc) (slots + ms) Q (F0 m pc ls rest) q9)
    (kk : ∀ (r : UInt64) (u : S) (t : State) (H1 : Heap) (locs1 : List Loc), t.heap = H1 → s.vm.Alike t.vm → post r u → B u t → H.size ≤ H1.size → (∀ q : Nat, q < H.size → ¬ A1 q → H1[q]? = H[q]?) → va_S A0 H0 H1 locs1 → W p l e R s m args below meth c H1 locs1 (cells + mc) (slots + ms) Q (F0 m (pc + 3) ls (.double r :: rest))) : W p l e R s m args below meth c H locs cells slots Q (F0 m pc ls st0) := by
  intro T hT X
  rcases hr T hT X with ⟨v, st₀, t, T', L, h0, X', hL, e1, e2, ⟨⟨r, u, hv, hp, hb⟩, hF⟩, st⟩ | ⟨q, st₀, t, T', L, E, ce, h0, X', hL, e1, e2, ⟨u, hp, hb, hF⟩, hce, hcv, hcl, st⟩
  · cases hv
    obtain ⟨k1, k2, k3⟩ := vx_keep h0 e1 hS hA hf hL hF
    obtain ⟨t2, a1, b1⟩ := kk r u t T'.heap (locs ++ L) e1.symm (by rw [← e2]; exact X'.warmed.alike) hp hb k1 k2 k3 T' rfl X'
    exact ⟨t2, st t2 a1, b1⟩
  · obtain ⟨k1, k2, k3⟩ := vx_keep h0 e1 hS hAX hf hL hF
    obtain ⟨t2, a1, b1⟩ := kx E ce q u t T'.heap (locs ++ L) e1.symm (by rw [← e2]; exact X'.warmed.alike) hp hb k1 k2 k3 (by rw [e1]; exact hce) hcv hcl T' rfl X'
    exact ⟨t2, st.trans a1, b1⟩
theorem vx_callv {S SX : Type} {post : S → Prop} {px : SX → Prop} {B : S → State → Prop} {BX : String → SX → State → Prop} {AX : Nat → Prop} (hr : vx_Run p l e R s m args below meth c H locs cells slots mc ms (F0 m pc ls st0) rest (va_Qv post B A1 a) (vx_X px BX AX) free) (hS : va_S A0 H0 H locs) (hA : ∀ q, q < H.size → A1 q → A0 q) (hf : ∀ q, free q → A0 q) (hAX : ∀ q, q < H.size → AX q → A0 q)
    (kx : ∀ (E : String) (ce : Cell) (q9 : Addr) (u : SX) (t : State) (H1 : Heap) (locs1 : List Loc), t.heap = H1 → s.vm.Alike t.vm → px u → BX E u t → H.size ≤ H1.size → (∀ q : Nat, q < H.size → ¬ AX q → H1[q]? = H[q]?) → va_S A0 H0 H1 locs1 → H1[q9]? = some ce → ce.vm = .none → s.vm.findClass E = some ce.cls → vx_W p l e R s m args below meth c H1 locs1 (cells + mc) (slots + ms) Q (F0 m pc ls rest) q9)
    (kk : ∀ (u : S) (t : State) (H1 : Heap) (locs1 : List Loc), t.heap = H1 → s.vm.Alike t.vm → post u → B u t → H.size ≤ H1.size → (∀ q : Nat, q < H.size → ¬ A1 q → H1[q]? = H[q]?) → va_S A0 H0 H1 locs1 → W p l e R s m args below meth c H1 locs1 (cells + mc) (slots + ms) Q (F0 m (pc + 3) ls (rest))) : W p l e R s m args below meth c H locs cells slots Q (F0 m pc ls st0) := by
  intro T hT X
  rcases hr T hT X with ⟨v, st₀, t, T', L, h0, X', hL, e1, e2, ⟨⟨u, hv, hp, hb⟩, hF⟩, st⟩ | ⟨q, st₀, t, T', L, E, ce, h0, X', hL, e1, e2, ⟨u, hp, hb, hF⟩, hce, hcv, hcl, st⟩
  · cases hv
    obtain ⟨k1, k2, k3⟩ := vx_keep h0 e1 hS hA hf hL hF
    obtain ⟨t2, a1, b1⟩ := kk u t T'.heap (locs ++ L) e1.symm (by rw [← e2]; exact X'.warmed.alike) hp hb k1 k2 k3 T' rfl X'
    exact ⟨t2, st t2 a1, b1⟩
  · obtain ⟨k1, k2, k3⟩ := vx_keep h0 e1 hS hAX hf hL hF
    obtain ⟨t2, a1, b1⟩ := kx E ce q u t T'.heap (locs ++ L) e1.symm (by rw [← e2]; exact X'.warmed.alike) hp hb k1 k2 k3 (by rw [e1]; exact hce) hcv hcl T' rfl X'
    exact ⟨t2, st.trans a1, b1⟩
/-- caught by the row x of this method's table; the rows ahead don't take it -/
theorem vx_catch {own name : String} {E : String} {ce : Cell} {q : Addr} (hown : s.vm.findClass own = some m.cls) (pre : List ExceptionTableEntry) (x : ExceptionTableEntry) (suf : List ExceptionTableEntry) (hsplit : c.exceptionTable.toList = pre ++ x :: suf)
    (hpass : ∀ z ∈ pre, covers z pc = false ∨ (z.catchType ≠ 0 ∧ ∃ nm : String, (Cond.classLink own z.catchType nm).before args s = true ∧ va_Nc E nm s)) (hx : covers x pc = true) (h0 : x.catchType ≠ 0)
    (hlink : (Cond.classLink own x.catchType name).before args s = true) (hcast : (Cond.castable E name).before args s = true) (hcell : H[q]? = some ce) (hv : ce.vm = .none) (hcl : s.vm.findClass E = some ce.cls)
    (kk : W p l e R s m args below meth c H locs cells slots Q (F0 m x.handlerPc ls [.ref q])) : vx_W p l e R s m args below meth c H locs cells slots Q (F0 m pc ls rest) q := by
  intro T hT X
  have hpl : e.platform.magicAccessors = ({} : Platform).magicAccessors := by rw [X.admits.platform]
  obtain ⟨c3, c4, hc3, hc4, hasg⟩ := Cond.castable_spec hcast
  cases Option.some.inj (hc3.symm.trans hcl)
  obtain ⟨c5, hc5, hcl5⟩ := Cond.classLink_spec hown hlink e.platform hpl
  cases Option.some.inj (hc4.symm.trans hc5)
  obtain ⟨vm', X', st⟩ := X.thenCaughtThrough q (g := F0 m pc ls rest) rfl (Steps.refl _) (by rw [hT]; exact hcell) (by rw [hv]; rfl) (by obtain ⟨k9, h9, -⟩ := Vm.findClass_spec hcl; exact ⟨k9, h9⟩) pre x suf hsplit
    (fun z hz => by
      rcases hpass z hz with h | ⟨hz0, nm, hl1, hn1⟩
      · exact Or.inl h
      · obtain ⟨c6, hc6, hcl6⟩ := Cond.classLink_spec hown hl1 e.platform hpl
        obtain ⟨a8, b8, h1, h2, h3⟩ := hn1
        cases Option.some.inj (h1.symm.trans hcl)
        cases Option.some.inj (h2.symm.trans hc6)
        exact Or.inr ⟨hz0, _, hcl6, h3⟩) hx (Or.inr ⟨h0, c4, hcl5, hasg⟩)
  obtain ⟨t, a1, b1⟩ := kk (T.setVm vm') hT X'
  exact ⟨t, st.trans a1, b1⟩
end Rows
section Ends
variable {p : Program} {l : Launch} {e : Env} {R : Room} {s : State} {m : MethodId} {args : Array Value} {below : List Frame} {meth : Method} {c : Code} {H : Heap} {locs : List Loc} {cells slots : Nat} {Q : State → Prop}
variable {mc ms : Nat} {free : Addr → Prop} {A0 A1 : Nat → Prop} {H0 : Heap} {a : Array Value} {ls : Array Slot} {st0 rest : List Value}
variable {Qc : Array Value → State → Outcome → State → Prop} {XC : String → State → State → Prop}
/-- what a body that may throw owes at its end -/
def vx_MQ (below : List Frame) (Qc : Array Value → State → Outcome → State → Prop) (XC : String → State → State → Prop) (a : Array Value) (s : State) (mc ms : Nat) (free : Addr → Prop) : State → Prop := fun t =>
  ∃ o, t.status = .running ∧ Ended t below o ∧ vx_Q Qc XC mc ms free a s o t
theorem vx_ret {g : JFrame} {mc ms : Nat} (k : W p l e R s m args below meth c H locs cells slots (MQ below Qc args s mc ms free) g) : W p l e R s m args below meth c H locs cells slots (vx_MQ below Qc XC args s mc ms free) g := by
  intro T hT X
  obtain ⟨t, a1, o, b1, b2, b3, b4⟩ := k T hT X
  exact ⟨t, a1, o, b1, b2, Or.inl ⟨b3, b4⟩⟩
/-- not caught here: it goes on to the caller -/
theorem vx_widen {g : JFrame} {q : Addr} {k n : Nat} (h1 : cells ≤ k) (h2 : slots ≤ n) (kk : vx_W p l e R s m args below meth c H locs k n Q g q) : vx_W p l e R s m args below meth c H locs cells slots Q g q := fun T hT X => kk T hT (stand_widen X h1 h2)
theorem vx_out {pc : Nat} {E : String} {ce : Cell} {q : Addr} {mc ms : Nat} (hout : ∀ x ∈ c.exceptionTable.toList, covers x pc = false) (hlocks : meth.locks = false) (hcell : H[q]? = some ce) (hv : ce.vm = .none) (hcl : s.vm.findClass E = some ce.cls)
    (hx : ∀ t : State, t.heap = H → s.vm.Alike t.vm → XC E s t) (hf : ∀ z ∈ locs, free z.base) (hc : cells ≤ mc) (hs : slots ≤ ms) :
    vx_W p l e R s m args below meth c H locs cells slots (vx_MQ below Qc XC args s mc ms free) (F0 m pc ls rest) q := by
  intro T hT X
  obtain ⟨st1, hrun, hend, hW, hsm⟩ := X.leaveThrown q (g := F0 m pc ls rest) rfl rfl rfl hout hlocks
  have hcell9 : (T.setFrames (.throwing q :: below)).heap[q]? = some ce := by
    show T.heap[q]? = some ce
    rw [hT]; exact hcell
  exact ⟨_, st1, .threw q, hrun, hend, Or.inr ⟨q, rfl, E, ce, locs, hx _ hT hW.alike, hcell9, hv, hcl, hW, hsm.mono hc hs, hf⟩⟩
theorem vx_frame {U : State} {k n : Nat} (h : s.sameButNew ({ U with vm := s.vm } : State) locs k n) : s.heap.size ≤ U.heap.size ∧ ∀ q : Nat, q < s.heap.size → (∀ z ∈ locs, z.base ≠ q) → U.heap[q]? = s.heap[q]? := by
  obtain ⟨-, h2, -, -, -, h6⟩ := h
  refine ⟨h2, fun q hq hz => ?_⟩
  obtain ⟨c9, e1, e2, e3, e4⟩ := h6 q _ (Array.getElem?_eq_getElem hq)
  have hs : c9.slots = (s.heap[q]).slots := Array.ext_getElem? fun i => e4 i fun hm => hz _ hm rfl
  have h9 : c9 = s.heap[q] := by
    rw [hs] at e2
    exact e2
  have e5 : U.heap[q]? = some c9 := e1
  rw [e5, h9, Array.getElem?_eq_getElem hq]
/-- the words of a throw but the four that speak of the heap -/
def vx_no (w : Cond) : Bool := decide (w ≠ .isRef (.static Bundle.tN "UNASSIGNED_STACK" Bundle.steD)) && decide (w ≠ .isRef (.static Bundle.tN "SUPPRESSED_SENTINEL" Bundle.listD)) && decide (w ≠ .laysStatic Bundle.tN "UNASSIGNED_STACK" Bundle.steD) && decide (w ≠ .laysStatic Bundle.tN "SUPPRESSED_SENTINEL" Bundle.listD)
def vx_at0 (own : String) (ic : Nat) (X : String) (names : List String) : List Cond := (Bundle.ownAtoms0 own ic X names).filter vx_no
def vx_atS (own : String) (ic : Nat) (X : String) (names : List String) : List Cond := (Bundle.ownAtoms own ic X names).filter vx_no
/-- a word that the tables alone decide, or a good one -/
def vx_ot (w : Cond) : Bool := w.onTables || goodWord w
theorem vx_ot_at {args a' : Array Value} {s U : State} {w : Cond} (hW : s.WarmedH U.vm) (hvm : s.vm = U.vm) (hg : vx_ot w = true) (h : w.before args s = true) : w.before a' U = true := by
  simp only [vx_ot, Bool.or_eq_true] at hg
  rcases hg with hg | hg
  · exact va_tabs hg hvm h
  · exact word_at hW (good_of_word hg) h
/-- a list's words: the good ones out of the method's own list, the others by premises of their own -/
theorem vx_hat {args : Array Value} {s : State} {L B : List Cond} (h1 : ∀ w ∈ L.filter goodWord, w.before args s = true) (h2 : ∀ w ∈ L.filter (fun w => !goodWord w), w ∈ B) (h3 : ∀ w ∈ B, w.before args s = true) : ∀ w ∈ L, w.before args s = true := by
  intro w hw
  by_cases g : goodWord w = true
  · exact h1 w (List.mem_filter.mpr ⟨hw, g⟩)
  · refine h3 w (h2 w (List.mem_filter.mpr ⟨hw, ?_⟩))
    show (!goodWord w) = true
    cases hgw : goodWord w
    · rfl
    · exact absurd hgw g
theorem vx_c {args : Array Value} {s : State} {w : Cond} {B : List Cond} (h : w.before args s = true) (t : ∀ w ∈ B, w.before args s = true) : ∀ w' ∈ w :: B, w'.before args s = true := fun w' h' => (List.mem_cons.mp h').elim (fun e => by rw [e]; exact h) (t w')
theorem vx_n {args : Array Value} {s : State} : ∀ w ∈ ([] : List Cond), w.before args s = true := fun _ h => nomatch h
theorem vx_own {args : Array Value} {s : State} {L : List Cond} (h1 : ∀ w ∈ L.filter vx_no, w.before args s = true)
    (hU : (Cond.isRef (.static Bundle.tN "UNASSIGNED_STACK" Bundle.steD)).before args s = true) (hN : (Cond.isRef (.static Bundle.tN "SUPPRESSED_SENTINEL" Bundle.listD)).before args s = true)
    (lU : (Cond.laysStatic Bundle.tN "UNASSIGNED_STACK" Bundle.steD).before args s = true) (lN : (Cond.laysStatic Bundle.tN "SUPPRESSED_SENTINEL" Bundle.listD).before args s = true) : ∀ w ∈ L, w.before args s = true := by
  intro w hw
  by_cases e1 : w = .isRef (.static Bundle.tN "UNASSIGNED_STACK" Bundle.steD)
  · rw [e1]; exact hU
  · by_cases e2 : w = .isRef (.static Bundle.tN "SUPPRESSED_SENTINEL" Bundle.listD)
    · rw [e2]; exact hN
    · by_cases e3 : w = .laysStatic Bundle.tN "UNASSIGNED_STACK" Bundle.steD
      · rw [e3]; exact lU
      · by_cases e4 : w = .laysStatic Bundle.tN "SUPPRESSED_SENTINEL" Bundle.listD
        · rw [e4]; exact lN
        · exact h1 w (List.mem_filter.mpr ⟨hw, by unfold vx_no; rw [decide_eq_true e1, decide_eq_true e2, decide_eq_true e3, decide_eq_true e4]; rfl⟩)
/-- where a static field lies, its class's statics cell in H -/
def vx_L (C n d : String) (A : Nat → Prop) (U : State) (H : Heap) : Prop := ∃ (c : ClassId) (k : Class) (i : Nat) (f : Field) (a : Nat) (cell : Cell), U.vm.findClass C = some c ∧ U.fieldFound? C n d = some (c, k, i, f) ∧ f.isStatic = true ∧ k.statics = some a ∧ H[a]? = some cell ∧ cell.vm.isStatics = true ∧ cell.cls = c ∧ f.slot < cell.slots.size ∧ k.staticTypes[f.slot]? = some f.type ∧ ¬ A a
theorem vx_L.moved {C n d : String} {A : Nat → Prop} {u U : State} {H : Heap} (hvm : u.vm.Alike U.vm) (h : vx_L C n d A u H) : vx_L C n d A U H := by
  obtain ⟨c, k, i, f, a, cell, h1, h2, h3, h4, h5, h6, h7, h8, h9, h10⟩ := h
  obtain ⟨k', hi', he⟩ := State.fieldFound?_setVm hvm h2
  exact ⟨c, k', i, f, a, cell, by rw [hvm.findClass]; exact h1, hi', h3, by rw [he]; exact h4, h5, h6, h7, h8, by rw [he]; exact h9, h10⟩
theorem vx_L.kept {C n d : String} {A : Nat → Prop} {U : State} {H H1 : Heap} (h : vx_L C n d A U H) (hq : ∀ a : Nat, a < H.size → ¬ A a → H1[a]? = H[a]?) : vx_L C n d A U H1 := by
  obtain ⟨c, k, i, f, a, cell, h1, h2, h3, h4, h5, h6, h7, h8, h9, h10⟩ := h
  exact ⟨c, k, i, f, a, cell, h1, h2, h3, h4, by rw [hq a (Array.getElem?_eq_some_iff.mp h5).1 h10]; exact h5, h6, h7, h8, h9, h10⟩
theorem vx_L.narrow {C n d : String} {A B : Nat → Prop} {U : State} {H : Heap} (h : vx_L C n d A U H) (hAB : ∀ q, B q → A q) : vx_L C n d B U H := by
  obtain ⟨c, k, i, f, a, cell, h1, h2, h3, h4, h5, h6, h7, h8, h9, h10⟩ := h
  exact ⟨c, k, i, f, a, cell, h1, h2, h3, h4, h5, h6, h7, h8, h9, fun z => h10 (hAB _ z)⟩
theorem vx_L.word {C n d : String} {A : Nat → Prop} {s : State} {args : Array Value} (h : vx_L C n d A s s.heap) : (Cond.laysStatic C n d).before args s = true := by
  obtain ⟨c, k, i, f, a, cell, h1, h2, h3, h4, h5, h6, h7, h8, h9, -⟩ := h
  show (Cond.laysStatic C n d).holds args s none s [] = true
  exact Cond.laysStatic_of h1 h2 h3 h4 h5 h6 h7 h8 h9
/-- .. and what it holds: null or some reference -/
def vx_Zq (C n d : String) (A : Nat → Prop) (U : State) (H : Heap) : Prop := va_Zq C n d A U H ∧ vx_L C n d A U H
theorem vx_Zq.moved {C n d : String} {A : Nat → Prop} {u U : State} {H : Heap} (hvm : u.vm.Alike U.vm) (h : vx_Zq C n d A u H) : vx_Zq C n d A U H := ⟨va_Zq.moved hvm h.1, vx_L.moved hvm h.2⟩
theorem vx_Zq.kept {C n d : String} {A : Nat → Prop} {U : State} {H H1 : Heap} (h : vx_Zq C n d A U H) (hq : ∀ a : Nat, a < H.size → ¬ A a → H1[a]? = H[a]?) : vx_Zq C n d A U H1 := ⟨va_Zq.kept h.1 hq, vx_L.kept h.2 hq⟩
theorem vx_Zq.narrow {C n d : String} {A B : Nat → Prop} {U : State} {H : Heap} (h : vx_Zq C n d A U H) (hAB : ∀ q, B q → A q) : vx_Zq C n d B U H := ⟨va_Zq.narrow h.1 hAB, vx_L.narrow h.2 hAB⟩
theorem vx_Zqof {args : Array Value} {s : State} {C n d : String} {A : Nat → Prop} (hl : (Cond.laysStatic C n d).before args s = true) (hini : (Cond.initialized C).before args s = true) (h : (Cond.isRef (.static C n d)).before args s = true) (hA : ∀ a : Nat, a < s.heap.size → ¬ A a) : vx_Zq C n d A s s.heap := by
  refine ⟨va_Zqof hl hini h hA, ?_⟩
  obtain ⟨c, k, i, f, a, cell, h1, h2, h3, h4, h5, h6, h7, h8, h9⟩ := Cond.laysStatic_spec hl
  exact ⟨c, k, i, f, a, cell, h1, h2, h3, h4, h5, h6, h7, h8, h9, hA a (Array.getElem?_eq_some_iff.mp h5).1⟩
theorem vx_isRef {C n d : String} {v : Value} {A : Nat → Prop} {s : State} {args : Array Value} (h : va_Z C n d v A s s.heap) (hv : v.isRef = true) : (Cond.isRef (.static C n d)).before args s = true := by
  obtain ⟨cf, kf, fi, f, a, cell, h1, h2, h3, h4, h5, h6, h7, -⟩ := h
  have he : (Term.static C n d).eval args s none [] s = some v := by
    simp [Term.eval, State.fieldNamed?, h1, h2, h4, h5, h6, h7]
  simp only [Cond.before, Cond.holds, Cond.value, he]
  cases v <;> simp_all [Value.isRef]
theorem vx_isRefq {C n d : String} {A : Nat → Prop} {s : State} {args : Array Value} (h : va_Zq C n d A s s.heap) : (Cond.isRef (.static C n d)).before args s = true := by
  rcases h with h | ⟨t, h⟩
  · exact vx_isRef h rfl
  · exact vx_isRef h rfl
/-- the same frame, seen from here: as if the method were called anew in this heap -/
theorem vx_rebase {T : State} (X : Stand p l e R s m args below meth c T locs cells slots) {R' : Room} (hf : R'.frames ≤ R.frames) (hl : R'.locals ≤ R.locals) (hc : cells + R'.cells ≤ R.cells) (hs : slots + R'.slots ≤ R.slots) :
    Stand p l e R' ((T.setVm s.vm).setFrames (.invoking m args :: below)) m args below meth c T [] 0 0 := by
  have htop : (T.setVm s.vm).topJava?.isSome := X.here.top
  have hF : ((T.setVm s.vm).setFrames (.invoking m args :: below)).frames = .invoking m args :: below := State.frames_setFrames _ (State.cur_lt_of_top htop)
  obtain ⟨g₀, hg0⟩ := Option.isSome_iff_exists.mp htop
  obtain ⟨r, hr⟩ := State.topJava?_eq_some.mp hg0
  have hl9 : e.platform.stackLimits (T.setVm s.vm).me = e.platform.stackLimits s.me := X.limits
  have hb9 : (T.setVm s.vm).me.stackBytes = s.me.stackBytes := X.bytes
  refine ⟨X.admits, X.cas, X.clock, hF, ?_, X.hears, X.method, X.code, X.here, X.tail, X.warmed, ?_, ?_, ?_⟩
  · have h := X.room
    have hU : ((T.setVm s.vm).setFrames (.invoking m args :: below)).localsInUse = s.localsInUse := by
      rw [State.localsInUse_invoking hF (meth := meth) (c := c) X.method X.code, State.localsInUse_invoking X.frames X.method X.code]
    simp only [State.hasRoom, Bool.and_eq_true, decide_eq_true_eq] at h ⊢
    obtain ⟨⟨⟨⟨h1, h2, h3, h4, h5, h6⟩, h7⟩, h8⟩, h9⟩ := h
    rw [X.frames, List.length_cons] at h2 h3
    have q1 := X.heapSize
    have q2 := X.used
    simp only [hF, hU, List.length_cons, State.stackLimits_setFrames, State.stackBytes_setFrames, hl9, hb9]
    refine ⟨⟨⟨⟨by omega, by omega, by omega, by omega, by omega, h6⟩, ?_⟩, ?_⟩, X.book⟩
    · show T.heap.size + R'.cells ≤ e.platform.maxCells
      omega
    · show T.slotsUsed + R'.slots ≤ e.platform.maxSlots
      omega
  · rw [State.stackLimits_setFrames]; rfl
  · rw [State.stackBytes_setFrames]; rfl
  · refine ⟨?_, Nat.le_refl _, Nat.le_refl _, ?_, ?_, fun a c9 h9 => ⟨c9, h9, rfl, rfl, fun _ _ => rfl⟩⟩
    · obtain ⟨t, ht, -⟩ := State.frames_cons hr
      show T.setVm s.vm = { ((T.setVm s.vm).setFrames (.invoking m args :: below)).setFrames (T.setVm s.vm).frames with heap := T.heap, slotsUsed := T.slotsUsed }
      rw [State.setFrames_setFrames, State.setFrames_self ht]
      rfl
    · show T.slotsUsed = T.slotsUsed + ((T.heap.toList.drop T.heap.size).map (·.slots.size)).sum
      rw [List.drop_eq_nil_of_le (Nat.le_of_eq Array.length_toList)]
      rfl
    · show ((T.heap.toList.drop T.heap.size).map (·.slots.size)).sum ≤ 0
      rw [List.drop_eq_nil_of_le (Nat.le_of_eq Array.length_toList)]
      exact Nat.le_refl _
/-- 'throw new E()': new; dup; invokespecial; athrow -/
theorem vx_throw0 {cc : ByteArray} {pc : Nat} (hexec : p.tables.exec = Jvm.exec) (hb : c.code = cc) (hl : l.stackTraces = false) {own cls : String} {names : List String} {ik ic mc ms : Nat} {A : Nat → Prop}
    (hown : s.vm.findClass own = some m.cls) (hcls : Bundle.fit cls = true) (hnames : ∀ n ∈ names, Bundle.fit n = true)
    (hk : (Cond.classLink own ik cls).before args s = true) (hini : (Cond.initialized cls).before args s = true) (hat : ∀ w ∈ vx_at0 own ic cls names, w.before args s = true)
    (hgood : ∀ w ∈ Cond.classLink own ik cls :: Cond.initialized cls :: vx_at0 own ic cls names, vx_ot w = true)
    (hU : vx_Zq Bundle.tN "UNASSIGNED_STACK" Bundle.steD A s s.heap) (hN : vx_Zq Bundle.tN "SUPPRESSED_SENTINEL" Bundle.listD A s s.heap) (hS : va_S A s.heap H locs) (hsize : ls.size = c.maxLocals)
    (d0 : decode cc pc = .ok (.new ik, 3)) (d3 : decode cc (pc + 3) = .ok (.dup, 1)) (d4 : decode cc (pc + 4) = .ok (.invokespecial ic, 3)) (d7 : decode cc (pc + 7) = .ok (.athrow, 1))
    (hout : ∀ x ∈ c.exceptionTable.toList, covers x (pc + 7) = false)
    (hRframes : names.length + 3 < R.frames) (hRlocals : (rest.map fun v => v.category).sum + (13 * (names.length + 1) + 42) ≤ R.locals) (hRcells : cells + 1 ≤ R.cells) (hRslots : slots + 6 ≤ R.slots) (hlocks : meth.locks = false)
    (hx : ∀ t : State, s.vm.Alike t.vm → H.size ≤ t.heap.size → (∀ q : Nat, q < H.size → t.heap[q]? = H[q]?) → XC cls s t)
    (hf : ∀ z ∈ locs, free z.base) (hc : cells + 1 ≤ mc) (hs : slots + 6 ≤ ms) :
    W p l e R s m args below meth c H locs cells slots (vx_MQ below Qc XC args s mc ms free) (F0 m pc ls rest) := by
  intro T hT X
  have htr : e.platform.stackTraces = false := (show e.platform.stackTraces = l.stackTraces by rw [X.admits.platform]).trans hl
  have Y := vx_rebase X (R' := { frames := R.frames, locals := R.locals, cells := 1, slots := 6 }) (Nat.le_refl _) (Nat.le_refl _) hRcells hRslots
  obtain ⟨s', hA⟩ : ∃ z, z = (T.setVm s.vm).setFrames (.invoking m args :: below) := ⟨_, rfl⟩
  rw [← hA] at Y
  have hvm : s'.vm = s.vm := by rw [hA]; rfl
  have hhp : s'.heap = H := by rw [hA]; exact hT
  have hW0 : s.WarmedH s'.vm := by rw [hvm]; exact State.WarmedH.refl s
  have hat' : ∀ w ∈ vx_at0 own ic cls names, w.before args s' = true := fun w hw => vx_ot_at hW0 hvm.symm (hgood w (List.mem_cons_of_mem _ (List.mem_cons_of_mem _ hw))) (hat w hw)
  have hk' : (Cond.classLink own ik cls).before args s' = true := vx_ot_at hW0 hvm.symm (hgood _ List.mem_cons_self) hk
  have hini' : (Cond.initialized cls).before args s' = true := vx_ot_at hW0 hvm.symm (hgood _ (List.mem_cons_of_mem _ List.mem_cons_self)) hini
  have hU' : vx_Zq Bundle.tN "UNASSIGNED_STACK" Bundle.steD A s' s'.heap := by rw [hhp]; exact vx_Zq.moved hW0.alike (hU.kept hS.2.1)
  have hN' : vx_Zq Bundle.tN "SUPPRESSED_SENTINEL" Bundle.listD A s' s'.heap := by rw [hhp]; exact vx_Zq.moved hW0.alike (hN.kept hS.2.1)
  have h : ∀ w ∈ Bundle.ownAtoms0 own ic cls names, w.before args s' = true := vx_own hat' (vx_isRefq hU'.1) (vx_isRefq hN'.1) hU'.2.word hN'.2.word
  have hown' : s'.vm.findClass own = some m.cls := by rw [hvm]; exact hown
  have hins : (Cond.instantiable cls 6).before args s' = true := h _ (by simp [Bundle.ownAtoms0])
  obtain ⟨vm₁, cX, kX, hfX, hkX, -, -, X₁, st1⟩ := Y.newCold hexec (own := own) (C := cls) (index := ik) (n := 6) hown' hk' hins hini'
    (g := F0 m pc ls rest) rfl (by rw [hb]; exact d0) (Nat.le_refl _) (Nat.le_refl _)
  generalize hT1 : (T.setVm vm₁).pushCell { cls := cX, slots := kX.instanceTypes.map defaultValue, vm := .none } = T1 at X₁ st1
  have hcat : (Value.ref T.heap.size).category = 1 := rfl
  have hcellA : T1.heap[T.heap.size]? = some (freshCell cX kX) := by rw [← hT1]; exact State.heap_pushCell_size _ _
  have d3' : decode c.code (pc + 3) = .ok (.dup, 1) := by rw [hb]; exact d3
  obtain ⟨U, hsteps, hrun, hend, hW, hsame, ce, hce, hO⟩ := X₁.ctorThrow0 hexec htr (own := own) (cls := cls) (names := names) (ic := ic) hown' hcls hnames h (fun x hx => nomatch hx) hfX hkX hcellA (by rw [hhp, hT]; exact Nat.le_refl _)
    (g := { method := m, pc := pc + 4, locals := ls, stack := .ref T.heap.size :: .ref T.heap.size :: rest, locked := none }) rfl hsize rfl rfl (rest := rest) rfl
    (by rw [hb]; exact d4) (by rw [hb]; exact d7) hout hRframes (by simp only [List.map_cons, List.sum_cons, hcat]; omega) hlocks
  obtain ⟨f1, f2⟩ := vx_frame hsame
  rw [hhp] at f1 f2
  have hWs : s.WarmedH U.vm := State.WarmedH.trans hW0 hW
  have hcl : s.vm.findClass cls = some ce.cls := by
    have h9 := hO.cls
    rw [hvm] at h9
    exact h9
  have hall : s.sameButNew ({ U with vm := s.vm } : State) locs mc ms := by
    subst hA
    obtain ⟨e1, e2⟩ := hsame
    rw [State.setFrames_setFrames] at e1
    have h2 : (T.setVm s.vm).sameButNew ({ U with vm := s.vm } : State) [] (0 + 1) (0 + 6) := ⟨e1, e2⟩
    have h3 := X.same.trans h2
    rw [List.append_nil] at h3
    exact h3.mono hc hs
  refine ⟨U, ?_, .threw T.heap.size, hrun, hend, Or.inr ⟨T.heap.size, rfl, cls, ce, locs, hx U hWs.alike f1 (fun q hq => f2 q hq (fun z hz => nomatch hz)), hce, hO.vm, hcl, hWs, hall, hf⟩⟩
  refine st1 _ ?_
  show Steps p.tables e below (T1.setTop { method := m, pc := pc + 3, locals := ls, stack := .ref T.heap.size :: rest, locked := none }) _
  jvm_step X₁.here [X₁.here.top, hexec, d3', Value.category]
  exact hsteps
/-- 'throw new E("text")': new; dup; ldc; invokespecial; athrow -/
theorem vx_throwS {cc : ByteArray} {pc : Nat} (hexec : p.tables.exec = Jvm.exec) (hb : c.code = cc) (hl : l.stackTraces = false) {own cls text : String} {names : List String} {ik is ic mc ms sa : Nat} {A : Nat → Prop}
    (hown : s.vm.findClass own = some m.cls) (hcls : Bundle.fit cls = true) (hnames : ∀ n ∈ names, Bundle.fit n = true)
    (hk : (Cond.classLink own ik cls).before args s = true) (hini : (Cond.initialized cls).before args s = true) (hstr : vk_R own is text sa s) (hat : ∀ w ∈ vx_atS own ic cls names, w.before args s = true)
    (hgood : ∀ w ∈ Cond.classLink own ik cls :: Cond.initialized cls :: vx_atS own ic cls names, vx_ot w = true)
    (hU : vx_Zq Bundle.tN "UNASSIGNED_STACK" Bundle.steD A s s.heap) (hN : vx_Zq Bundle.tN "SUPPRESSED_SENTINEL" Bundle.listD A s s.heap) (hS : va_S A s.heap H locs) (hsize : ls.size = c.maxLocals)
    (d0 : decode cc pc = .ok (.new ik, 3)) (d3 : decode cc (pc + 3) = .ok (.dup, 1)) (d4 : decode cc (pc + 4) = .ok (.ldc is, 2)) (d6 : decode cc (pc + 6) = .ok (.invokespecial ic, 3)) (d9 : decode cc (pc + 9) = .ok (.athrow, 1))
    (hout : ∀ x ∈ c.exceptionTable.toList, covers x (pc + 9) = false)
    (hRframes : names.length + 3 < R.frames) (hRlocals : (rest.map fun v => v.category).sum + (13 * (names.length + 1) + 43) ≤ R.locals) (hRcells : cells + 1 ≤ R.cells) (hRslots : slots + 6 ≤ R.slots) (hlocks : meth.locks = false)
    (hx : ∀ t : State, s.vm.Alike t.vm → H.size ≤ t.heap.size → (∀ q : Nat, q < H.size → t.heap[q]? = H[q]?) → XC cls s t)
    (hf : ∀ z ∈ locs, free z.base) (hc : cells + 1 ≤ mc) (hs : slots + 6 ≤ ms) :
    W p l e R s m args below meth c H locs cells slots (vx_MQ below Qc XC args s mc ms free) (F0 m pc ls rest) := by
  intro T hT X
  have htr : e.platform.stackTraces = false := (show e.platform.stackTraces = l.stackTraces by rw [X.admits.platform]).trans hl
  have Y := vx_rebase X (R' := { frames := R.frames, locals := R.locals, cells := 1, slots := 6 }) (Nat.le_refl _) (Nat.le_refl _) hRcells hRslots
  obtain ⟨s', hA⟩ : ∃ z, z = (T.setVm s.vm).setFrames (.invoking m args :: below) := ⟨_, rfl⟩
  rw [← hA] at Y
  have hvm : s'.vm = s.vm := by rw [hA]; rfl
  have hhp : s'.heap = H := by rw [hA]; exact hT
  have hW0 : s.WarmedH s'.vm := by rw [hvm]; exact State.WarmedH.refl s
  have hat' : ∀ w ∈ vx_atS own ic cls names, w.before args s' = true := fun w hw => vx_ot_at hW0 hvm.symm (hgood w (List.mem_cons_of_mem _ (List.mem_cons_of_mem _ hw))) (hat w hw)
  have hk' : (Cond.classLink own ik cls).before args s' = true := vx_ot_at hW0 hvm.symm (hgood _ List.mem_cons_self) hk
  have hini' : (Cond.initialized cls).before args s' = true := vx_ot_at hW0 hvm.symm (hgood _ (List.mem_cons_of_mem _ List.mem_cons_self)) hini
  have hU' : vx_Zq Bundle.tN "UNASSIGNED_STACK" Bundle.steD A s' s'.heap := by rw [hhp]; exact vx_Zq.moved hW0.alike (hU.kept hS.2.1)
  have hN' : vx_Zq Bundle.tN "SUPPRESSED_SENTINEL" Bundle.listD A s' s'.heap := by rw [hhp]; exact vx_Zq.moved hW0.alike (hN.kept hS.2.1)
  have h : ∀ w ∈ Bundle.ownAtoms own ic cls names, w.before args s' = true := vx_own hat' (vx_isRefq hU'.1) (vx_isRefq hN'.1) hU'.2.word hN'.2.word
  have hown' : s'.vm.findClass own = some m.cls := by rw [hvm]; exact hown
  have hins : (Cond.instantiable cls 6).before args s' = true := h _ (by simp [Bundle.ownAtoms])
  obtain ⟨vm₁, cX, kX, hfX, hkX, -, -, X₁, st1⟩ := Y.newCold hexec (own := own) (C := cls) (index := ik) (n := 6) hown' hk' hins hini'
    (g := F0 m pc ls rest) rfl (by rw [hb]; exact d0) (Nat.le_refl _) (Nat.le_refl _)
  generalize hT1 : (T.setVm vm₁).pushCell { cls := cX, slots := kX.instanceTypes.map defaultValue, vm := .none } = T1 at X₁ st1
  have hcat : (Value.ref T.heap.size).category = 1 := rfl
  have hcellA : T1.heap[T.heap.size]? = some (freshCell cX kX) := by rw [← hT1]; exact State.heap_pushCell_size _ _
  have d3' : decode c.code (pc + 3) = .ok (.dup, 1) := by rw [hb]; exact d3
  have d4' : decode c.code (pc + 4) = .ok (.ldc is, 2) := by rw [hb]; exact d4
  have hstr' : vk_R own is text sa s' := vk_R.warm hW0 hstr
  obtain ⟨U, hsteps, hrun, hend, hW, hsame, ce, hce, hO⟩ := X₁.ctorThrowS hexec htr (own := own) (cls := cls) (names := names) (ic := ic) hown' hcls hnames h (fun x hx => nomatch hx) hfX hkX hcellA (by rw [hhp, hT]; exact Nat.le_refl _) (msg := .ref sa) rfl
    (g := { method := m, pc := pc + 6, locals := ls, stack := .ref sa :: .ref T.heap.size :: .ref T.heap.size :: rest, locked := none }) rfl hsize rfl rfl (rest := rest) rfl
    (by rw [hb]; exact d6) (by rw [hb]; exact d9) hout hRframes (by simp only [List.map_cons, List.sum_cons, hcat]; omega) hlocks
  obtain ⟨f1, f2⟩ := vx_frame hsame
  rw [hhp] at f1 f2
  have hWs : s.WarmedH U.vm := State.WarmedH.trans hW0 hW
  have hcl : s.vm.findClass cls = some ce.cls := by
    have h9 := hO.cls
    rw [hvm] at h9
    exact h9
  have hall : s.sameButNew ({ U with vm := s.vm } : State) locs mc ms := by
    subst hA
    obtain ⟨e1, e2⟩ := hsame
    rw [State.setFrames_setFrames] at e1
    have h2 : (T.setVm s.vm).sameButNew ({ U with vm := s.vm } : State) [] (0 + 1) (0 + 6) := ⟨e1, e2⟩
    have h3 := X.same.trans h2
    rw [List.append_nil] at h3
    exact h3.mono hc hs
  refine ⟨U, ?_, .threw T.heap.size, hrun, hend, Or.inr ⟨T.heap.size, rfl, cls, ce, locs, hx U hWs.alike f1 (fun q hq => f2 q hq (fun z hz => nomatch hz)), hce, hO.vm, hcl, hWs, hall, hf⟩⟩
  refine st1 _ ?_
  show Steps p.tables e below (T1.setTop { method := m, pc := pc + 3, locals := ls, stack := .ref T.heap.size :: rest, locked := none }) _
  jvm_step X₁.here [X₁.here.top, hexec, d3', Value.category]
  exact X₁.ldcString hexec (own := own) (text := text) (index := is) (a := sa) hown' hstr'.1 hstr'.2
    (g := { method := m, pc := pc + 4, locals := ls, stack := .ref T.heap.size :: .ref T.heap.size :: rest, locked := none }) rfl d4' _ hsteps
/-- 'throw new E("text")', the text by a wide index -/
theorem vx_throwSW {cc : ByteArray} {pc : Nat} (hexec : p.tables.exec = Jvm.exec) (hb : c.code = cc) (hl : l.stackTraces = false) {own cls text : String} {names : List String} {ik is ic mc ms sa : Nat} {A : Nat → Prop}
    (hown : s.vm.findClass own = some m.cls) (hcls : Bundle.fit cls = true) (hnames : ∀ n ∈ names, Bundle.fit n = true)
    (hk : (Cond.classLink own ik cls).before args s = true) (hini : (Cond.initialized cls).before args s = true) (hstr : vk_R own is text sa s) (hat : ∀ w ∈ vx_atS own ic cls names, w.before args s = true)
    (hgood : ∀ w ∈ Cond.classLink own ik cls :: Cond.initialized cls :: vx_atS own ic cls names, vx_ot w = true)
    (hU : vx_Zq Bundle.tN "UNASSIGNED_STACK" Bundle.steD A s s.heap) (hN : vx_Zq Bundle.tN "SUPPRESSED_SENTINEL" Bundle.listD A s s.heap) (hS : va_S A s.heap H locs) (hsize : ls.size = c.maxLocals)
    (d0 : decode cc pc = .ok (.new ik, 3)) (d3 : decode cc (pc + 3) = .ok (.dup, 1)) (d4 : decode cc (pc + 4) = .ok (.ldc_w is, 3)) (d7 : decode cc (pc + 7) = .ok (.invokespecial ic, 3)) (d10 : decode cc (pc + 10) = .ok (.athrow, 1))
    (hout : ∀ x ∈ c.exceptionTable.toList, covers x (pc + 10) = false)
    (hRframes : names.length + 3 < R.frames) (hRlocals : (rest.map fun v => v.category).sum + (13 * (names.length + 1) + 43) ≤ R.locals) (hRcells : cells + 1 ≤ R.cells) (hRslots : slots + 6 ≤ R.slots) (hlocks : meth.locks = false)
    (hx : ∀ t : State, s.vm.Alike t.vm → H.size ≤ t.heap.size → (∀ q : Nat, q < H.size → t.heap[q]? = H[q]?) → XC cls s t)
    (hf : ∀ z ∈ locs, free z.base) (hc : cells + 1 ≤ mc) (hs : slots + 6 ≤ ms) :
    W p l e R s m args below meth c H locs cells slots (vx_MQ below Qc XC args s mc ms free) (F0 m pc ls rest) := by
  intro T hT X
  have htr : e.platform.stackTraces = false := (show e.platform.stackTraces = l.stackTraces by rw [X.admits.platform]).trans hl
  have Y := vx_rebase X (R' := { frames := R.frames, locals := R.locals, cells := 1, slots := 6 }) (Nat.le_refl _) (Nat.le_refl _) hRcells hRslots
  obtain ⟨s', hA⟩ : ∃ z, z = (T.setVm s.vm).setFrames (.invoking m args :: below) := ⟨_, rfl⟩
  rw [← hA] at Y
  have hvm : s'.vm = s.vm := by rw [hA]; rfl
  have hhp : s'.heap = H := by rw [hA]; exact hT
  have hW0 : s.WarmedH s'.vm := by rw [hvm]; exact State.WarmedH.refl s
  have hat' : ∀ w ∈ vx_atS own ic cls names, w.before args s' = true := fun w hw => vx_ot_at hW0 hvm.symm (hgood w (List.mem_cons_of_mem _ (List.mem_cons_of_mem _ hw))) (hat w hw)
  have hk' : (Cond.classLink own ik cls).before args s' = true := vx_ot_at hW0 hvm.symm (hgood _ List.mem_cons_self) hk
  have hini' : (Cond.initialized cls).before args s' = true := vx_ot_at hW0 hvm.symm (hgood _ (List.mem_cons_of_mem _ List.mem_cons_self)) hini
  have hU' : vx_Zq Bundle.tN "UNASSIGNED_STACK" Bundle.steD A s' s'.heap := by rw [hhp]; exact vx_Zq.moved hW0.alike (hU.kept hS.2.1)
  have hN' : vx_Zq Bundle.tN "SUPPRESSED_SENTINEL" Bundle.listD A s' s'.heap := by rw [hhp]; exact vx_Zq.moved hW0.alike (hN.kept hS.2.1)
  have h : ∀ w ∈ Bundle.ownAtoms own ic cls names, w.before args s' = true := vx_own hat' (vx_isRefq hU'.1) (vx_isRefq hN'.1) hU'.2.word hN'.2.word
  have hown' : s'.vm.findClass own = some m.cls := by rw [hvm]; exact hown
  have hins : (Cond.instantiable cls 6).before args s' = true := h _ (by simp [Bundle.ownAtoms])
  obtain ⟨vm₁, cX, kX, hfX, hkX, -, -, X₁, st1⟩ := Y.newCold hexec (own := own) (C := cls) (index := ik) (n := 6) hown' hk' hins hini'
    (g := F0 m pc ls rest) rfl (by rw [hb]; exact d0) (Nat.le_refl _) (Nat.le_refl _)
  generalize hT1 : (T.setVm vm₁).pushCell { cls := cX, slots := kX.instanceTypes.map defaultValue, vm := .none } = T1 at X₁ st1
  have hcat : (Value.ref T.heap.size).category = 1 := rfl
  have hcellA : T1.heap[T.heap.size]? = some (freshCell cX kX) := by rw [← hT1]; exact State.heap_pushCell_size _ _
  have d3' : decode c.code (pc + 3) = .ok (.dup, 1) := by rw [hb]; exact d3
  have d4' : decode c.code (pc + 4) = .ok (.ldc_w is, 3) := by rw [hb]; exact d4
  have hstr' : vk_R own is text sa s' := vk_R.warm hW0 hstr
  obtain ⟨U, hsteps, hrun, hend, hW, hsame, ce, hce, hO⟩ := X₁.ctorThrowS hexec htr (own := own) (cls := cls) (names := names) (ic := ic) hown' hcls hnames h (fun x hx => nomatch hx) hfX hkX hcellA (by rw [hhp, hT]; exact Nat.le_refl _) (msg := .ref sa) rfl
    (g := { method := m, pc := pc + 7, locals := ls, stack := .ref sa :: .ref T.heap.size :: .ref T.heap.size :: rest, locked := none }) rfl hsize rfl rfl (rest := rest) rfl
    (by rw [hb]; exact d7) (by rw [hb]; exact d10) hout hRframes (by simp only [List.map_cons, List.sum_cons, hcat]; omega) hlocks
  obtain ⟨f1, f2⟩ := vx_frame hsame
  rw [hhp] at f1 f2
  have hWs : s.WarmedH U.vm := State.WarmedH.trans hW0 hW
  have hcl : s.vm.findClass cls = some ce.cls := by
    have h9 := hO.cls
    rw [hvm] at h9
    exact h9
  have hall : s.sameButNew ({ U with vm := s.vm } : State) locs mc ms := by
    subst hA
    obtain ⟨e1, e2⟩ := hsame
    rw [State.setFrames_setFrames] at e1
    have h2 : (T.setVm s.vm).sameButNew ({ U with vm := s.vm } : State) [] (0 + 1) (0 + 6) := ⟨e1, e2⟩
    have h3 := X.same.trans h2
    rw [List.append_nil] at h3
    exact h3.mono hc hs
  refine ⟨U, ?_, .threw T.heap.size, hrun, hend, Or.inr ⟨T.heap.size, rfl, cls, ce, locs, hx U hWs.alike f1 (fun q hq => f2 q hq (fun z hz => nomatch hz)), hce, hO.vm, hcl, hWs, hall, hf⟩⟩
  refine st1 _ ?_
  show Steps p.tables e below (T1.setTop { method := m, pc := pc + 3, locals := ls, stack := .ref T.heap.size :: rest, locked := none }) _
  jvm_step X₁.here [X₁.here.top, hexec, d3', Value.category]
  exact X₁.ldcStringW hexec (own := own) (text := text) (index := is) (a := sa) hown' hstr'.1 hstr'.2
    (g := { method := m, pc := pc + 4, locals := ls, stack := .ref T.heap.size :: .ref T.heap.size :: rest, locked := none }) rfl d4' _ hsteps
end Ends
section Bodies
variable {l : Launch}
theorem vx_ofW {y : MethodName} {ws ws' : List Cond} {rm : Room} {Pc : Array Value → State → Prop} {Qc : Array Value → State → Outcome → State → Prop} {XC : String → State → State → Prop} {mc ms : Nat} {free : Addr → Prop} {cc : ByteArray} {maxL : Nat} {ret : Option FieldType}
    (hy : plainName y.cls = true) (hw : ws = Cond.code y cc maxL ret :: ws')
    (body : ∀ p e s m args below meth c s₁, BodyLoose p l y (headSpec ws rm) cc maxL ret e s m args below meth c s₁ → c.maxLocals = maxL → (∀ x ∈ c.exceptionTable.toList, False) → Pc args s →
      W p l e (headSpec ws rm).room s m args below meth c s.heap [] 0 0 (vx_MQ below Qc XC args s mc ms free) (entryFrame m args maxL)) : vx_Met l y ws rm Pc Qc XC mc ms free := by
  refine MetFree.of_bodyS (code := cc) (maxLocals := maxL) (ret := ret) hy ?_ ?_
  · intro args s m h hn
    obtain ⟨meth, c, h1, h2, h3, h4, h5, h6, -, -⟩ := Cond.code_spec hn (atoms_spec (ws := ws) h _ (by rw [hw]; exact List.mem_cons_self))
    exact ⟨meth, c, h1, h2, h3, h4, h5, h6⟩
  · intro p e s m args below meth c s₁ B hml hP _
    have hh0 : s₁.heap = s.heap := by rw [B.state]; rfl
    have ht : ∀ x ∈ c.exceptionTable.toList, False := by
      obtain ⟨meth9, c9, h1, h2, -, -, -, -, h7, -⟩ := Cond.code_spec B.named (atoms_spec (ws := ws) B.pre _ (by rw [hw]; exact List.mem_cons_self))
      cases Option.some.inj (h1.symm.trans B.method)
      cases Option.some.inj (h2.symm.trans (Stand.of_body B).code)
      intro x hx
      rw [Array.isEmpty_iff.mp h7] at hx
      cases hx
    obtain ⟨t, a1, o, b1, b2, b3⟩ := body p e s m args below meth c s₁ B hml ht hP s₁ hh0 (Stand.of_body B)
    exact ⟨t, o, a1, b1, b2, b3⟩
/-- the table of a body with handlers -/
theorem vx_table {p : Program} {x y : MethodName} {S : Spec} {cc bytes : ByteArray} {maxL maxL' : Nat} {ret ret' : Option FieldType} {e : Env} {s s₁ : State} {m : MethodId} {args : Array Value} {below : List Frame} {meth : Method} {c : Code} {hh : List (Nat × Nat × Nat × Nat)}
    (B : BodyLoose p l y S cc maxL ret e s m args below meth c s₁) (h : (Cond.codeWith y bytes maxL' ret' hh).before args s = true) : c.exceptionTable.toList = tableOf hh := by
  obtain ⟨m9, meth9, c9, hn9, h1, h2, -, -, h6, -⟩ := Cond.codeWith_spec h
  cases Option.some.inj (hn9.symm.trans B.named)
  cases Option.some.inj (h1.symm.trans B.method)
  cases Option.some.inj (h2.symm.trans (Stand.of_body B).code)
  rw [← h6, table_eq]
end Bodies
end VXA
/-! ===== END ===== -/
/-! ===== BEGIN a static call of a method with an exception table ===== -/
section VXS
variable {p : Program} {l : Launch} {e : Env} {R : Room} {s : State} {m : MethodId} {args : Array Value} {below : List Frame} {meth : Method} {c : Code} {T : State} {H : Heap} {locs : List Loc} {cells slots : Nat}
abbrev vx_CSW (R : Room) (s : State) (args : Array Value) (own : String) (index : Nat) (y : MethodName) (bytes : ByteArray) (maxL : Nat) (ret : Option FieldType) (hh : List (Nat × Nat × Nat × Nat)) (ws : List Cond) (rm : Room) (mc ms n : Nat) : Prop :=
  (rm.cells = mc ∧ rm.slots = ms ∧ rm.frames + 1 ≤ R.frames ∧ 8 + (maxL + 11) + rm.locals ≤ R.locals ∧ (∀ w ∈ ws, ∀ (a' : Array Value) (U : State), s.WarmedH U.vm → w.before a' U = true) ∧ Cond.codeWith y bytes maxL ret hh ∈ ws) ∧
  (Cond.codeWith y bytes maxL ret hh).before args s = true ∧ (Cond.initialized y.cls).before args s = true ∧ (y.cls ≠ "java/lang/invoke/MethodHandle" ∧ y.cls ≠ "java/lang/invoke/VarHandle") ∧
  (∀ sig, parseMethodDescriptor y.desc = some sig → n = sig.parameters.length) ∧ (Cond.methodLink own index y).before args s = true ∧ (Cond.static y).before args s = true
theorem vx_cwSW {own : String} {index maxL mc ms : Nat} {y : MethodName} {bytes : ByteArray} {ret : Option FieldType} {hh : List (Nat × Nat × Nat × Nat)} {Ts ws ws' : List Cond} {rm : Room} (n : Nat) (ht : ∀ w ∈ Ts, w.before args s = true) (hT : GoodIn Ts (va_wsS own index y ws)) (hw : ws = Cond.codeWith y bytes maxL ret hh :: ws') (hrc : rm.cells = mc) (hrs : rm.slots = ms)
    (hd : y.cls ≠ "java/lang/invoke/MethodHandle" ∧ y.cls ≠ "java/lang/invoke/VarHandle" ∧ (parseMethodDescriptor y.desc).map (fun d => d.parameters.length) = some n) (hR : rm.frames + 1 ≤ R.frames ∧ 8 + (maxL + 11) + rm.locals ≤ R.locals) :
    vx_CSW R s args own index y bytes maxL ret hh ws rm mc ms n := by
  have ok : ∀ w ∈ va_wsS own index y ws, w.before args s = true := fun w h => ht w (hT w h).1
  have hG : GoodIn Ts ws := fun w h => hT w (by unfold va_wsS; exact List.mem_append_right _ h)
  have hc : Cond.codeWith y bytes maxL ret hh ∈ ws := by rw [hw]; exact List.mem_cons_self
  refine ⟨⟨hrc, hrs, hR.1, hR.2, pay_in ht hG, hc⟩, ht _ (hG _ hc).1, ok _ (by simp [va_wsS]), ⟨hd.1, hd.2.1⟩, fun sig h => ?_, ok _ (by simp [va_wsS]), ok _ (by simp [va_wsS])⟩
  have h2 := hd.2.2
  rw [h] at h2
  exact (Option.some.inj h2).symm
theorem vx_callSW (X : Stand p l e R s m args below meth c T locs cells slots) (hexec : p.tables.exec = Jvm.exec) {own : String} {index : Nat} {y : MethodName} {bytes : ByteArray} {maxL : Nat} {ret : Option FieldType} {hh : List (Nat × Nat × Nat × Nat)}
    (hown : s.vm.findClass own = some m.cls) (hlink : (Cond.methodLink own index y).before args s = true) (hstat : (Cond.static y).before args s = true) (hinit : (Cond.initialized y.cls).before args s = true)
    (hcode : (Cond.codeWith y bytes maxL ret hh).before args s = true) (hy : y.cls ≠ "java/lang/invoke/MethodHandle" ∧ y.cls ≠ "java/lang/invoke/VarHandle")
    {W9 : Nat} {Pre : Pt → Array Value → Prop} {Post : Pt → Array Value → Option Value → Pt → Prop} (hK : Back l R p e below s args y 3 W9 Pre Post)
    {g : JFrame} (hg : g.method = m) (hsize : g.locals.size = c.maxLocals) {argsL rest : List Value} (hlen : ∀ sig, parseMethodDescriptor y.desc = some sig → argsL.length = sig.parameters.length)
    (hstack : g.stack = argsL.reverse ++ rest) (hW : 2 * g.monitorRoom + (rest.map fun v => v.category).sum ≤ W9) (hdg : decode c.code g.pc = .ok (.invokestatic index, 3))
    (hpre : ∀ vm₁, s.WarmedH vm₁ → Pre ⟨T.setVm vm₁, locs, cells, slots⟩ argsL.toArray) :
    ∃ (v : Option Value) (vm₁ : Vm) (B : Pt), s.WarmedH vm₁ ∧ Stand p l e R s m args below meth c B.U B.locs B.cells B.slots ∧ Post ⟨T.setVm vm₁, locs, cells, slots⟩ argsL.toArray v B ∧
      ∀ target, Steps p.tables e below (B.U.setTop { g with pc := g.pc + 3, stack := v.toList ++ rest }) target → Steps p.tables e below (T.setTop g) target := by
  obtain ⟨mk, methM, cM, hnamed, hmethM, -, -, -, -, -, -, hsigM⟩ := Cond.codeWith_spec hcode
  have hstatic : methM.isStatic = true := Cond.static_spec hnamed hmethM hstat
  obtain ⟨kP, hkP, -⟩ := className_of_methodNamed hnamed
  have hinitP : kP.init = .initialized := Cond.initialized_spec (findClass_of_methodNamed hnamed) hkP hinit
  obtain ⟨vm₁, X₁, hstep₁⟩ := X.invokestatic hexec hown hlink hnamed hmethM hstatic hkP hinitP hy (g := g) hg (argsL := argsL) (rest := rest) (hlen _ hsigM) hstack hdg
  obtain ⟨v, B, X', hpost, hsteps⟩ := hK m meth c ⟨T.setVm vm₁, locs, cells, slots⟩ { g with stack := rest } (.invokestatic index) mk argsL.toArray X₁ hg hsize hdg hW (X₁.named hnamed) (hpre vm₁ X₁.warmed)
  exact ⟨v, vm₁, B, X₁.warmed, X', hpost, fun target h => hstep₁ _ fun acts => by rw [doInvoke_state]; exact hsteps.trans h⟩
theorem vx_runSW {y : MethodName} {bytes cc : ByteArray} {maxL nL mc ms n index : Nat} {ret : Option FieldType} {hh : List (Nat × Nat × Nat × Nat)} {ws : List Cond} {rm : Room} {Pc : Array Value → State → Prop} {Qc : Array Value → State → Outcome → State → Prop} {free : Addr → Prop} {Ts : List Cond} {own : String} {As rest : List Value} {g : JFrame}
    (S : CallFix p m c cc nL s args Ts own) (hM : Met l y ws rm Pc Qc mc ms free) (cw : vx_CSW R s args own index y bytes maxL ret hh ws rm mc ms n) (hp : PreS s H Pc As)
    (hg : g.method = m) (hn : As.length = n) (hsize : g.locals.size = nL) (hstack : g.stack = As.reverse ++ rest) (hW : 2 * g.monitorRoom + (rest.map fun v => v.category).sum ≤ 8) (hdg : decode cc g.pc = .ok (.invokestatic index, 3)) (hf : cells + mc ≤ R.cells ∧ slots + ms ≤ R.slots) :
    va_Run p l e R s m args below meth c H locs cells slots mc ms g rest (Qc As.toArray) (free) := by
  obtain ⟨⟨hrc, hrs, hfr, hlo, hws, hcw⟩, hcode, hini, hy, hlen, hl, hstt⟩ := cw
  have hK : Back l R p e below s args y 3 8 (PreOf R mc ms Pc) (PostOf Qc mc ms free) := va_backW (hh := hh) (bytes := bytes) (maxL := maxL) (ret := ret) hM hp.1 hrc hrs hfr hlo hws hcw (fun a' U hW => word_at hW (Or.inl (by first | rfl | simp [Cond.onTables, Cond.keeps, Cond.steady])) hini)
  obtain ⟨hx, hb, hml, ho, -⟩ := S
  intro T hT X
  obtain ⟨v, vm₁, ⟨U', l2, c2, s2⟩, hW₁, X', ⟨g', mk, t, L, e1, e2, hq, h1, hL, h2, h3⟩, st⟩ := vx_callSW X hx (hh := hh) (bytes := bytes) (maxL := maxL) (ret := ret) ho hl hstt hini hcode hy hK hg (hsize.trans hml.symm) (argsL := As) (rest := rest) (fun sig h => hn.trans (hlen sig h)) hstack hW (by rw [hb]; exact hdg)
    (fun vm₁ hW₁ => ⟨hf.1, hf.2, hp.2 (T.setVm vm₁) hT hW₁⟩)
  dsimp only [Pt.U, Pt.locs, Pt.cells, Pt.slots] at X' e1 e2 h1 h2 h3 st
  subst h1; subst h2; subst h3
  exact ⟨v, (T.setVm vm₁).calling g' mk As.toArray, t, U', L, hT, X', hL, e1, e2, hq, st⟩
/-- not caught here, past rows that name other classes: it goes on to the caller -/
theorem vx_outP {p : Program} {l : Launch} {e : Env} {R : Room} {s : State} {m : MethodId} {args : Array Value} {below : List Frame} {meth : Method} {c : Code} {H : Heap} {locs : List Loc} {cells slots : Nat} {free : Addr → Prop} {ls : Array Slot} {rest : List Value} {Qc : Array Value → State → Outcome → State → Prop} {XC : String → State → State → Prop}
    {pc : Nat} {own E : String} {ce : Cell} {q : Addr} {mc ms : Nat} (hown : s.vm.findClass own = some m.cls) (hlocks : meth.locks = false)
    (hpass : ∀ z ∈ c.exceptionTable.toList, covers z pc = false ∨ (z.catchType ≠ 0 ∧ ∃ nm : String, (Cond.classLink own z.catchType nm).before args s = true ∧ va_Nc E nm s)) (hcell : H[q]? = some ce) (hv : ce.vm = .none) (hcl : s.vm.findClass E = some ce.cls)
    (hx : ∀ t : State, t.heap = H → s.vm.Alike t.vm → XC E s t) (hf : ∀ z ∈ locs, free z.base) (hc : cells ≤ mc) (hs : slots ≤ ms) :
    vx_W p l e R s m args below meth c H locs cells slots (vx_MQ below Qc XC args s mc ms free) (F0 m pc ls rest) q := by
  intro T hT X
  have hpl : e.platform.magicAccessors = ({} : Platform).magicAccessors := by rw [X.admits.platform]
  obtain ⟨vm', hW', X', st⟩ := X.outThrough hlocks q (g := F0 m pc ls rest) rfl rfl rfl (cell := ce) (by rw [hT]; exact hcell) (by rw [hv]; rfl)
    (by obtain ⟨k9, h9, -⟩ := Vm.findClass_spec hcl; exact ⟨k9, h9⟩) (fun z hz => by
      rcases hpass z hz with h | ⟨hz0, nm, hl1, hn1⟩
      · exact Or.inl h
      · obtain ⟨c6, hc6, hcl6⟩ := Cond.classLink_spec hown hl1 e.platform hpl
        obtain ⟨a8, b8, h1, h2, h3⟩ := hn1
        cases Option.some.inj (h1.symm.trans hcl)
        cases Option.some.inj (h2.symm.trans hc6)
        exact Or.inr ⟨hz0, _, hcl6, h3⟩)
  obtain ⟨g₀, hfr⟩ := X'.frames_eq
  have hcell9 : ((T.setVm vm').setFrames (.throwing q :: below)).heap[q]? = some ce := by
    show T.heap[q]? = some ce
    rw [hT]; exact hcell
  have hend : Ended ((T.setVm vm').setFrames (.throwing q :: below)) below (.threw q) := State.frames_setFrames _ (State.cur_lt_of_frames hfr)
  refine ⟨(T.setVm vm').setFrames (.throwing q :: below), ?_, .threw q, X'.here.running, hend, Or.inr ⟨q, rfl, E, ce, locs, hx _ hT (X'.ends _).1.alike, hcell9, hv, hcl, (X'.ends _).1, (X'.ends _).2.mono hc hs, hf⟩⟩
  rw [X.pushThrowing_eq]
  exact st
/-- a thing of a world lies in the heap -/
theorem vx_lt {D : va_G} {cl : List vw_C} {ws : va_W} {H1 : Heap} (h : va_P D cl ws H1) {k : Nat} {q : Nat × va_E} (hk : ws[k]? = some q) : q.1 < H1.size := (h k q hk).lt
end VXS
/-! ===== END ===== -/
/-! ===== BEGIN methods with a table of their own: called by a name, returning or throwing ===== -/
section VXH
/-! vx_backW, vx_callVX, vx_callSX, vx_callVW, vx_runVW, vx_runVX, vx_runSX, vx_ofWH follow the same proofs as their sisters above (Free/Laws.lean, Shelf42/LK1.lean); vx_outP calls Shelf42/NT130.lean (outThrough). -/
section
variable {l : Launch} {R : Room} {p : Program} {e : Env} {below : List Frame} {s : State} {sargs : Array Value} {y : MethodName} {len W9 : Nat}
theorem vx_backW {ws : List Cond} {rm : Room} {Pc : Array Value → State → Prop} {Qc : Array Value → State → Outcome → State → Prop} {XC : String → State → State → Prop} {mc ms : Nat} {free : Addr → Prop} {bytes : ByteArray} {maxL : Nat} {ret : Option FieldType} {hh : List (Nat × Nat × Nat × Nat)}
    (hM : vx_Met l y ws rm Pc Qc XC mc ms free) (hblind : FrameBlind Pc) (hrc : rm.cells = mc) (hrs : rm.slots = ms)
    (hframes : rm.frames + 1 ≤ R.frames) (hlocals : W9 + (maxL + 11) + rm.locals ≤ R.locals)
    (hws : ∀ w ∈ ws, ∀ a' U, s.WarmedH U.vm → w.before a' U = true) (hcode : Cond.codeWith y bytes maxL ret hh ∈ ws) (hinit : ∀ a' U, s.WarmedH U.vm → (Cond.initialized y.cls).before a' U = true) :
    vx_Back l R p e below s sargs y len W9 (PreOf R mc ms Pc) (PostOf Qc mc ms free) (vx_Post XC mc ms free) := by
  intro m meth c A g ig mk a X hg hsize hdg hW hn hp
  have h1 : (headSpec ws rm).pre.before a A.U = true := atoms_intro fun w hw => hws w hw _ _ X.warmed
  have h2 : (Cond.codeWith y bytes maxL ret hh).before a A.U = true := hws _ hcode _ _ X.warmed
  have h3 : (Cond.initialized y.cls).before a A.U = true := hinit _ _ X.warmed
  have h4 : A.cells + (headSpec ws rm).room.cells ≤ R.cells := by rw [show (headSpec ws rm).room.cells = mc from hrc]; exact hp.1
  have h5 : A.slots + (headSpec ws rm).room.slots ≤ R.slots := by rw [show (headSpec ws rm).room.slots = ms from hrs]; exact hp.2.1
  have hPc : Pc a (A.U.calling g mk a) := hblind _ _ _ _ hp.2.2
  obtain ⟨U, Ls, c0, s0⟩ := A
  dsimp only [Pt.U, Pt.locs, Pt.cells, Pt.slots] at h1 h2 h3 h4 h5 X hn hPc ⊢
  obtain ⟨m9, methY, cY, hn9, hmY, hcY, -, hlY, -⟩ := Cond.codeWith_spec h2
  cases Option.some.inj (hn9.symm.trans hn)
  obtain ⟨kY, hkY, -⟩ := className_of_methodNamed hn
  have hinitY : kY.init = .initialized := Cond.initialized_spec (findClass_of_methodNamed hn) hkY h3
  have h : At U g.method c below := by rw [hg]; exact X.here
  have hlocals9 : W9 + (maxL + 11) + (headSpec ws rm).room.locals ≤ R.locals := hlocals
  have happ : (headSpec ws rm).appliesLoose y e.platform (U.calling g mk a) = true :=
    Spec.appliesLoose_calling (g := g) h hdg hn hkY hinitY
      (X.room_calling (g := g) (R' := (headSpec ws rm).room) hsize hmY hcY hframes (by rw [hlY]; omega) h4 h5) h1
  obtain ⟨mid, hmid⟩ := h.above
  have hfr : (U.setTop g).frames = (.java g :: mid) ++ below := by rw [State.frames_setTop' g h.top, hmid]; rfl
  obtain ⟨o, s₂, hsteps, -, hend, hq⟩ := Steps.callFree hM p X.admits X.cas X.clock (acts := []) hfr happ hPc trivial
  have hq' : vx_Q Qc XC mc ms free a (U.calling g mk a) o s₂ := hq
  rw [State.frames_setTop' g h.top] at hend
  obtain ⟨g₀, hg0⟩ := Option.isSome_iff_exists.mp h.top
  obtain ⟨r, hr⟩ := State.topJava?_eq_some.mp hg0
  have hr' : (({ U with heap := s₂.heap, slotsUsed := s₂.slotsUsed } : State).setVm s₂.vm).frames = .java g₀ :: r := hr
  rcases hq' with ⟨hqc, L, hfe, hL⟩ | ⟨q, rfl, E, ce, L, hx, hce, hcv, hcl, hW₂, hsm, hL⟩
  · obtain ⟨⟨v, rfl⟩, hW₂, e2, q2, q3, q4, q5, q6⟩ := id hfe
    have e3 : s₂ = ({ (U.calling g mk a).setFrames s₂.frames with heap := s₂.heap, slotsUsed := s₂.slotsUsed } : State).setVm s₂.vm := by
      have : s₂ = ({ s₂ with vm := (U.calling g mk a).vm } : State).setVm s₂.vm := rfl
      rw [e2] at this
      exact this
    obtain ⟨c₂, i₂, len₂, hc₂, hd₂, hf₂⟩ := hend
    have hW' : U.WarmedH s₂.vm := hW₂
    have hcc : c₂ = c := by
      have h1 : s₂.code? g.method = U.code? g.method := by
        rw [State.code?_eq, State.code?_eq, hW'.alike.method?]
      exact Option.some.inj (hc₂.symm.trans (h1.trans h.code))
    subst hcc
    have hlen : len₂ = len := by rw [hdg] at hd₂; cases hd₂; rfl
    subst hlen
    have hs₂ : s₂ = (({ U with heap := s₂.heap, slotsUsed := s₂.slotsUsed } : State).setVm s₂.vm).setTop { g with pc := g.pc + len₂, stack := v.toList ++ g.stack } := by
      refine e3.trans ?_
      rw [hf₂, State.calling_eq h.top, State.setFrames_setFrames, State.setTop_of_frames _ hr', hr]
      rfl
    have hsame : U.sameButNew ({ U with heap := s₂.heap, slotsUsed := s₂.slotsUsed } : State) L mc ms := by
      refine ⟨?_, q2, q3, q4, q5, q6⟩
      obtain ⟨t, ht, -⟩ := State.frames_cons hr
      show ({ U with heap := s₂.heap, slotsUsed := s₂.slotsUsed } : State) = { U.setFrames U.frames with heap := s₂.heap, slotsUsed := s₂.slotsUsed }
      rw [State.setFrames_self ht]
    subst hg
    refine Or.inl ⟨v, ⟨(({ U with heap := s₂.heap, slotsUsed := s₂.slotsUsed } : State).setVm s₂.vm), Ls ++ L, c0 + mc, s0 + ms⟩,
      ⟨X.admits, X.cas, X.clock, X.frames, X.room, X.hears, X.method, X.code, (X.here.setHeapUsed s₂.heap s₂.slotsUsed).setVm hW'.alike, X.tail, State.WarmedH.trans X.warmed hW', X.limits, X.bytes, X.same.trans (hsame.setVm s.vm)⟩,
      ⟨g, mk, s₂, L, rfl, rfl, hqc, rfl, hL, rfl, rfl⟩, ?_⟩
    show Steps p.tables e below _ ((({ U with heap := s₂.heap, slotsUsed := s₂.slotsUsed } : State).setVm s₂.vm).setTop { g with pc := g.pc + len₂, stack := v.toList ++ g.stack })
    rw [← hs₂]
    exact hsteps
  · obtain ⟨e2, q2, q3, q4, q5, q6⟩ := id hsm
    have e3 : s₂ = ({ (U.calling g mk a).setFrames s₂.frames with heap := s₂.heap, slotsUsed := s₂.slotsUsed } : State).setVm s₂.vm := by
      have : s₂ = ({ s₂ with vm := (U.calling g mk a).vm } : State).setVm s₂.vm := rfl
      rw [e2] at this
      exact this
    have hf₂ : s₂.frames = .throwing q :: .java g :: U.frames.tail := hend
    have hW' : U.WarmedH s₂.vm := hW₂
    have hs₂ : s₂ = ((({ U with heap := s₂.heap, slotsUsed := s₂.slotsUsed } : State).setVm s₂.vm).setTop g).pushFrame (.throwing q) := by
      refine e3.trans ?_
      rw [hf₂, State.calling_eq h.top, State.setFrames_setFrames, State.pushFrame, State.frames_setTop _ hr', State.setTop_of_frames _ hr', State.setFrames_setFrames, hr]
      rfl
    have hsame : U.sameButNew ({ U with heap := s₂.heap, slotsUsed := s₂.slotsUsed } : State) L mc ms := by
      refine ⟨?_, q2, q3, q4, q5, q6⟩
      obtain ⟨t, ht, -⟩ := State.frames_cons hr
      show ({ U with heap := s₂.heap, slotsUsed := s₂.slotsUsed } : State) = { U.setFrames U.frames with heap := s₂.heap, slotsUsed := s₂.slotsUsed }
      rw [State.setFrames_self ht]
    subst hg
    refine Or.inr ⟨q, ⟨(({ U with heap := s₂.heap, slotsUsed := s₂.slotsUsed } : State).setVm s₂.vm), Ls ++ L, c0 + mc, s0 + ms⟩,
      ⟨X.admits, X.cas, X.clock, X.frames, X.room, X.hears, X.method, X.code, (X.here.setHeapUsed s₂.heap s₂.slotsUsed).setVm hW'.alike, X.tail, State.WarmedH.trans X.warmed hW', X.limits, X.bytes, X.same.trans (hsame.setVm s.vm)⟩,
      ⟨g, mk, s₂, L, E, ce, rfl, rfl, hx, hce, hcv, hcl, rfl, hL, rfl, rfl⟩, ?_⟩
    show Steps p.tables e below _ (((({ U with heap := s₂.heap, slotsUsed := s₂.slotsUsed } : State).setVm s₂.vm).setTop g).pushFrame (.throwing q))
    rw [← hs₂]
    exact hsteps
end
variable {p : Program} {l : Launch} {e : Env} {R : Room} {s : State} {m : MethodId} {args : Array Value} {below : List Frame} {meth : Method} {c : Code} {T : State} {H : Heap} {locs : List Loc} {cells slots : Nat}
theorem vx_callVX (X : Stand p l e R s m args below meth c T locs cells slots) (hexec : p.tables.exec = Jvm.exec) {own C : String} {index : Nat} {y : MethodName} {bytes : ByteArray} {maxL : Nat} {ret : Option FieldType} {hh : List (Nat × Nat × Nat × Nat)}
    (hown : s.vm.findClass own = some m.cls) (hlink : (Cond.methodLink own index y).before args s = true) (hinst : (Cond.instanceMethod y).before args s = true) (hsel : (Cond.selects C y y).before args s = true)
    (hcode : (Cond.codeWith y bytes maxL ret hh).before args s = true) (hy : y.cls ≠ "java/lang/invoke/MethodHandle" ∧ y.cls ≠ "java/lang/invoke/VarHandle")
    {W9 : Nat} {Pre : Pt → Array Value → Prop} {Post : Pt → Array Value → Option Value → Pt → Prop} {PostX : Pt → Array Value → Addr → Pt → Prop} (hK : vx_Back l R p e below s args y 3 W9 Pre Post PostX)
    {b : Addr} {cellB : Cell} (hcell : T.heap[b]? = some cellB) (hobj : cellB.vm.isStatics = false) (hcls : s.vm.findClass C = some cellB.cls)
    {g : JFrame} (hg : g.method = m) (hsize : g.locals.size = c.maxLocals) {argsL rest : List Value} (hlen : ∀ sig, parseMethodDescriptor y.desc = some sig → argsL.length = sig.parameters.length)
    (hstack : g.stack = argsL.reverse ++ .ref b :: rest) (hW : 2 * g.monitorRoom + (rest.map fun v => v.category).sum ≤ W9) (hdg : decode c.code g.pc = .ok (.invokevirtual index, 3))
    (hpre : ∀ vm₁, s.WarmedH vm₁ → Pre ⟨T.setVm vm₁, locs, cells, slots⟩ (Value.ref b :: argsL).toArray) :
    (∃ (v : Option Value) (vm₁ : Vm) (B : Pt), s.WarmedH vm₁ ∧ Stand p l e R s m args below meth c B.U B.locs B.cells B.slots ∧ Post ⟨T.setVm vm₁, locs, cells, slots⟩ (Value.ref b :: argsL).toArray v B ∧
      ∀ target, Steps p.tables e below (B.U.setTop { g with pc := g.pc + 3, stack := v.toList ++ rest }) target → Steps p.tables e below (T.setTop g) target) ∨
    (∃ (q : Addr) (vm₁ : Vm) (B : Pt), s.WarmedH vm₁ ∧ Stand p l e R s m args below meth c B.U B.locs B.cells B.slots ∧ PostX ⟨T.setVm vm₁, locs, cells, slots⟩ (Value.ref b :: argsL).toArray q B ∧
      Steps p.tables e below (T.setTop g) ((B.U.setTop { g with stack := rest }).pushFrame (.throwing q))) := by
  obtain ⟨mk, methM, hnamed, hmethM, hstM, habM⟩ := Cond.instanceMethod_spec hinst
  obtain ⟨m8, methM', cM, hn8, hmethM', -, -, -, -, -, -, hsigM⟩ := Cond.codeWith_spec hcode
  cases Option.some.inj (hn8.symm.trans hnamed)
  cases hmethM.symm.trans hmethM'
  obtain ⟨c2, r2, m2, q1, q2, q3, q4, kP, hkP, hkPi⟩ := Cond.selects_spec hsel
  cases hcls.symm.trans q1
  cases (State.methodFound?_of_named hnamed hy).symm.trans q2
  cases hnamed.symm.trans q3
  have hselP : selectMethod e.platform s.vm cellB.cls mk = .method mk := by rw [Launch.admits_selectMethod X.admits]; exact q4
  obtain ⟨vm₁, X₁, hstep₁⟩ := X.invokevirtual hexec hown hlink hnamed hmethM hstM hkP hkPi hy (a := b) (cell := cellB) hcell
    (fun z h => by rw [h] at hobj; cases hobj) hselP hmethM habM hkP hkPi (g := g) hg (argsL := argsL) (rest := rest) (hlen _ hsigM) hstack hdg
  rcases hK m meth c ⟨T.setVm vm₁, locs, cells, slots⟩ { g with stack := rest } (.invokevirtual index) mk (Value.ref b :: argsL).toArray X₁ hg hsize hdg hW (X₁.named hnamed) (hpre vm₁ X₁.warmed) with ⟨v, B, X', hpost, hsteps⟩ | ⟨q, B, X', hpost, hsteps⟩
  · exact Or.inl ⟨v, vm₁, B, X₁.warmed, X', hpost, fun target h => hstep₁ _ fun acts => by rw [doInvoke_state]; exact hsteps.trans h⟩
  · exact Or.inr ⟨q, vm₁, B, X₁.warmed, X', hpost, hstep₁ _ fun acts => by rw [doInvoke_state]; exact hsteps⟩
theorem vx_callSX (X : Stand p l e R s m args below meth c T locs cells slots) (hexec : p.tables.exec = Jvm.exec) {own : String} {index : Nat} {y : MethodName} {bytes : ByteArray} {maxL : Nat} {ret : Option FieldType} {hh : List (Nat × Nat × Nat × Nat)}
    (hown : s.vm.findClass own = some m.cls) (hlink : (Cond.methodLink own index y).before args s = true) (hstat : (Cond.static y).before args s = true) (hinit : (Cond.initialized y.cls).before args s = true)
    (hcode : (Cond.codeWith y bytes maxL ret hh).before args s = true) (hy : y.cls ≠ "java/lang/invoke/MethodHandle" ∧ y.cls ≠ "java/lang/invoke/VarHandle")
    {W9 : Nat} {Pre : Pt → Array Value → Prop} {Post : Pt → Array Value → Option Value → Pt → Prop} {PostX : Pt → Array Value → Addr → Pt → Prop} (hK : vx_Back l R p e below s args y 3 W9 Pre Post PostX)
    {g : JFrame} (hg : g.method = m) (hsize : g.locals.size = c.maxLocals) {argsL rest : List Value} (hlen : ∀ sig, parseMethodDescriptor y.desc = some sig → argsL.length = sig.parameters.length)
    (hstack : g.stack = argsL.reverse ++ rest) (hW : 2 * g.monitorRoom + (rest.map fun v => v.category).sum ≤ W9) (hdg : decode c.code g.pc = .ok (.invokestatic index, 3))
    (hpre : ∀ vm₁, s.WarmedH vm₁ → Pre ⟨T.setVm vm₁, locs, cells, slots⟩ argsL.toArray) :
    (∃ (v : Option Value) (vm₁ : Vm) (B : Pt), s.WarmedH vm₁ ∧ Stand p l e R s m args below meth c B.U B.locs B.cells B.slots ∧ Post ⟨T.setVm vm₁, locs, cells, slots⟩ argsL.toArray v B ∧
      ∀ target, Steps p.tables e below (B.U.setTop { g with pc := g.pc + 3, stack := v.toList ++ rest }) target → Steps p.tables e below (T.setTop g) target) ∨
    (∃ (q : Addr) (vm₁ : Vm) (B : Pt), s.WarmedH vm₁ ∧ Stand p l e R s m args below meth c B.U B.locs B.cells B.slots ∧ PostX ⟨T.setVm vm₁, locs, cells, slots⟩ argsL.toArray q B ∧
      Steps p.tables e below (T.setTop g) ((B.U.setTop { g with stack := rest }).pushFrame (.throwing q))) := by
  obtain ⟨mk, methM, cM, hnamed, hmethM, -, -, -, -, -, -, hsigM⟩ := Cond.codeWith_spec hcode
  have hstatic : methM.isStatic = true := Cond.static_spec hnamed hmethM hstat
  obtain ⟨kP, hkP, -⟩ := className_of_methodNamed hnamed
  have hinitP : kP.init = .initialized := Cond.initialized_spec (findClass_of_methodNamed hnamed) hkP hinit
  obtain ⟨vm₁, X₁, hstep₁⟩ := X.invokestatic hexec hown hlink hnamed hmethM hstatic hkP hinitP hy (g := g) hg (argsL := argsL) (rest := rest) (hlen _ hsigM) hstack hdg
  rcases hK m meth c ⟨T.setVm vm₁, locs, cells, slots⟩ { g with stack := rest } (.invokestatic index) mk argsL.toArray X₁ hg hsize hdg hW (X₁.named hnamed) (hpre vm₁ X₁.warmed) with ⟨v, B, X', hpost, hsteps⟩ | ⟨q, B, X', hpost, hsteps⟩
  · exact Or.inl ⟨v, vm₁, B, X₁.warmed, X', hpost, fun target h => hstep₁ _ fun acts => by rw [doInvoke_state]; exact hsteps.trans h⟩
  · exact Or.inr ⟨q, vm₁, B, X₁.warmed, X', hpost, hstep₁ _ fun acts => by rw [doInvoke_state]; exact hsteps⟩
theorem vx_callVW (X : Stand p l e R s m args below meth c T locs cells slots) (hexec : p.tables.exec = Jvm.exec) {own C : String} {index : Nat} {y : MethodName} {bytes : ByteArray} {maxL : Nat} {ret : Option FieldType} {hh : List (Nat × Nat × Nat × Nat)}
    (hown : s.vm.findClass own = some m.cls) (hlink : (Cond.methodLink own index y).before args s = true) (hinst : (Cond.instanceMethod y).before args s = true) (hsel : (Cond.selects C y y).before args s = true)
    (hcode : (Cond.codeWith y bytes maxL ret hh).before args s = true) (hy : y.cls ≠ "java/lang/invoke/MethodHandle" ∧ y.cls ≠ "java/lang/invoke/VarHandle")
    {W9 : Nat} {Pre : Pt → Array Value → Prop} {Post : Pt → Array Value → Option Value → Pt → Prop} (hK : Back l R p e below s args y 3 W9 Pre Post)
    {b : Addr} {cellB : Cell} (hcell : T.heap[b]? = some cellB) (hobj : cellB.vm.isStatics = false) (hcls : s.vm.findClass C = some cellB.cls)
    {g : JFrame} (hg : g.method = m) (hsize : g.locals.size = c.maxLocals) {argsL rest : List Value} (hlen : ∀ sig, parseMethodDescriptor y.desc = some sig → argsL.length = sig.parameters.length)
    (hstack : g.stack = argsL.reverse ++ .ref b :: rest) (hW : 2 * g.monitorRoom + (rest.map fun v => v.category).sum ≤ W9) (hdg : decode c.code g.pc = .ok (.invokevirtual index, 3))
    (hpre : ∀ vm₁, s.WarmedH vm₁ → Pre ⟨T.setVm vm₁, locs, cells, slots⟩ (Value.ref b :: argsL).toArray) :
    ∃ (v : Option Value) (vm₁ : Vm) (B : Pt), s.WarmedH vm₁ ∧ Stand p l e R s m args below meth c B.U B.locs B.cells B.slots ∧ Post ⟨T.setVm vm₁, locs, cells, slots⟩ (Value.ref b :: argsL).toArray v B ∧
      ∀ target, Steps p.tables e below (B.U.setTop { g with pc := g.pc + 3, stack := v.toList ++ rest }) target → Steps p.tables e below (T.setTop g) target := by
  obtain ⟨mk, methM, hnamed, hmethM, hstM, habM⟩ := Cond.instanceMethod_spec hinst
  obtain ⟨m8, methM', cM, hn8, hmethM', -, -, -, -, -, -, hsigM⟩ := Cond.codeWith_spec hcode
  cases Option.some.inj (hn8.symm.trans hnamed)
  cases hmethM.symm.trans hmethM'
  obtain ⟨c2, r2, m2, q1, q2, q3, q4, kP, hkP, hkPi⟩ := Cond.selects_spec hsel
  cases hcls.symm.trans q1
  cases (State.methodFound?_of_named hnamed hy).symm.trans q2
  cases hnamed.symm.trans q3
  have hselP : selectMethod e.platform s.vm cellB.cls mk = .method mk := by rw [Launch.admits_selectMethod X.admits]; exact q4
  obtain ⟨vm₁, X₁, hstep₁⟩ := X.invokevirtual hexec hown hlink hnamed hmethM hstM hkP hkPi hy (a := b) (cell := cellB) hcell
    (fun z h => by rw [h] at hobj; cases hobj) hselP hmethM habM hkP hkPi (g := g) hg (argsL := argsL) (rest := rest) (hlen _ hsigM) hstack hdg
  obtain ⟨v, B, X', hpost, hsteps⟩ := hK m meth c ⟨T.setVm vm₁, locs, cells, slots⟩ { g with stack := rest } (.invokevirtual index) mk (Value.ref b :: argsL).toArray X₁ hg hsize hdg hW (X₁.named hnamed) (hpre vm₁ X₁.warmed)
  exact ⟨v, vm₁, B, X₁.warmed, X', hpost, fun target h => hstep₁ _ fun acts => by rw [doInvoke_state]; exact hsteps.trans h⟩
abbrev vx_CVW (R : Room) (s : State) (args : Array Value) (own C : String) (index : Nat) (y : MethodName) (bytes : ByteArray) (maxL : Nat) (ret : Option FieldType) (hh : List (Nat × Nat × Nat × Nat)) (ws : List Cond) (rm : Room) (mc ms n : Nat) : Prop :=
  (rm.cells = mc ∧ rm.slots = ms ∧ rm.frames + 1 ≤ R.frames ∧ 8 + (maxL + 11) + rm.locals ≤ R.locals ∧ (∀ w ∈ ws, ∀ (a' : Array Value) (U : State), s.WarmedH U.vm → w.before a' U = true) ∧ Cond.codeWith y bytes maxL ret hh ∈ ws) ∧
  (Cond.codeWith y bytes maxL ret hh).before args s = true ∧ (Cond.initialized y.cls).before args s = true ∧ (y.cls ≠ "java/lang/invoke/MethodHandle" ∧ y.cls ≠ "java/lang/invoke/VarHandle") ∧
  (∀ sig, parseMethodDescriptor y.desc = some sig → n = sig.parameters.length) ∧ (Cond.methodLink own index y).before args s = true ∧ (Cond.instanceMethod y).before args s = true ∧ (Cond.selects C y y).before args s = true
theorem vx_cwVW {own C : String} {index maxL mc ms : Nat} {y : MethodName} {bytes : ByteArray} {ret : Option FieldType} {hh : List (Nat × Nat × Nat × Nat)} {Ts ws ws' : List Cond} {rm : Room} (n : Nat) (ht : ∀ w ∈ Ts, w.before args s = true) (hT : GoodIn Ts (wsV own index C y ws)) (hw : ws = Cond.codeWith y bytes maxL ret hh :: ws') (hrc : rm.cells = mc) (hrs : rm.slots = ms)
    (hd : y.cls = C ∧ y.cls ≠ "java/lang/invoke/MethodHandle" ∧ y.cls ≠ "java/lang/invoke/VarHandle" ∧ (parseMethodDescriptor y.desc).map (fun d => d.parameters.length) = some n) (hR : rm.frames + 1 ≤ R.frames ∧ 8 + (maxL + 11) + rm.locals ≤ R.locals) :
    vx_CVW R s args own C index y bytes maxL ret hh ws rm mc ms n := by
  obtain ⟨hC, hd⟩ := hd
  subst hC
  have ok : ∀ w ∈ wsV own index y.cls y ws, w.before args s = true := fun w h => ht w (hT w h).1
  have hG : GoodIn Ts ws := fun w h => hT w (by unfold wsV; exact List.mem_append_right _ h)
  have hc : Cond.codeWith y bytes maxL ret hh ∈ ws := by rw [hw]; exact List.mem_cons_self
  refine ⟨⟨hrc, hrs, hR.1, hR.2, pay_in ht hG, hc⟩, ht _ (hG _ hc).1, ok _ (by simp [wsV]), ⟨hd.1, hd.2.1⟩, fun sig h => ?_, ok _ (by simp [wsV]), ok _ (by simp [wsV]), ok _ (by simp [wsV])⟩
  have h2 := hd.2.2
  rw [h] at h2
  exact (Option.some.inj h2).symm
theorem vx_runVW {y : MethodName} {bytes cc : ByteArray} {maxL nL mc ms n index : Nat} {ret : Option FieldType} {hh : List (Nat × Nat × Nat × Nat)} {ws : List Cond} {rm : Room} {Pc : Array Value → State → Prop} {Qc : Array Value → State → Outcome → State → Prop} {free : Addr → Prop} {Ts : List Cond} {own C : String} {b : Addr} {As rest : List Value} {g : JFrame}
    (S : CallFix p m c cc nL s args Ts own) (hM : Met l y ws rm Pc Qc mc ms free) (cw : vx_CVW R s args own C index y bytes maxL ret hh ws rm mc ms n) (hp : PreV s H C b Pc As)
    (hg : g.method = m) (hn : As.length = n) (hsize : g.locals.size = nL) (hstack : g.stack = As.reverse ++ .ref b :: rest) (hW : 2 * g.monitorRoom + (rest.map fun v => v.category).sum ≤ 8) (hdg : decode cc g.pc = .ok (.invokevirtual index, 3)) (hf : cells + mc ≤ R.cells ∧ slots + ms ≤ R.slots) :
    va_Run p l e R s m args below meth c H locs cells slots mc ms g rest (Qc (Value.ref b :: As).toArray) free := by
  obtain ⟨⟨hrc, hrs, hfr, hlo, hws, hcw⟩, hcode, hini, hy, hlen, hl, hin, hse⟩ := cw
  have hK : Back l R p e below s args y 3 8 (PreOf R mc ms Pc) (PostOf Qc mc ms free) := va_backW (hh := hh) (bytes := bytes) (maxL := maxL) (ret := ret) hM hp.1 hrc hrs hfr hlo hws hcw (fun a' U hW => word_at hW (Or.inl (by first | rfl | simp [Cond.onTables, Cond.keeps, Cond.steady])) hini)
  obtain ⟨hx, hb, hml, ho, -⟩ := S
  obtain ⟨-, ⟨cellB, hcB, hoB, hclB⟩, hPc⟩ := hp
  intro T hT X
  obtain ⟨v, vm₁, ⟨U', l2, c2, s2⟩, hW₁, X', ⟨g', mk, t, L, e1, e2, hq, h1, hL, h2, h3⟩, st⟩ := vx_callVW X hx (C := C) (hh := hh) (bytes := bytes) (maxL := maxL) (ret := ret) ho hl hin hse hcode hy hK (by rw [hT]; exact hcB) hoB hclB hg (hsize.trans hml.symm) (argsL := As) (rest := rest) (fun sig h => hn.trans (hlen sig h)) hstack hW (by rw [hb]; exact hdg)
    (fun vm₁ hW₁ => ⟨hf.1, hf.2, hPc (T.setVm vm₁) hT hW₁⟩)
  dsimp only [Pt.U, Pt.locs, Pt.cells, Pt.slots] at X' e1 e2 h1 h2 h3 st
  subst h1; subst h2; subst h3
  exact ⟨v, (T.setVm vm₁).calling g' mk (Value.ref b :: As).toArray, t, U', L, hT, X', hL, e1, e2, hq, st⟩
section
variable {y : MethodName} {bytes cc : ByteArray} {maxL nL mc ms n index : Nat} {ret : Option FieldType} {ws : List Cond} {rm : Room} {Pc : Array Value → State → Prop} {Qc : Array Value → State → Outcome → State → Prop} {XC : String → State → State → Prop} {free : Addr → Prop} {Ts : List Cond} {own C : String} {b : Addr} {As rest : List Value} {g : JFrame}
theorem vx_runVX {hh : List (Nat × Nat × Nat × Nat)} (S : CallFix p m c cc nL s args Ts own) (hM : vx_Met l y ws rm Pc Qc XC mc ms free) (cw : vx_CVW R s args own C index y bytes maxL ret hh ws rm mc ms n) (hp : PreV s H C b Pc As)
    (hg : g.method = m) (hn : As.length = n) (hsize : g.locals.size = nL) (hstack : g.stack = As.reverse ++ .ref b :: rest) (hW : 2 * g.monitorRoom + (rest.map fun v => v.category).sum ≤ 8) (hdg : decode cc g.pc = .ok (.invokevirtual index, 3)) (hf : cells + mc ≤ R.cells ∧ slots + ms ≤ R.slots) :
    vx_Run p l e R s m args below meth c H locs cells slots mc ms g rest (Qc (Value.ref b :: As).toArray) XC free := by
  obtain ⟨⟨hrc, hrs, hfr, hlo, hws, hcw⟩, hcode, hini, hy, hlen, hl, hin, hse⟩ := cw
  have hK : vx_Back l R p e below s args y 3 8 (PreOf R mc ms Pc) (PostOf Qc mc ms free) (vx_Post XC mc ms free) := vx_backW (hh := hh) (bytes := bytes) (maxL := maxL) (ret := ret) hM hp.1 hrc hrs hfr hlo hws hcw (fun a' U hW => word_at hW (Or.inl (by first | rfl | simp [Cond.onTables, Cond.keeps, Cond.steady])) hini)
  obtain ⟨hx, hb, hml, ho, -⟩ := S
  obtain ⟨-, ⟨cellB, hcB, hoB, hclB⟩, hPc⟩ := hp
  intro T hT X
  rcases vx_callVX X hx (C := C) (hh := hh) (bytes := bytes) (maxL := maxL) (ret := ret) ho hl hin hse hcode hy hK (by rw [hT]; exact hcB) hoB hclB hg (hsize.trans hml.symm) (argsL := As) (rest := rest) (fun sig h => hn.trans (hlen sig h)) hstack hW (by rw [hb]; exact hdg)
    (fun vm₁ hW₁ => ⟨hf.1, hf.2, hPc (T.setVm vm₁) hT hW₁⟩) with ⟨v, vm₁, ⟨U', l2, c2, s2⟩, hW₁, X', ⟨g', mk, t, L, e1, e2, hq, h1, hL, h2, h3⟩, st⟩ | ⟨q, vm₁, ⟨U', l2, c2, s2⟩, hW₁, X', ⟨g', mk, t, L, E, ce, e1, e2, hq, hce, hcv, hcl, h1, hL, h2, h3⟩, st⟩
  · dsimp only [Pt.U, Pt.locs, Pt.cells, Pt.slots] at X' e1 e2 h1 h2 h3 st
    subst h1; subst h2; subst h3
    exact Or.inl ⟨v, (T.setVm vm₁).calling g' mk (Value.ref b :: As).toArray, t, U', L, hT, X', hL, e1, e2, hq, st⟩
  · dsimp only [Pt.U, Pt.locs, Pt.cells, Pt.slots] at X' e1 e2 h1 h2 h3 st hcl
    subst h1; subst h2; subst h3
    exact Or.inr ⟨q, (T.setVm vm₁).calling g' mk (Value.ref b :: As).toArray, t, U', L, E, ce, hT, X', hL, e1, e2, hq, hce, hcv, vx_cls hW₁ hcl, st⟩
theorem vx_runSX {hh : List (Nat × Nat × Nat × Nat)} (S : CallFix p m c cc nL s args Ts own) (hM : vx_Met l y ws rm Pc Qc XC mc ms free) (cw : vx_CSW R s args own index y bytes maxL ret hh ws rm mc ms n) (hp : PreS s H Pc As)
    (hg : g.method = m) (hn : As.length = n) (hsize : g.locals.size = nL) (hstack : g.stack = As.reverse ++ rest) (hW : 2 * g.monitorRoom + (rest.map fun v => v.category).sum ≤ 8) (hdg : decode cc g.pc = .ok (.invokestatic index, 3)) (hf : cells + mc ≤ R.cells ∧ slots + ms ≤ R.slots) :
    vx_Run p l e R s m args below meth c H locs cells slots mc ms g rest (Qc As.toArray) XC free := by
  obtain ⟨⟨hrc, hrs, hfr, hlo, hws, hcw⟩, hcode, hini, hy, hlen, hl, hstt⟩ := cw
  have hK : vx_Back l R p e below s args y 3 8 (PreOf R mc ms Pc) (PostOf Qc mc ms free) (vx_Post XC mc ms free) := vx_backW (hh := hh) (bytes := bytes) (maxL := maxL) (ret := ret) hM hp.1 hrc hrs hfr hlo hws hcw (fun a' U hW => word_at hW (Or.inl (by first | rfl | simp [Cond.onTables, Cond.keeps, Cond.steady])) hini)
  obtain ⟨hx, hb, hml, ho, -⟩ := S
  intro T hT X
  rcases vx_callSX X hx (hh := hh) (bytes := bytes) (maxL := maxL) (ret := ret) ho hl hstt hini hcode hy hK hg (hsize.trans hml.symm) (argsL := As) (rest := rest) (fun sig h => hn.trans (hlen sig h)) hstack hW (by rw [hb]; exact hdg)
    (fun vm₁ hW₁ => ⟨hf.1, hf.2, hp.2 (T.setVm vm₁) hT hW₁⟩) with ⟨v, vm₁, ⟨U', l2, c2, s2⟩, hW₁, X', ⟨g', mk, t, L, e1, e2, hq, h1, hL, h2, h3⟩, st⟩ | ⟨q, vm₁, ⟨U', l2, c2, s2⟩, hW₁, X', ⟨g', mk, t, L, E, ce, e1, e2, hq, hce, hcv, hcl, h1, hL, h2, h3⟩, st⟩
  · dsimp only [Pt.U, Pt.locs, Pt.cells, Pt.slots] at X' e1 e2 h1 h2 h3 st
    subst h1; subst h2; subst h3
    exact Or.inl ⟨v, (T.setVm vm₁).calling g' mk As.toArray, t, U', L, hT, X', hL, e1, e2, hq, st⟩
  · dsimp only [Pt.U, Pt.locs, Pt.cells, Pt.slots] at X' e1 e2 h1 h2 h3 st hcl
    subst h1; subst h2; subst h3
    exact Or.inr ⟨q, (T.setVm vm₁).calling g' mk As.toArray, t, U', L, E, ce, hT, X', hL, e1, e2, hq, hce, hcv, vx_cls hW₁ hcl, st⟩
end
end VXH
theorem vx_ofWH {l : Launch} {y : MethodName} {ws ws' : List Cond} {rm : Room} {Pc : Array Value → State → Prop} {Qc : Array Value → State → Outcome → State → Prop} {XC : String → State → State → Prop} {mc ms : Nat} {free : Addr → Prop} {cc : ByteArray} {maxL : Nat} {ret : Option FieldType} {hh : List (Nat × Nat × Nat × Nat)}
    (hy : plainName y.cls = true) (hw : ws = Cond.codeWith y cc maxL ret hh :: ws')
    (body : ∀ p e s m args below meth c s₁, BodyLoose p l y (headSpec ws rm) cc maxL ret e s m args below meth c s₁ → c.maxLocals = maxL → Pc args s →
      W p l e (headSpec ws rm).room s m args below meth c s.heap [] 0 0 (vx_MQ below Qc XC args s mc ms free) (entryFrame m args maxL)) : vx_Met l y ws rm Pc Qc XC mc ms free := by
  refine MetFree.of_bodyS (code := cc) (maxLocals := maxL) (ret := ret) hy ?_ ?_
  · intro args s m h hn
    obtain ⟨m9, meth, c, hn9, h1, h2, h3, h4, -, h5, h6, -⟩ := Cond.codeWith_spec (atoms_spec (ws := ws) h _ (by rw [hw]; exact List.mem_cons_self))
    cases hn.symm.trans hn9
    exact ⟨meth, c, h1, h2, h3, h4, h5, h6⟩
  · intro p e s m args below meth c s₁ B hml hP _
    have hh0 : s₁.heap = s.heap := by rw [B.state]; rfl
    obtain ⟨t, a1, o, b1, b2, b3⟩ := body p e s m args below meth c s₁ B hml hP s₁ hh0 (Stand.of_body B)
    exact ⟨t, o, a1, b1, b2, b3⟩
/-! ===== END ===== -/

/-! ===== BEGIN what the machine throws by itself, no traces kept ===== -/
section VXM
set_option maxHeartbeats 1000000 in
/-- the machine throws cls with the message text, no traces kept: from its note over the frame g to 'throwing' over the same frame (follows the proofs of Stand.vmThrowsMessage, Shelf/KitTracedVmS.lean, and Stand.throwsMessageColdBareV, StandMessageColdV.lean, without the step out of the frame) -/
theorem vx_vmAt {p : Program} {l : Launch} {e : Env} {R : Room} {s : State} {m₀ : MethodId} {args : Array Value} {below : List Frame} {meth : Method} {c : Code} {W : State} {locs : List Loc} {cells slots : Nat}
    (X : Stand p l e R s m₀ args below meth c W locs cells slots) (hexec : p.tables.exec = Jvm.exec) (htr : e.platform.stackTraces = false) {cls : String} {names : List String} {text : String}
    (hcls : Bundle.fit cls = true) (hnames : ∀ n ∈ names, Bundle.fit n = true) (hsoe : (cls == "java/lang/StackOverflowError") = false) (hoom : (cls == "java/lang/OutOfMemoryError") = false)
    (h : ∀ a ∈ Bundle.messageArmAtoms cls names, a.before args s = true)
    (hlocs : ∀ x ∈ locs, ∀ cell, s.heap[x.base]? = some cell → cell.vm.isStatics = false)
    (htext : (text == notModelled) = false) (hlimit : ¬ (stringBytes (stringToUtf16 text)).size > e.platform.arrayLengthLimit) (hheap : ¬ (stringBytes (stringToUtf16 text)).size * componentBytes .byte > e.platform.maxHeapBytes)
    {g : JFrame} (hg : g.method = m₀) (hsize : g.locals.size = c.maxLocals)
    (hRframes : names.length + 4 < R.frames) (hRlocals : 2 * g.monitorRoom + (g.stack.map fun v => v.category).sum + 10240 ≤ R.locals) (hshort : 13 * names.length + 55 ≤ 10240)
    (hRcells : cells + 3 ≤ R.cells) (hRslots : slots + ((stringBytes (stringToUtf16 text)).size + 4 + 6) ≤ R.slots) (hlocks : meth.locks = false) :
    ∃ (S : State) (q : Addr) (ce : Cell), (∀ target, Steps p.tables e below ((S.setTop g).pushFrame (.throwing q)) target → Steps p.tables e below ((W.setTop g).pushFrame (.throwNew cls (some text) none)) target) ∧
      Stand p l e R s m₀ args below meth c S locs (cells + 3) (slots + ((stringBytes (stringToUtf16 text)).size + 4 + 6)) ∧ S.heap[q]? = some ce ∧ s.vm.findClass cls = some ce.cls ∧ ce.vm = .none := by
  have howns : e.platform.frameOwnsMonitors = true := by rw [X.admits.platform]
  have hfin : e.platform.finalization = false := by rw [X.admits.platform]
  have hpl : e.platform.magicAccessors = ({} : Platform).magicAccessors := by rw [X.admits.platform]
  have a : ∀ x, x ∈ Bundle.messageArmAtoms cls names → x.holds args s none s [] = true := fun x hx => h x hx
  obtain ⟨T, Z0, L, -, Y⟩ := ThrowableC.of_atoms (args := args) howns hfin hpl (fun x hx => h x (by simp [Bundle.messageArmAtoms, hx]))
  obtain ⟨Z, M, LZ, LM, hnZ⟩ := Init0T.ofS_atoms (args := args) hpl L Y (fun x hx => h x (by simp [Bundle.messageArmAtoms, hx]))
  obtain ⟨P1, Ps, hlen, L1, hL, hP1m, hlink1, hlink⟩ := Bundle.chainS (args := args) hpl hnZ names cls hcls hnames (fun x hx => h x (by simp [Bundle.messageArmAtoms, hx]))
  obtain ⟨Zs, LZs, hn4, hfitv, hfitc⟩ := StringT.of_atoms (args := args) (fun x hx => h x (by simp [Bundle.messageArmAtoms, hx]))
  have hfound : s.vm.findClass cls = some P1.m.cls := findClass_of_methodNamed hP1m
  obtain ⟨c1, kX, hc1, hk, hord, -, -, hn6⟩ := Cond.instantiable_spec (a (.instantiable cls 6) (by simp [Bundle.messageArmAtoms]))
  cases Option.some.inj (hc1.symm.trans hfound)
  have hinit := Cond.initialized_spec hfound hk (a (.initialized cls) (by simp [Bundle.messageArmAtoms]))
  have hctor : kX.findMethod "<init>" "(Ljava/lang/String;)V" = some P1.m.idx := findMethod_of_methodNamed hP1m hk
  have hsel0 : selectMethod e.platform s.vm P1.m.cls T.fill0 = .method T.fill0 := by
    obtain ⟨c2, r2, m2, q1, q2, q3, q4, -⟩ := Cond.selects_spec (a (.selects cls Bundle.tFill0 Bundle.tFill0) (by simp [Bundle.messageArmAtoms]))
    cases Option.some.inj (q1.symm.trans hfound)
    cases Option.some.inj (q2.symm.trans (State.methodFound?_of_named Y.fill0 (by decide)))
    cases Option.some.inj (q3.symm.trans Y.fill0)
    rw [Launch.admits_selectMethod X.admits]; exact q4
  have hselF : selectMethod e.platform s.vm P1.m.cls T.fill = .method T.fill := by
    obtain ⟨c2, r2, m2, q1, q2, q3, q4, -⟩ := Cond.selects_spec (a (.selects cls Bundle.tFill Bundle.tFill) (by simp [Bundle.messageArmAtoms]))
    cases Option.some.inj (q1.symm.trans hfound)
    cases Option.some.inj (q2.symm.trans (State.methodFound?_of_named Y.fill (by decide)))
    cases Option.some.inj (q3.symm.trans Y.fill)
    rw [Launch.admits_selectMethod X.admits]; exact q4
  obtain ⟨cellS0, hcS0, hiss⟩ := Y.statics
  obtain ⟨u0, hu0⟩ := Cond.staticRefV Y.unassigned L.unassignedStatic L.statics hcS0 hiss (a (.isRef (.static Bundle.tN "UNASSIGNED_STACK" Bundle.steD)) (by simp [Bundle.messageArmAtoms]))
  obtain ⟨sen, hsen⟩ := Cond.staticRefV Y.sentinel L.sentinelStatic L.statics hcS0 hiss (a (.isRef (.static Bundle.tN "SUPPRESSED_SENTINEL" Bundle.listD)) (by simp [Bundle.messageArmAtoms]))
  obtain ⟨ci198, i198, fB, hk198, hg198, ha198, hsB, -, hnB, htB, hffB⟩ := Cond.ownField (t := .object "java/lang/Object") Y.found L.cls (by decide +kernel) (a (.fieldLink Bundle.tN 198 Bundle.tN "backtrace" "Ljava/lang/Object;") (by simp [Bundle.messageArmAtoms])) (a (.lays Bundle.tN Bundle.tN "backtrace" "Ljava/lang/Object;") (by simp [Bundle.messageArmAtoms])) e.platform hpl
  obtain ⟨cellS, hcS', heS, -, hkeep⟩ := X.same.2.2.2.2.2 T.aS cellS0 hcS0
  have hcellS : W.heap[T.aS]? = some cellS := hcS'
  have hout' : ∀ i, (⟨T.aS, i⟩ : Loc) ∉ locs := fun i hmem => by
    have := hlocs _ hmem cellS0 hcS0
    rw [hiss] at this; cases this
  have hknownS : cellS.vm ≠ .unknown := by
    rw [heS]; intro hu
    rw [show cellS0.vm = .unknown from hu] at hiss
    cases hiss
  have hvU : cellS.slots[T.fUnassigned.slot]? = some u0.v := by rw [hkeep _ (hout' _)]; exact hu0
  have hvSen : cellS.slots[T.fSentinel.slot]? = some sen.v := by rw [hkeep _ (hout' _)]; exact hsen
  obtain ⟨iM, hffM⟩ := Y.msg
  obtain ⟨tyC, dC, hdC, hdnC⟩ := Cond.laysAt hfound hk Y.cause (a (.lays cls Bundle.tN "cause" "Ljava/lang/Throwable;") (by simp [Bundle.messageArmAtoms]))
  obtain ⟨tyS, dS, hdS, hdnS⟩ := Cond.laysAt hfound hk Y.stack (a (.lays cls Bundle.tN "stackTrace" Bundle.steD) (by simp [Bundle.messageArmAtoms]))
  obtain ⟨tyP, dP, hdP, hdnP⟩ := Cond.laysAt hfound hk Y.supp (a (.lays cls Bundle.tN "suppressedExceptions" Bundle.listD) (by simp [Bundle.messageArmAtoms]))
  obtain ⟨tyM, dM, hdM, hdnM⟩ := Cond.laysAt hfound hk hffM (a (.lays cls Bundle.tN "detailMessage" "Ljava/lang/String;") (by simp [Bundle.messageArmAtoms]))
  obtain ⟨tyB, dB, hdB, hdnB⟩ := Cond.laysAt hfound hk hffB (a (.lays cls Bundle.tN "backtrace" "Ljava/lang/Object;") (by simp [Bundle.messageArmAtoms]))
  have bC := Cond.laysApart hdB hdC hdnB hdnC (by rw [hnB, Y.causeName]; decide)
  have bS := Cond.laysApart hdB hdS hdnB hdnS (by rw [hnB, Y.stackName]; decide)
  have bP := Cond.laysApart hdB hdP hdnB hdnP (by rw [hnB, Y.suppName]; decide)
  have hbk : ((preparedCellV T.toThrowableT (freshCell P1.m.cls kX) (W.heap.size + 2) u0 sen).withEntry W.cur).slots[fB.slot]? = some .null := by
    have := fresh_default (c := P1.m.cls) tyB
    rw [htB] at this
    simpa [preparedCellV, Cell.setSlot, Cell.withEntry, Array.getElem?_setIfInBounds, bC, bS, bP, bC.symm, bS.symm, bP.symm, defaultValue] using this
  have tkC := Takes.of_laid (v := .ref (W.heap.size + 2)) hk hord tyC (by rw [Y.causeType]; rfl)
  have tkS := Takes.of_laid (v := u0.v) hk hord tyS (by rw [Y.stackType]; exact fits_refV_array _ u0)
  have tkP := Takes.of_laid (v := sen.v) hk hord tyP (by rw [Y.suppType]; exact fits_refV_object _ sen)
  have tkM := Takes.of_laid (v := .ref (W.heap.size + 1)) hk hord tyM (by rw [Y.msgType]; rfl)
  have hskip : SkipFacts T e.platform s (fun u => u) u0 ((preparedCellV T.toThrowableT (freshCell P1.m.cls kX) (W.heap.size + 2) u0 sen).withEntry W.cur) := ⟨{ ci198 := ci198, i198 := i198, fBack := fB }, ⟨hk198, hg198, ha198, hsB⟩, hbk, fun _ _ => rfl⟩
  have h0 : At W g.method c below := by rw [hg]; exact X.here
  obtain ⟨hbeyond, hfreeW⟩ := X.vmMayThrow hsize (.throwNew cls (some text) none) (fun f hf => by cases hf) rfl hRlocals
  have hfr' : W.frames.length + Ps.length + 4 < (e.platform.stackLimits W.me).1 := by have := X.framesAbove hRframes; omega
  have hwd' : (stackUse (.java g :: W.frames.tail)).2 + 13 * Ps.length + 55 ≤ (e.platform.stackLimits W.me).2 := by have := X.stackAbove hsize (K := 13 * Ps.length + 55) (by omega); omega
  have hslots : W.slotsUsed + (stringBytes (stringToUtf16 text)).size + Zs.kS.instanceTypes.size + kX.instanceTypes.size ≤ e.platform.maxSlots := by
    have := X.slotsAbove hRslots
    rw [hn4, hn6]
    omega
  obtain ⟨vm', hW', st⟩ := Steps.vmThrowsMessageColdByV p (s₀ := s) (S := W) (g := g) h0 hexec T L Z LZ M LM X.warmed (t := W.cur) rfl Zs LZs P1 L1 Ps hL hlink1 hlink hsoe hoom hfound hk hinit hord hctor
    (Launch.admits_hotImplicitExceptions X.admits) hbeyond hfreeW htext hlimit hheap (X.cellsAbove hRcells) hslots (hfitv _) (hfitc _)
    (Nn := fun u => u) heapOnly_id (fun _ _ => rfl) (fun _ => rfl) (fun u x y => setCell_twice _ _ _ _) (fun _ => Nat.le_refl _) (cN := ((preparedCellV T.toThrowableT (freshCell P1.m.cls kX) (W.heap.size + 2) u0 sen).withEntry W.cur))
    hsel0 hcellS hknownS hvU tkS (fun _ hu => hu) (fun _ hu => hu) rfl rfl rfl (by simp [preparedCellV, Cell.setSlot, Cell.withEntry]) hskip (fun _ _ hA hW _ hroom _ hrest => L.nativeOff p htr hA hW hroom hrest) hselF hvSen tkC tkP tkM Y.objLocals rfl hfr' hwd'
  rw [plainBareV_eq T.toThrowableT (W.heap.size + 2) u0 sen (.ref (W.heap.size + 1)) W.cur rfl rfl] at st
  obtain ⟨-, -, w3, w4, -, -, -⟩ := withThrown_facts e.platform W Zs text P1.m.cls kX
  have X3 := ((X.pushed (bytesOf Zs.cB (stringToUtf16 text))).pushed (stringAt Zs.cS Zs.kS Zs.fv Zs.fc (stringToUtf16 text) W.heap.size)).pushed (freshCell P1.m.cls kX)
  rw [← withString_eq] at X3
  have X4 := X3.noted hW'
  have ha : (W.heap.size + 2) < ((withThrown W Zs text P1.m.cls kX).setVm vm').heap.size := by show _ < (withThrown W Zs text P1.m.cls kX).heap.size; rw [w3]; omega
  have hcell : ((withThrown W Zs text P1.m.cls kX).setVm vm').heap[(W.heap.size + 2)]? = some (freshCell P1.m.cls kX) := w4
  have X5 := ((((X4.stored hcell T.fCause.slot (.ref (W.heap.size + 2))).storedAgain ha T.fStack.slot u0.v).storedAgain ha T.fSupp.slot sen.v).storedAgain ha T.fStack.slot u0.v).storedAgain ha T.fMsg.slot (.ref (W.heap.size + 1))
  obtain ⟨g₁, hfrM⟩ := X5.frames_eq
  have hU : ((((withThrown W Zs text P1.m.cls kX).setVm vm').setCell (W.heap.size + 2) (plainBareV T.toThrowableT (freshCell P1.m.cls kX) (W.heap.size + 2) u0 sen (.ref (W.heap.size + 1)))).setTop g).pushFrame (.throwing (W.heap.size + 2)) = (((withThrown W Zs text P1.m.cls kX).setVm vm').setCell (W.heap.size + 2) (plainBareV T.toThrowableT (freshCell P1.m.cls kX) (W.heap.size + 2) u0 sen (.ref (W.heap.size + 1)))).setFrames (.throwing (W.heap.size + 2) :: .java g :: below) := by
    rw [State.pushFrame, State.frames_setTop _ hfrM, State.setTop_of_frames _ hfrM, State.setFrames_setFrames]
  have b1 : (bytesOf Zs.cB (stringToUtf16 text)).slots.size = (stringBytes (stringToUtf16 text)).size := by
    rw [(Cell.writeAll_facts _ _).2.2]; simp [bytes0]
  have b2 : (stringAt Zs.cS Zs.kS Zs.fv Zs.fc (stringToUtf16 text) W.heap.size).slots.size = 4 := by simp [string0, Cell.setSlot, hn4]
  have b3 : (freshCell P1.m.cls kX).slots.size = 6 := by simp [hn6]
  rw [b1, b2, b3] at X5
  have e9 : slots + (stringBytes (stringToUtf16 text)).size + 4 + 6 = slots + ((stringBytes (stringToUtf16 text)).size + 4 + 6) := by omega
  rw [e9] at X5
  simp only [List.append_assoc, List.cons_append, List.nil_append] at X5
  refine ⟨((withThrown W Zs text P1.m.cls kX).setVm vm').setCell (W.heap.size + 2) (plainBareV T.toThrowableT (freshCell P1.m.cls kX) (W.heap.size + 2) u0 sen (.ref (W.heap.size + 1))), W.heap.size + 2, _, fun target ht => st _ (by rw [X.tail, ← hU]; exact ht),
    X5.forget (fun y hy => ?_), heapAt_setCell_self _ ha, hfound, rfl⟩
  simp only [List.mem_cons, List.not_mem_nil, or_false] at hy
  have hge : s.heap.size ≤ W.heap.size := X.same.2.1
  rcases hy with rfl | rfl | rfl | rfl | rfl <;> exact Nat.le_trans hge (Nat.le_add_right _ 2)
set_option maxHeartbeats 1000000 in
/-- the machine throws NullPointerException, no traces kept: from its note over the frame g to 'throwing' over the same frame (follows the proof of Stand.vmThrowsNpe, Shelf42/KT2.lean; throwsNpeColdBareVAt, Shelf42/NT91.lean, called) -/
theorem vx_npeAt {p : Program} {l : Launch} {e : Env} {R : Room} {s : State} {m₀ : MethodId} {args : Array Value} {below : List Frame} {meth : Method} {c : Code} {W : State} {locs : List Loc} {cells slots : Nat}
    (X : Stand p l e R s m₀ args below meth c W locs cells slots) (hexec : p.tables.exec = Jvm.exec) (htr : e.platform.stackTraces = false) {n : Nat}
    (h : ∀ a ∈ Bundle.npeArmAtoms n, a.before args s = true)
    (hlocs : ∀ x ∈ locs, ∀ cell, s.heap[x.base]? = some cell → cell.vm.isStatics = false)
    {g : JFrame} (hg : g.method = m₀) (hsize : g.locals.size = c.maxLocals)
    (hRframes : 7 < R.frames) (hRlocals : 2 * g.monitorRoom + (g.stack.map fun v => v.category).sum + 10240 ≤ R.locals)
    (hRcells : cells + 1 ≤ R.cells) (hRslots : slots + n ≤ R.slots) (hlocks : meth.locks = false) :
    ∃ (S : State) (q : Addr) (ce : Cell), (∀ target, Steps p.tables e below ((S.setTop g).pushFrame (.throwing q)) target → Steps p.tables e below ((W.setTop g).pushFrame (.throwNew "java/lang/NullPointerException" none none)) target) ∧
      Stand p l e R s m₀ args below meth c S locs (cells + 1) (slots + n) ∧ S.heap[q]? = some ce ∧ s.vm.findClass "java/lang/NullPointerException" = some ce.cls ∧ ce.vm = .none := by
  have howns : e.platform.frameOwnsMonitors = true := by rw [X.admits.platform]
  have hfin : e.platform.finalization = false := by rw [X.admits.platform]
  have hpl : e.platform.magicAccessors = ({} : Platform).magicAccessors := by rw [X.admits.platform]
  have hpl2 : e.platform.arrayCloneIsPublic = true := by rw [X.admits.platform]
  have a' : ∀ x, x ∈ Bundle.npeArmAtoms n → x.holds args s none s [] = true := fun x hx => h x hx
  obtain ⟨T, Z, L, LZ, Y⟩ := ThrowableC.of_atoms (args := args) howns hfin hpl (fun x hx => h x (by simp [Bundle.npeArmAtoms, hx]))
  obtain ⟨N, LN, hcN, hnNF, hordN, hffS⟩ := NpeC.of_atoms (args := args) hpl hpl2 L Y (fun x hx => h x (by simp [Bundle.npeArmAtoms, hx]))
  obtain ⟨P1, L1, hP1m, hP1s⟩ := PassC.of_atoms (args := args) (s := s) hpl (X := Bundle.nN) (Y := Bundle.rN) (by decide) (by decide) LibCode.NullPointerException.Init0.at_0 LibCode.NullPointerException.Init0.at_1 LibCode.NullPointerException.Init0.at_4 (fun x hx => h x (by simp [Bundle.npeArmAtoms, hx]))
  obtain ⟨PR, LR, hPRm, hPRs⟩ := PassC.of_atoms (args := args) (s := s) hpl (X := Bundle.rN) (Y := Bundle.eN) (by decide) (by decide) LibCode.RuntimeException.Init0.at_0 LibCode.RuntimeException.Init0.at_1 LibCode.RuntimeException.Init0.at_4 (fun x hx => h x (by simp [Bundle.npeArmAtoms, hx]))
  obtain ⟨PE, LEx, hPEm, hPEs⟩ := PassC.of_atoms (args := args) (s := s) hpl (X := Bundle.eN) (Y := Bundle.tN) (by decide) (by decide) LibCode.Exception.Init0.at_0 LibCode.Exception.Init0.at_1 LibCode.Exception.Init0.at_4 (fun x hx => h x (by simp [Bundle.npeArmAtoms, hx]))
  have hfound : s.vm.findClass Bundle.nN = some P1.m.cls := findClass_of_methodNamed hP1m
  have ecls : N.cN = P1.m.cls := Option.some.inj (hcN.symm.trans hfound)
  have hk : s.vm.classes[P1.m.cls]? = some N.kN := by rw [← ecls]; exact LN.cls
  have hinit := Cond.initialized_spec hfound hk (a' (.initialized Bundle.nN) (by simp [Bundle.npeArmAtoms]))
  have hctor : N.kN.findMethod "<init>" "()V" = some P1.m.idx := findMethod_of_methodNamed hP1m hk
  obtain ⟨c1, k1, hc1, hk1, -, -, -, hn⟩ := Cond.instantiable_spec (a' (.instantiable Bundle.nN n) (by simp [Bundle.npeArmAtoms]))
  cases Option.some.inj (hc1.symm.trans hfound)
  cases Option.some.inj (hk1.symm.trans hk)
  have hfsz : (freshCell P1.m.cls N.kN).slots.size = n := by simp [hn]
  have hlink1 : P1.sup = PR.m := Option.some.inj (hP1s.symm.trans hPRm)
  have hlinkR : PR.sup = PE.m := Option.some.inj (hPRs.symm.trans hPEm)
  have hlinkE : PE.sup = Z.m T.toThrowableT := Option.some.inj (hPEs.symm.trans Y.init0)
  have hLs : ∀ P, P ∈ [PR, PE] → P.Links0 e.platform s := fun P hP => by
    simp only [List.mem_cons, List.not_mem_nil, or_false] at hP
    rcases hP with rfl | rfl
    · exact LR
    · exact LEx
  have hsel0 : selectMethod e.platform s.vm P1.m.cls T.fill0 = .method T.fill0 := by
    obtain ⟨c2, r2, m2, q1, q2, q3, q4, -⟩ := Cond.selects_spec (a' (.selects Bundle.nN Bundle.tFill0 Bundle.tFill0) (by simp [Bundle.npeArmAtoms]))
    cases Option.some.inj (q1.symm.trans hfound)
    cases Option.some.inj (q2.symm.trans (State.methodFound?_of_named Y.fill0 (by decide)))
    cases Option.some.inj (q3.symm.trans Y.fill0)
    rw [Launch.admits_selectMethod X.admits]; exact q4
  have hselF : selectMethod e.platform s.vm P1.m.cls T.fill = .method N.fill := by
    obtain ⟨c2, r2, m2, q1, q2, q3, q4, -⟩ := Cond.selects_spec (a' (.selects Bundle.nN Bundle.tFill Bundle.nFill) (by simp [Bundle.npeArmAtoms]))
    cases Option.some.inj (q1.symm.trans hfound)
    cases Option.some.inj (q2.symm.trans (State.methodFound?_of_named Y.fill (by decide)))
    cases Option.some.inj (q3.symm.trans hnNF)
    rw [Launch.admits_selectMethod X.admits]; exact q4
  obtain ⟨cellS0, hcS0, hiss⟩ := Y.statics
  obtain ⟨u0, hu0⟩ := Cond.staticRefV Y.unassigned L.unassignedStatic L.statics hcS0 hiss (a' (.isRef (.static Bundle.tN "UNASSIGNED_STACK" Bundle.steD)) (by simp [Bundle.npeArmAtoms]))
  obtain ⟨sen, hsen⟩ := Cond.staticRefV Y.sentinel L.sentinelStatic L.statics hcS0 hiss (a' (.isRef (.static Bundle.tN "SUPPRESSED_SENTINEL" Bundle.listD)) (by simp [Bundle.npeArmAtoms]))
  obtain ⟨ci198, i198, fB, hk198, hg198, ha198, hsB, -, hnB, htB, hffB⟩ := Cond.ownField (t := .object "java/lang/Object") Y.found L.cls (by decide +kernel) (a' (.fieldLink Bundle.tN 198 Bundle.tN "backtrace" Bundle.objD) (by simp [Bundle.npeArmAtoms])) (a' (.lays Bundle.tN Bundle.tN "backtrace" Bundle.objD) (by simp [Bundle.npeArmAtoms])) e.platform hpl
  obtain ⟨cellS, hcS', heS, -, hkeep⟩ := X.same.2.2.2.2.2 T.aS cellS0 hcS0
  have hcellS : W.heap[T.aS]? = some cellS := hcS'
  have hout' : ∀ i, (⟨T.aS, i⟩ : Loc) ∉ locs := fun i hmem => by
    have := hlocs _ hmem cellS0 hcS0
    rw [hiss] at this; cases this
  have hknownS : cellS.vm ≠ .unknown := by
    rw [heS]; intro hu
    rw [show cellS0.vm = .unknown from hu] at hiss
    cases hiss
  have hvU : cellS.slots[T.fUnassigned.slot]? = some u0.v := by rw [hkeep _ (hout' _)]; exact hu0
  have hvSen : cellS.slots[T.fSentinel.slot]? = some sen.v := by rw [hkeep _ (hout' _)]; exact hsen
  obtain ⟨tyC, dC, hdC, hdnC⟩ := Cond.laysAt hfound hk Y.cause (a' (.lays Bundle.nN Bundle.tN "cause" "Ljava/lang/Throwable;") (by simp [Bundle.npeArmAtoms]))
  obtain ⟨tyS, dS, hdS, hdnS⟩ := Cond.laysAt hfound hk Y.stack (a' (.lays Bundle.nN Bundle.tN "stackTrace" Bundle.steD) (by simp [Bundle.npeArmAtoms]))
  obtain ⟨tyP, dP, hdP, hdnP⟩ := Cond.laysAt hfound hk Y.supp (a' (.lays Bundle.nN Bundle.tN "suppressedExceptions" Bundle.listD) (by simp [Bundle.npeArmAtoms]))
  obtain ⟨tyX, dX, hdX, hdnX⟩ := Cond.laysAt hfound hk hffS (a' (.lays Bundle.nN Bundle.nN "extendedMessageState" "I") (by simp [Bundle.npeArmAtoms, Bundle.npeAtoms]))
  obtain ⟨hnX, htX⟩ := State.fieldFound?_type hffS (t := .int) (by decide +kernel)
  have xC := Cond.laysApart hdC hdX hdnC hdnX (by rw [hnX, Y.causeName]; decide)
  have xS := Cond.laysApart hdS hdX hdnS hdnX (by rw [hnX, Y.stackName]; decide)
  have xP := Cond.laysApart hdP hdX hdnP hdnX (by rw [hnX, Y.suppName]; decide)
  have hv0 : (freshCell P1.m.cls N.kN).slots[N.fState.slot]? = some (.int 0) := by
    have := fresh_default (c := P1.m.cls) tyX
    rw [htX] at this; exact this
  obtain ⟨tyB, dB, hdB, hdnB⟩ := Cond.laysAt hfound hk hffB (a' (.lays Bundle.nN Bundle.tN "backtrace" Bundle.objD) (by simp [Bundle.npeArmAtoms]))
  have bC := Cond.laysApart hdB hdC hdnB hdnC (by rw [hnB, Y.causeName]; decide)
  have bS := Cond.laysApart hdB hdS hdnB hdnS (by rw [hnB, Y.stackName]; decide)
  have bP := Cond.laysApart hdB hdP hdnB hdnP (by rw [hnB, Y.suppName]; decide)
  have bX := Cond.laysApart hdB hdX hdnB hdnX (by rw [hnB, hnX]; decide)
  have hbk : ((npeCell N.toNpeT (preparedCellV T.toThrowableT (freshCell P1.m.cls N.kN) W.heap.size u0 sen) W.cur).withEntry W.cur).slots[fB.slot]? = some .null := by
    have := fresh_default (c := P1.m.cls) tyB
    rw [htB] at this
    simpa [npeCell, preparedCellV, Cell.setSlot, Cell.withEntry, Array.getElem?_setIfInBounds, bC, bS, bP, bX, bC.symm, bS.symm, bP.symm, bX.symm, defaultValue] using this
  have tkC := Takes.of_laid (v := .ref W.heap.size) hk hordN tyC (by rw [Y.causeType]; rfl)
  have tkS := Takes.of_laid (v := u0.v) hk hordN tyS (by rw [Y.stackType]; exact fits_refV_array _ u0)
  have tkP := Takes.of_laid (v := sen.v) hk hordN tyP (by rw [Y.suppType]; exact fits_refV_object _ sen)
  have tkX := Takes.of_laid (v := .int 1) hk hordN tyX (by rw [htX]; rfl)
  have hskip : SkipFacts T e.platform s (fun u => u) u0 ((npeCell N.toNpeT (preparedCellV T.toThrowableT (freshCell P1.m.cls N.kN) W.heap.size u0 sen) W.cur).withEntry W.cur) := ⟨{ ci198 := ci198, i198 := i198, fBack := fB }, ⟨hk198, hg198, ha198, hsB⟩, hbk, fun _ _ => rfl⟩
  obtain ⟨vm', X3, st, -⟩ := X.throwsNpeColdBareVAt hexec hg hsize T L Z LZ N LN P1 L1 [PR, PE] hLs hlink1 ⟨hlinkR, hlinkE, trivial⟩ hfound hk hinit hordN hctor hsel0 hselF hcellS hknownS hvU hvSen
    hv0 xC xS xP tkC tkS tkP tkX Y.objLocals hskip (fun _ _ hA hW _ hroom _ hrest => L.nativeOff p htr hA hW hroom hrest) (by simpa using hRframes) hRlocals (by simp) hRcells (by rw [hn]; exact hRslots)
  have hlt : W.heap.size < ((W.pushCell (freshCell P1.m.cls N.kN)).setVm vm').heap.size := by
    show W.heap.size < (W.pushCell (freshCell P1.m.cls N.kN)).heap.size
    rw [State.heap_size_pushCell]; omega
  rw [hfsz] at X3
  obtain ⟨g₁, hfrM⟩ := X3.frames_eq
  have hU : ((((W.pushCell (freshCell P1.m.cls N.kN)).setVm vm').setCell W.heap.size (npeBareV T.toThrowableT N.toNpeT (freshCell P1.m.cls N.kN) W.heap.size u0 sen)).setTop g).pushFrame (.throwing W.heap.size) = (((W.pushCell (freshCell P1.m.cls N.kN)).setVm vm').setCell W.heap.size (npeBareV T.toThrowableT N.toNpeT (freshCell P1.m.cls N.kN) W.heap.size u0 sen)).setFrames (.throwing W.heap.size :: .java g :: below) := by
    rw [State.pushFrame, State.frames_setTop _ hfrM, State.setTop_of_frames _ hfrM, State.setFrames_setFrames]
  refine ⟨_, W.heap.size, _, fun target ht => st.trans (by rw [← hU]; exact ht), X3.forget (fun y hy => ?_), heapAt_setCell_self _ hlt, hfound, rfl⟩
  simp only [List.mem_cons, List.not_mem_nil, or_false] at hy
  have hge : s.heap.size ≤ W.heap.size := X.same.2.1
  rcases hy with rfl | rfl | rfl | rfl | rfl <;> exact hge
/-- the words of a machine's NullPointerException, but the four that speak of the heap -/
def vx_atN (n : Nat) : List Cond := (Bundle.npeArmAtoms n).filter vx_no
/-- the words of a machine's throw with a message, but the four that speak of the heap -/
def vx_atM (X : String) (names : List String) : List Cond := (Bundle.messageArmAtoms X names).filter vx_no
section
variable {p : Program} {l : Launch} {e : Env} {R : Room} {s : State} {m : MethodId} {args : Array Value} {below : List Frame} {meth : Method} {c : Code} {H : Heap} {locs : List Loc} {cells slots : Nat}
/-- a frame seen from a rebased start, seen from the first start again -/
theorem vx_back9 {T S : State} {R' : Room} {k n : Nat} (X : Stand p l e R s m args below meth c T locs cells slots) (Y : Stand p l e R' ((T.setVm s.vm).setFrames (.invoking m args :: below)) m args below meth c T [] 0 0) (Z : Stand p l e R' ((T.setVm s.vm).setFrames (.invoking m args :: below)) m args below meth c S [] k n) :
    Stand p l e R s m args below meth c S locs (cells + k) (slots + n) := by
  have hW0 : s.WarmedH ((T.setVm s.vm).setFrames (.invoking m args :: below)).vm := State.WarmedH.refl s
  refine { admits := X.admits, cas := X.cas, clock := X.clock, frames := X.frames, room := X.room, hears := X.hears, method := X.method, code := X.code, here := Z.here, tail := Z.tail, warmed := State.WarmedH.trans hW0 Z.warmed, limits := Z.limits.trans (Y.limits.symm.trans X.limits), bytes := Z.bytes.trans (Y.bytes.symm.trans X.bytes), same := ?_ }
  obtain ⟨e1, e2⟩ := Z.same
  rw [State.setFrames_setFrames] at e1
  have h2 : (T.setVm s.vm).sameButNew (S.setVm s.vm) [] k n := ⟨e1, e2⟩
  have h3 := X.same.trans h2
  rw [List.append_nil] at h3
  exact h3
/-- from the machine's note that E is thrown here with this text -/
def vx_Note (p : Program) (l : Launch) (e : Env) (R : Room) (s : State) (m : MethodId) (args : Array Value) (below : List Frame) (meth : Method) (c : Code) (H : Heap) (locs : List Loc) (cells slots : Nat) (Q : State → Prop) (g : JFrame) (E text : String) : Prop :=
  ∀ T : State, T.heap = H → Stand p l e R s m args below meth c T locs cells slots → ∃ t, Steps p.tables e below ((T.setTop g).pushFrame (.throwNew E (some text) none)) t ∧ Q t
theorem vx_vm {pc : Nat} {ls : Array Slot} {rest : List Value} {Q : State → Prop} (hexec : p.tables.exec = Jvm.exec) (hl : l.stackTraces = false) {cls text : String} {names : List String} {nb : Nat} {A : Nat → Prop}
    (hcls : Bundle.fit cls = true) (hnames : ∀ n ∈ names, Bundle.fit n = true) (hsoe : (cls == "java/lang/StackOverflowError") = false) (hoom : (cls == "java/lang/OutOfMemoryError") = false)
    (hat : ∀ w ∈ vx_atM cls names, w.before args s = true) (hgood : ∀ w ∈ vx_atM cls names, vx_ot w = true)
    (hU : vx_Zq Bundle.tN "UNASSIGNED_STACK" Bundle.steD A s s.heap) (hN : vx_Zq Bundle.tN "SUPPRESSED_SENTINEL" Bundle.listD A s s.heap) (hS : va_S A s.heap H locs) (hsize : ls.size = c.maxLocals)
    (htext : (text == notModelled) = false) (hnb : (stringBytes (stringToUtf16 text)).size ≤ nb) (hnb1 : nb ≤ 1000)
    (hRframes : names.length + 4 < R.frames) (hRlocals : (rest.map fun v => v.category).sum + 10240 ≤ R.locals) (hshort : 13 * names.length + 55 ≤ 10240) (hRcells : cells + 3 ≤ R.cells) (hRslots : slots + (nb + 10) ≤ R.slots) (hlocks : meth.locks = false)
    (k : ∀ (H1 : Heap) (q9 : Addr) (ce : Cell), H.size ≤ H1.size → (∀ q : Nat, q < H.size → H1[q]? = H[q]?) → va_S A s.heap H1 locs → H1[q9]? = some ce → ce.vm = .none → s.vm.findClass cls = some ce.cls → vx_W p l e R s m args below meth c H1 locs (cells + 3) (slots + (nb + 10)) Q (F0 m pc ls rest) q9) :
    vx_Note p l e R s m args below meth c H locs cells slots Q (F0 m pc ls rest) cls text := by
  intro T hT X
  have htr : e.platform.stackTraces = false := (show e.platform.stackTraces = l.stackTraces by rw [X.admits.platform]).trans hl
  have Y := vx_rebase X (R' := { frames := R.frames, locals := R.locals, cells := 3, slots := nb + 10 }) (Nat.le_refl _) (Nat.le_refl _) hRcells hRslots
  have hhp : ((T.setVm s.vm).setFrames (.invoking m args :: below)).heap = H := hT
  have hW0 : s.WarmedH ((T.setVm s.vm).setFrames (.invoking m args :: below)).vm := State.WarmedH.refl s
  have hat' : ∀ w ∈ vx_atM cls names, w.before args ((T.setVm s.vm).setFrames (.invoking m args :: below)) = true := fun w hw => vx_ot_at hW0 rfl (hgood w hw) (hat w hw)
  have hU' : vx_Zq Bundle.tN "UNASSIGNED_STACK" Bundle.steD A ((T.setVm s.vm).setFrames (.invoking m args :: below)) ((T.setVm s.vm).setFrames (.invoking m args :: below)).heap := by rw [hhp]; exact vx_Zq.moved hW0.alike (hU.kept hS.2.1)
  have hN' : vx_Zq Bundle.tN "SUPPRESSED_SENTINEL" Bundle.listD A ((T.setVm s.vm).setFrames (.invoking m args :: below)) ((T.setVm s.vm).setFrames (.invoking m args :: below)).heap := by rw [hhp]; exact vx_Zq.moved hW0.alike (hN.kept hS.2.1)
  obtain ⟨S, q, ce, st, Z, hce, hcl', hv⟩ := vx_vmAt Y hexec htr (cls := cls) (names := names) (text := text) hcls hnames hsoe hoom (vx_own hat' (vx_isRefq hU'.1) (vx_isRefq hN'.1) hU'.2.word hN'.2.word) (fun x hx => nomatch hx) htext
    (by rw [Launch.admits_arrayLengthLimit X.admits]; omega) (by rw [Launch.admits_maxHeapBytes X.admits]; simp only [componentBytes]; omega)
    (g := F0 m pc ls rest) rfl hsize hRframes (by show 2 * 0 + (rest.map fun v => v.category).sum + 10240 ≤ R.locals; omega) hshort (by show 0 + 3 ≤ 3; omega) (by show 0 + (_ + 4 + 6) ≤ nb + 10; omega) hlocks
  obtain ⟨f1, f2⟩ := vx_frame Z.same
  have f1' : H.size ≤ S.heap.size := by rw [← hT]; exact f1
  have f2' : ∀ q : Nat, q < H.size → S.heap[q]? = H[q]? := fun q hq => by
    rw [← hT]
    exact f2 q (by rw [← hT] at hq; exact hq) (fun z hz => nomatch hz)
  have X5 := vx_back9 X Y Z
  have X6 : Stand p l e R s m args below meth c S locs (cells + 3) (slots + (nb + 10)) := { X5 with same := X5.same.mono (by omega) (by omega) }
  obtain ⟨t, a1, b1⟩ := k S.heap q ce f1' f2' ⟨Nat.le_trans hS.1 f1', fun q h1 h2 => (f2' q (Nat.lt_of_lt_of_le h1 hS.1)).trans (hS.2.1 q h1 h2), hS.2.2⟩ hce hv hcl' S rfl X6
  exact ⟨t, st t a1, b1⟩
/-- from the machine's note that NullPointerException is thrown here -/
def vx_NoteN (p : Program) (l : Launch) (e : Env) (R : Room) (s : State) (m : MethodId) (args : Array Value) (below : List Frame) (meth : Method) (c : Code) (H : Heap) (locs : List Loc) (cells slots : Nat) (Q : State → Prop) (g : JFrame) : Prop :=
  ∀ T : State, T.heap = H → Stand p l e R s m args below meth c T locs cells slots → ∃ t, Steps p.tables e below ((T.setTop g).pushFrame (.throwNew "java/lang/NullPointerException" none none)) t ∧ Q t
theorem vx_npe {pc : Nat} {ls : Array Slot} {rest : List Value} {Q : State → Prop} (hexec : p.tables.exec = Jvm.exec) (hl : l.stackTraces = false) {nb : Nat} {A : Nat → Prop}
    (hat : ∀ w ∈ vx_atN nb, w.before args s = true) (hgood : ∀ w ∈ vx_atN nb, vx_ot w = true)
    (hU : vx_Zq Bundle.tN "UNASSIGNED_STACK" Bundle.steD A s s.heap) (hN : vx_Zq Bundle.tN "SUPPRESSED_SENTINEL" Bundle.listD A s s.heap) (hS : va_S A s.heap H locs) (hsize : ls.size = c.maxLocals)
    (hRframes : 7 < R.frames) (hRlocals : (rest.map fun v => v.category).sum + 10240 ≤ R.locals) (hRcells : cells + 1 ≤ R.cells) (hRslots : slots + nb ≤ R.slots) (hlocks : meth.locks = false)
    (k : ∀ (H1 : Heap) (q9 : Addr) (ce : Cell), H.size ≤ H1.size → (∀ q : Nat, q < H.size → H1[q]? = H[q]?) → va_S A s.heap H1 locs → H1[q9]? = some ce → ce.vm = .none → s.vm.findClass "java/lang/NullPointerException" = some ce.cls → vx_W p l e R s m args below meth c H1 locs (cells + 1) (slots + nb) Q (F0 m pc ls rest) q9) :
    vx_NoteN p l e R s m args below meth c H locs cells slots Q (F0 m pc ls rest) := by
  intro T hT X
  have htr : e.platform.stackTraces = false := (show e.platform.stackTraces = l.stackTraces by rw [X.admits.platform]).trans hl
  have Y := vx_rebase X (R' := { frames := R.frames, locals := R.locals, cells := 1, slots := nb }) (Nat.le_refl _) (Nat.le_refl _) hRcells hRslots
  have hhp : ((T.setVm s.vm).setFrames (.invoking m args :: below)).heap = H := hT
  have hW0 : s.WarmedH ((T.setVm s.vm).setFrames (.invoking m args :: below)).vm := State.WarmedH.refl s
  have hat' : ∀ w ∈ vx_atN nb, w.before args ((T.setVm s.vm).setFrames (.invoking m args :: below)) = true := fun w hw => vx_ot_at hW0 rfl (hgood w hw) (hat w hw)
  have hU' : vx_Zq Bundle.tN "UNASSIGNED_STACK" Bundle.steD A ((T.setVm s.vm).setFrames (.invoking m args :: below)) ((T.setVm s.vm).setFrames (.invoking m args :: below)).heap := by rw [hhp]; exact vx_Zq.moved hW0.alike (hU.kept hS.2.1)
  have hN' : vx_Zq Bundle.tN "SUPPRESSED_SENTINEL" Bundle.listD A ((T.setVm s.vm).setFrames (.invoking m args :: below)) ((T.setVm s.vm).setFrames (.invoking m args :: below)).heap := by rw [hhp]; exact vx_Zq.moved hW0.alike (hN.kept hS.2.1)
  obtain ⟨S, q, ce, st, Z, hce, hcl', hv⟩ := vx_npeAt Y hexec htr (n := nb) (vx_own hat' (vx_isRefq hU'.1) (vx_isRefq hN'.1) hU'.2.word hN'.2.word) (fun x hx => nomatch hx)
    (g := F0 m pc ls rest) rfl hsize hRframes (by show 2 * 0 + (rest.map fun v => v.category).sum + 10240 ≤ R.locals; omega) (by show 0 + 1 ≤ 1; omega) (by show 0 + nb ≤ nb; omega) hlocks
  obtain ⟨f1, f2⟩ := vx_frame Z.same
  have f1' : H.size ≤ S.heap.size := by rw [← hT]; exact f1
  have f2' : ∀ q : Nat, q < H.size → S.heap[q]? = H[q]? := fun q hq => by
    rw [← hT]
    exact f2 q (by rw [← hT] at hq; exact hq) (fun z hz => nomatch hz)
  have X5 := vx_back9 X Y Z
  have X6 : Stand p l e R s m args below meth c S locs (cells + 1) (slots + nb) := { X5 with same := X5.same.mono (by omega) (by omega) }
  obtain ⟨t, a1, b1⟩ := k S.heap q ce f1' f2' ⟨Nat.le_trans hS.1 f1', fun q h1 h2 => (f2' q (Nat.lt_of_lt_of_le h1 hS.1)).trans (hS.2.1 q h1 h2), hS.2.2⟩ hce hv hcl' S rfl X6
  exact ⟨t, st t a1, b1⟩
variable {Q : State → Prop} {cc : ByteArray} {pc : Nat} {ls : Array Slot} {rest : List Value}
theorem vx_idivZ (hexec : p.tables.exec = Jvm.exec) (hb : c.code = cc) {a b : Int32} (h0 : b = 0) (d : decode cc pc = .ok (.idiv, 1)) (k : vx_Note p l e R s m args below meth c H locs cells slots Q (F0 m pc ls rest) "java/lang/ArithmeticException" "/ by zero") :
    W p l e R s m args below meth c H locs cells slots Q (F0 m pc ls (.int b :: .int a :: rest)) := by
  intro T hT X
  obtain ⟨t, st, q⟩ := k T hT X
  exact ⟨t, X.idivZero hexec (g := F0 m pc ls (.int b :: .int a :: rest)) rfl (a := a) (rest := rest) (by rw [h0]) (by rw [hb]; exact d) t st, q⟩
theorem vx_iremZ (hexec : p.tables.exec = Jvm.exec) (hb : c.code = cc) {a b : Int32} (h0 : b = 0) (d : decode cc pc = .ok (.irem, 1)) (k : vx_Note p l e R s m args below meth c H locs cells slots Q (F0 m pc ls rest) "java/lang/ArithmeticException" "/ by zero") :
    W p l e R s m args below meth c H locs cells slots Q (F0 m pc ls (.int b :: .int a :: rest)) := by
  intro T hT X
  obtain ⟨t, st, q⟩ := k T hT X
  exact ⟨t, X.iremZero hexec (g := F0 m pc ls (.int b :: .int a :: rest)) rfl (a := a) (rest := rest) (by rw [h0]) (by rw [hb]; exact d) t st, q⟩
theorem vx_ldivZ (hexec : p.tables.exec = Jvm.exec) (hb : c.code = cc) {a b : Int64} (h0 : b = 0) (d : decode cc pc = .ok (.ldiv, 1)) (k : vx_Note p l e R s m args below meth c H locs cells slots Q (F0 m pc ls rest) "java/lang/ArithmeticException" "/ by zero") :
    W p l e R s m args below meth c H locs cells slots Q (F0 m pc ls (.long b :: .long a :: rest)) := by
  intro T hT X
  obtain ⟨t, st, q⟩ := k T hT X
  exact ⟨t, X.ldivZero hexec (g := F0 m pc ls (.long b :: .long a :: rest)) rfl (a := a) (rest := rest) (by rw [h0]) (by rw [hb]; exact d) t st, q⟩
theorem vx_lremZ (hexec : p.tables.exec = Jvm.exec) (hb : c.code = cc) {a b : Int64} (h0 : b = 0) (d : decode cc pc = .ok (.lrem, 1)) (k : vx_Note p l e R s m args below meth c H locs cells slots Q (F0 m pc ls rest) "java/lang/ArithmeticException" "/ by zero") :
    W p l e R s m args below meth c H locs cells slots Q (F0 m pc ls (.long b :: .long a :: rest)) := by
  intro T hT X
  obtain ⟨t, st, q⟩ := k T hT X
  exact ⟨t, X.lremZero hexec (g := F0 m pc ls (.long b :: .long a :: rest)) rfl (a := a) (rest := rest) (by rw [h0]) (by rw [hb]; exact d) t st, q⟩
theorem vx_ialdZ {D : va_G} {cl : List vw_C} {ws : va_W} {tys : List (ClassId × FieldType)} {a : Nat} (hexec : p.tables.exec = Jvm.exec) (hb : c.code = cc) (hK : va_K D cl tys s) (hP : va_P D cl ws H) (q0 t0 : Nat) {cA : ClassId} {n : Nat} {f : Nat → Int32} (ha : ws[q0]? = some (a, .inl (cA, n, .inl f))) (ht : tys[t0]? = some (cA, .int)) {i : Int32} (hout : ¬ vp_in i n) (hdg : decode cc pc = .ok (.iaload, 1))
    (k : ∀ tx : String, tx = (toString "Index " ++ toString i ++ toString " out of bounds for length " ++ toString n : String) → vx_Note p l e R s m args below meth c H locs cells slots Q (F0 m pc ls rest) "java/lang/ArrayIndexOutOfBoundsException" tx) : W p l e R s m args below meth c H locs cells slots Q (F0 m pc ls (.int i :: .ref a :: rest)) := by
  intro T hT X
  obtain ⟨t, st, q⟩ := k _ rfl T hT X
  refine ⟨t, ?_, q⟩
  have h1 := X.ialoadOut hexec (by rw [hT]; exact hP q0 _ ha) ((hK.2 t0 _ ht).1 n (fun j => .int (f j))) (j := i) (by show (i < 0 ∨ (arrV _ _ _).slots.size ≤ _); rw [arrV_size]; exact Classical.byContradiction hout) (g := F0 m pc ls (.int i :: .ref a :: rest)) rfl (rest := rest) rfl (by rw [hb]; exact hdg) t
  simp only [arrV_size] at h1
  exact h1 st
theorem vx_iastZ {D : va_G} {cl : List vw_C} {ws : va_W} {tys : List (ClassId × FieldType)} {a : Nat} (hexec : p.tables.exec = Jvm.exec) (hb : c.code = cc) (hK : va_K D cl tys s) (hP : va_P D cl ws H) (q0 t0 : Nat) {cA : ClassId} {n : Nat} {f : Nat → Int32} (ha : ws[q0]? = some (a, .inl (cA, n, .inl f))) (ht : tys[t0]? = some (cA, .int)) {i : Int32} {x : Int32} (hout : ¬ vp_in i n) (hdg : decode cc pc = .ok (.iastore, 1))
    (k : ∀ tx : String, tx = (toString "Index " ++ toString i ++ toString " out of bounds for length " ++ toString n : String) → vx_Note p l e R s m args below meth c H locs cells slots Q (F0 m pc ls rest) "java/lang/ArrayIndexOutOfBoundsException" tx) : W p l e R s m args below meth c H locs cells slots Q (F0 m pc ls (.int x :: .int i :: .ref a :: rest)) := by
  intro T hT X
  obtain ⟨t, st, q⟩ := k _ rfl T hT X
  refine ⟨t, ?_, q⟩
  have h1 := X.iastoreOut hexec (by rw [hT]; exact hP q0 _ ha) ((hK.2 t0 _ ht).1 n (fun j => .int (f j))) (j := i) (by show (i < 0 ∨ (arrV _ _ _).slots.size ≤ _); rw [arrV_size]; exact Classical.byContradiction hout) (g := F0 m pc ls (.int x :: .int i :: .ref a :: rest)) rfl (rest := rest) rfl (by rw [hb]; exact hdg) t
  simp only [arrV_size] at h1
  exact h1 st
theorem vx_baldZ {D : va_G} {cl : List vw_C} {ws : va_W} {tys : List (ClassId × FieldType)} {a : Nat} (hexec : p.tables.exec = Jvm.exec) (hb : c.code = cc) (hK : va_K D cl tys s) (hP : va_P D cl ws H) (q0 t0 : Nat) {cA : ClassId} {n : Nat} {f : Nat → Int32} (ha : ws[q0]? = some (a, .inl (cA, n, .inl f))) (ht : tys[t0]? = some (cA, .byte)) {i : Int32} (hout : ¬ vp_in i n) (hdg : decode cc pc = .ok (.baload, 1))
    (k : ∀ tx : String, tx = (toString "Index " ++ toString i ++ toString " out of bounds for length " ++ toString n : String) → vx_Note p l e R s m args below meth c H locs cells slots Q (F0 m pc ls rest) "java/lang/ArrayIndexOutOfBoundsException" tx) : W p l e R s m args below meth c H locs cells slots Q (F0 m pc ls (.int i :: .ref a :: rest)) := by
  intro T hT X
  obtain ⟨t, st, q⟩ := k _ rfl T hT X
  refine ⟨t, ?_, q⟩
  have h1 := X.baloadOut hexec (by rw [hT]; exact hP q0 _ ha) ((hK.2 t0 _ ht).1 n (fun j => .int (f j))) (j := i) (by show (i < 0 ∨ (arrV _ _ _).slots.size ≤ _); rw [arrV_size]; exact Classical.byContradiction hout) (g := F0 m pc ls (.int i :: .ref a :: rest)) rfl (rest := rest) rfl (by rw [hb]; exact hdg) t
  simp only [arrV_size] at h1
  exact h1 st
theorem vx_bastZ {D : va_G} {cl : List vw_C} {ws : va_W} {tys : List (ClassId × FieldType)} {a : Nat} (hexec : p.tables.exec = Jvm.exec) (hb : c.code = cc) (hK : va_K D cl tys s) (hP : va_P D cl ws H) (q0 t0 : Nat) {cA : ClassId} {n : Nat} {f : Nat → Int32} (ha : ws[q0]? = some (a, .inl (cA, n, .inl f))) (ht : tys[t0]? = some (cA, .byte)) {i : Int32} {x : Int32} (hout : ¬ vp_in i n) (hdg : decode cc pc = .ok (.bastore, 1))
    (k : ∀ tx : String, tx = (toString "Index " ++ toString i ++ toString " out of bounds for length " ++ toString n : String) → vx_Note p l e R s m args below meth c H locs cells slots Q (F0 m pc ls rest) "java/lang/ArrayIndexOutOfBoundsException" tx) : W p l e R s m args below meth c H locs cells slots Q (F0 m pc ls (.int x :: .int i :: .ref a :: rest)) := by
  intro T hT X
  obtain ⟨t, st, q⟩ := k _ rfl T hT X
  refine ⟨t, ?_, q⟩
  have h1 := X.bastoreOut hexec (by rw [hT]; exact hP q0 _ ha) ((hK.2 t0 _ ht).1 n (fun j => .int (f j))) (j := i) (by show (i < 0 ∨ (arrV _ _ _).slots.size ≤ _); rw [arrV_size]; exact Classical.byContradiction hout) (g := F0 m pc ls (.int x :: .int i :: .ref a :: rest)) rfl (rest := rest) rfl (by rw [hb]; exact hdg) t
  simp only [arrV_size] at h1
  exact h1 st
theorem vx_zaldZ {D : va_G} {cl : List vw_C} {ws : va_W} {tys : List (ClassId × FieldType)} {a : Nat} (hexec : p.tables.exec = Jvm.exec) (hb : c.code = cc) (hK : va_K D cl tys s) (hP : va_P D cl ws H) (q0 t0 : Nat) {cA : ClassId} {n : Nat} {f : Nat → Int32} (ha : ws[q0]? = some (a, .inl (cA, n, .inl f))) (ht : tys[t0]? = some (cA, .boolean)) {i : Int32} (hout : ¬ vp_in i n) (hdg : decode cc pc = .ok (.baload, 1))
    (k : ∀ tx : String, tx = (toString "Index " ++ toString i ++ toString " out of bounds for length " ++ toString n : String) → vx_Note p l e R s m args below meth c H locs cells slots Q (F0 m pc ls rest) "java/lang/ArrayIndexOutOfBoundsException" tx) : W p l e R s m args below meth c H locs cells slots Q (F0 m pc ls (.int i :: .ref a :: rest)) := by
  intro T hT X
  obtain ⟨t, st, q⟩ := k _ rfl T hT X
  refine ⟨t, ?_, q⟩
  have h1 := X.baloadOut hexec (by rw [hT]; exact hP q0 _ ha) ((hK.2 t0 _ ht).1 n (fun j => .int (f j))) (j := i) (by show (i < 0 ∨ (arrV _ _ _).slots.size ≤ _); rw [arrV_size]; exact Classical.byContradiction hout) (g := F0 m pc ls (.int i :: .ref a :: rest)) rfl (rest := rest) rfl (by rw [hb]; exact hdg) t
  simp only [arrV_size] at h1
  exact h1 st
theorem vx_zastZ {D : va_G} {cl : List vw_C} {ws : va_W} {tys : List (ClassId × FieldType)} {a : Nat} (hexec : p.tables.exec = Jvm.exec) (hb : c.code = cc) (hK : va_K D cl tys s) (hP : va_P D cl ws H) (q0 t0 : Nat) {cA : ClassId} {n : Nat} {f : Nat → Int32} (ha : ws[q0]? = some (a, .inl (cA, n, .inl f))) (ht : tys[t0]? = some (cA, .boolean)) {i : Int32} {x : Int32} (hout : ¬ vp_in i n) (hdg : decode cc pc = .ok (.bastore, 1))
    (k : ∀ tx : String, tx = (toString "Index " ++ toString i ++ toString " out of bounds for length " ++ toString n : String) → vx_Note p l e R s m args below meth c H locs cells slots Q (F0 m pc ls rest) "java/lang/ArrayIndexOutOfBoundsException" tx) : W p l e R s m args below meth c H locs cells slots Q (F0 m pc ls (.int x :: .int i :: .ref a :: rest)) := by
  intro T hT X
  obtain ⟨t, st, q⟩ := k _ rfl T hT X
  refine ⟨t, ?_, q⟩
  have h1 := X.bastoreOut hexec (by rw [hT]; exact hP q0 _ ha) ((hK.2 t0 _ ht).1 n (fun j => .int (f j))) (j := i) (by show (i < 0 ∨ (arrV _ _ _).slots.size ≤ _); rw [arrV_size]; exact Classical.byContradiction hout) (g := F0 m pc ls (.int x :: .int i :: .ref a :: rest)) rfl (rest := rest) rfl (by rw [hb]; exact hdg) t
  simp only [arrV_size] at h1
  exact h1 st
theorem vx_caldZ {D : va_G} {cl : List vw_C} {ws : va_W} {tys : List (ClassId × FieldType)} {a : Nat} (hexec : p.tables.exec = Jvm.exec) (hb : c.code = cc) (hK : va_K D cl tys s) (hP : va_P D cl ws H) (q0 t0 : Nat) {cA : ClassId} {n : Nat} {f : Nat → Int32} (ha : ws[q0]? = some (a, .inl (cA, n, .inl f))) (ht : tys[t0]? = some (cA, .char)) {i : Int32} (hout : ¬ vp_in i n) (hdg : decode cc pc = .ok (.caload, 1))
    (k : ∀ tx : String, tx = (toString "Index " ++ toString i ++ toString " out of bounds for length " ++ toString n : String) → vx_Note p l e R s m args below meth c H locs cells slots Q (F0 m pc ls rest) "java/lang/ArrayIndexOutOfBoundsException" tx) : W p l e R s m args below meth c H locs cells slots Q (F0 m pc ls (.int i :: .ref a :: rest)) := by
  intro T hT X
  obtain ⟨t, st, q⟩ := k _ rfl T hT X
  refine ⟨t, ?_, q⟩
  have h1 := X.caloadOut hexec (by rw [hT]; exact hP q0 _ ha) ((hK.2 t0 _ ht).1 n (fun j => .int (f j))) (j := i) (by show (i < 0 ∨ (arrV _ _ _).slots.size ≤ _); rw [arrV_size]; exact Classical.byContradiction hout) (g := F0 m pc ls (.int i :: .ref a :: rest)) rfl (rest := rest) rfl (by rw [hb]; exact hdg) t
  simp only [arrV_size] at h1
  exact h1 st
theorem vx_castZ {D : va_G} {cl : List vw_C} {ws : va_W} {tys : List (ClassId × FieldType)} {a : Nat} (hexec : p.tables.exec = Jvm.exec) (hb : c.code = cc) (hK : va_K D cl tys s) (hP : va_P D cl ws H) (q0 t0 : Nat) {cA : ClassId} {n : Nat} {f : Nat → Int32} (ha : ws[q0]? = some (a, .inl (cA, n, .inl f))) (ht : tys[t0]? = some (cA, .char)) {i : Int32} {x : Int32} (hout : ¬ vp_in i n) (hdg : decode cc pc = .ok (.castore, 1))
    (k : ∀ tx : String, tx = (toString "Index " ++ toString i ++ toString " out of bounds for length " ++ toString n : String) → vx_Note p l e R s m args below meth c H locs cells slots Q (F0 m pc ls rest) "java/lang/ArrayIndexOutOfBoundsException" tx) : W p l e R s m args below meth c H locs cells slots Q (F0 m pc ls (.int x :: .int i :: .ref a :: rest)) := by
  intro T hT X
  obtain ⟨t, st, q⟩ := k _ rfl T hT X
  refine ⟨t, ?_, q⟩
  have h1 := X.castoreOut hexec (by rw [hT]; exact hP q0 _ ha) ((hK.2 t0 _ ht).1 n (fun j => .int (f j))) (j := i) (by show (i < 0 ∨ (arrV _ _ _).slots.size ≤ _); rw [arrV_size]; exact Classical.byContradiction hout) (g := F0 m pc ls (.int x :: .int i :: .ref a :: rest)) rfl (rest := rest) rfl (by rw [hb]; exact hdg) t
  simp only [arrV_size] at h1
  exact h1 st
theorem vx_saldZ {D : va_G} {cl : List vw_C} {ws : va_W} {tys : List (ClassId × FieldType)} {a : Nat} (hexec : p.tables.exec = Jvm.exec) (hb : c.code = cc) (hK : va_K D cl tys s) (hP : va_P D cl ws H) (q0 t0 : Nat) {cA : ClassId} {n : Nat} {f : Nat → Int32} (ha : ws[q0]? = some (a, .inl (cA, n, .inl f))) (ht : tys[t0]? = some (cA, .short)) {i : Int32} (hout : ¬ vp_in i n) (hdg : decode cc pc = .ok (.saload, 1))
    (k : ∀ tx : String, tx = (toString "Index " ++ toString i ++ toString " out of bounds for length " ++ toString n : String) → vx_Note p l e R s m args below meth c H locs cells slots Q (F0 m pc ls rest) "java/lang/ArrayIndexOutOfBoundsException" tx) : W p l e R s m args below meth c H locs cells slots Q (F0 m pc ls (.int i :: .ref a :: rest)) := by
  intro T hT X
  obtain ⟨t, st, q⟩ := k _ rfl T hT X
  refine ⟨t, ?_, q⟩
  have h1 := X.saloadOut hexec (by rw [hT]; exact hP q0 _ ha) ((hK.2 t0 _ ht).1 n (fun j => .int (f j))) (j := i) (by show (i < 0 ∨ (arrV _ _ _).slots.size ≤ _); rw [arrV_size]; exact Classical.byContradiction hout) (g := F0 m pc ls (.int i :: .ref a :: rest)) rfl (rest := rest) rfl (by rw [hb]; exact hdg) t
  simp only [arrV_size] at h1
  exact h1 st
theorem vx_sastZ {D : va_G} {cl : List vw_C} {ws : va_W} {tys : List (ClassId × FieldType)} {a : Nat} (hexec : p.tables.exec = Jvm.exec) (hb : c.code = cc) (hK : va_K D cl tys s) (hP : va_P D cl ws H) (q0 t0 : Nat) {cA : ClassId} {n : Nat} {f : Nat → Int32} (ha : ws[q0]? = some (a, .inl (cA, n, .inl f))) (ht : tys[t0]? = some (cA, .short)) {i : Int32} {x : Int32} (hout : ¬ vp_in i n) (hdg : decode cc pc = .ok (.sastore, 1))
    (k : ∀ tx : String, tx = (toString "Index " ++ toString i ++ toString " out of bounds for length " ++ toString n : String) → vx_Note p l e R s m args below meth c H locs cells slots Q (F0 m pc ls rest) "java/lang/ArrayIndexOutOfBoundsException" tx) : W p l e R s m args below meth c H locs cells slots Q (F0 m pc ls (.int x :: .int i :: .ref a :: rest)) := by
  intro T hT X
  obtain ⟨t, st, q⟩ := k _ rfl T hT X
  refine ⟨t, ?_, q⟩
  have h1 := X.sastoreOut hexec (by rw [hT]; exact hP q0 _ ha) ((hK.2 t0 _ ht).1 n (fun j => .int (f j))) (j := i) (by show (i < 0 ∨ (arrV _ _ _).slots.size ≤ _); rw [arrV_size]; exact Classical.byContradiction hout) (g := F0 m pc ls (.int x :: .int i :: .ref a :: rest)) rfl (rest := rest) rfl (by rw [hb]; exact hdg) t
  simp only [arrV_size] at h1
  exact h1 st
theorem vx_laldZ {D : va_G} {cl : List vw_C} {ws : va_W} {tys : List (ClassId × FieldType)} {a : Nat} (hexec : p.tables.exec = Jvm.exec) (hb : c.code = cc) (hK : va_K D cl tys s) (hP : va_P D cl ws H) (q0 t0 : Nat) {cA : ClassId} {n : Nat} {f : Nat → Int64} (ha : ws[q0]? = some (a, .inl (cA, n, .inr (.inl f)))) (ht : tys[t0]? = some (cA, .long)) {i : Int32} (hout : ¬ vp_in i n) (hdg : decode cc pc = .ok (.laload, 1))
    (k : ∀ tx : String, tx = (toString "Index " ++ toString i ++ toString " out of bounds for length " ++ toString n : String) → vx_Note p l e R s m args below meth c H locs cells slots Q (F0 m pc ls rest) "java/lang/ArrayIndexOutOfBoundsException" tx) : W p l e R s m args below meth c H locs cells slots Q (F0 m pc ls (.int i :: .ref a :: rest)) := by
  intro T hT X
  obtain ⟨t, st, q⟩ := k _ rfl T hT X
  refine ⟨t, ?_, q⟩
  have h1 := X.laloadOut hexec (by rw [hT]; exact hP q0 _ ha) ((hK.2 t0 _ ht).1 n (fun j => .long (f j))) (j := i) (by show (i < 0 ∨ (arrV _ _ _).slots.size ≤ _); rw [arrV_size]; exact Classical.byContradiction hout) (g := F0 m pc ls (.int i :: .ref a :: rest)) rfl (rest := rest) rfl (by rw [hb]; exact hdg) t
  simp only [arrV_size] at h1
  exact h1 st
theorem vx_lastZ {D : va_G} {cl : List vw_C} {ws : va_W} {tys : List (ClassId × FieldType)} {a : Nat} (hexec : p.tables.exec = Jvm.exec) (hb : c.code = cc) (hK : va_K D cl tys s) (hP : va_P D cl ws H) (q0 t0 : Nat) {cA : ClassId} {n : Nat} {f : Nat → Int64} (ha : ws[q0]? = some (a, .inl (cA, n, .inr (.inl f)))) (ht : tys[t0]? = some (cA, .long)) {i : Int32} {x : Int64} (hout : ¬ vp_in i n) (hdg : decode cc pc = .ok (.lastore, 1))
    (k : ∀ tx : String, tx = (toString "Index " ++ toString i ++ toString " out of bounds for length " ++ toString n : String) → vx_Note p l e R s m args below meth c H locs cells slots Q (F0 m pc ls rest) "java/lang/ArrayIndexOutOfBoundsException" tx) : W p l e R s m args below meth c H locs cells slots Q (F0 m pc ls (.long x :: .int i :: .ref a :: rest)) := by
  intro T hT X
  obtain ⟨t, st, q⟩ := k _ rfl T hT X
  refine ⟨t, ?_, q⟩
  have h1 := X.lastoreOut hexec (by rw [hT]; exact hP q0 _ ha) ((hK.2 t0 _ ht).1 n (fun j => .long (f j))) (j := i) (by show (i < 0 ∨ (arrV _ _ _).slots.size ≤ _); rw [arrV_size]; exact Classical.byContradiction hout) (g := F0 m pc ls (.long x :: .int i :: .ref a :: rest)) rfl (rest := rest) rfl (by rw [hb]; exact hdg) t
  simp only [arrV_size] at h1
  exact h1 st
theorem vx_faldZ {D : va_G} {cl : List vw_C} {ws : va_W} {tys : List (ClassId × FieldType)} {a : Nat} (hexec : p.tables.exec = Jvm.exec) (hb : c.code = cc) (hK : va_K D cl tys s) (hP : va_P D cl ws H) (q0 t0 : Nat) {cA : ClassId} {n : Nat} {f : Nat → UInt32} (ha : ws[q0]? = some (a, .inl (cA, n, .inr (.inr (.inl f))))) (ht : tys[t0]? = some (cA, .float)) {i : Int32} (hout : ¬ vp_in i n) (hdg : decode cc pc = .ok (.faload, 1))
    (k : ∀ tx : String, tx = (toString "Index " ++ toString i ++ toString " out of bounds for length " ++ toString n : String) → vx_Note p l e R s m args below meth c H locs cells slots Q (F0 m pc ls rest) "java/lang/ArrayIndexOutOfBoundsException" tx) : W p l e R s m args below meth c H locs cells slots Q (F0 m pc ls (.int i :: .ref a :: rest)) := by
  intro T hT X
  obtain ⟨t, st, q⟩ := k _ rfl T hT X
  refine ⟨t, ?_, q⟩
  have h1 := X.faloadOut hexec (by rw [hT]; exact hP q0 _ ha) ((hK.2 t0 _ ht).1 n (fun j => .float (f j))) (j := i) (by show (i < 0 ∨ (arrV _ _ _).slots.size ≤ _); rw [arrV_size]; exact Classical.byContradiction hout) (g := F0 m pc ls (.int i :: .ref a :: rest)) rfl (rest := rest) rfl (by rw [hb]; exact hdg) t
  simp only [arrV_size] at h1
  exact h1 st
theorem vx_fastZ {D : va_G} {cl : List vw_C} {ws : va_W} {tys : List (ClassId × FieldType)} {a : Nat} (hexec : p.tables.exec = Jvm.exec) (hb : c.code = cc) (hK : va_K D cl tys s) (hP : va_P D cl ws H) (q0 t0 : Nat) {cA : ClassId} {n : Nat} {f : Nat → UInt32} (ha : ws[q0]? = some (a, .inl (cA, n, .inr (.inr (.inl f))))) (ht : tys[t0]? = some (cA, .float)) {i : Int32} {x : UInt32} (hout : ¬ vp_in i n) (hdg : decode cc pc = .ok (.fastore, 1))
    (k : ∀ tx : String, tx = (toString "Index " ++ toString i ++ toString " out of bounds for length " ++ toString n : String) → vx_Note p l e R s m args below meth c H locs cells slots Q (F0 m pc ls rest) "java/lang/ArrayIndexOutOfBoundsException" tx) : W p l e R s m args below meth c H locs cells slots Q (F0 m pc ls (.float x :: .int i :: .ref a :: rest)) := by
  intro T hT X
  obtain ⟨t, st, q⟩ := k _ rfl T hT X
  refine ⟨t, ?_, q⟩
  have h1 := X.fastoreOut hexec (by rw [hT]; exact hP q0 _ ha) ((hK.2 t0 _ ht).1 n (fun j => .float (f j))) (j := i) (by show (i < 0 ∨ (arrV _ _ _).slots.size ≤ _); rw [arrV_size]; exact Classical.byContradiction hout) (g := F0 m pc ls (.float x :: .int i :: .ref a :: rest)) rfl (rest := rest) rfl (by rw [hb]; exact hdg) t
  simp only [arrV_size] at h1
  exact h1 st
theorem vx_daldZ {D : va_G} {cl : List vw_C} {ws : va_W} {tys : List (ClassId × FieldType)} {a : Nat} (hexec : p.tables.exec = Jvm.exec) (hb : c.code = cc) (hK : va_K D cl tys s) (hP : va_P D cl ws H) (q0 t0 : Nat) {cA : ClassId} {n : Nat} {f : Nat → UInt64} (ha : ws[q0]? = some (a, .inl (cA, n, .inr (.inr (.inr (.inl f)))))) (ht : tys[t0]? = some (cA, .double)) {i : Int32} (hout : ¬ vp_in i n) (hdg : decode cc pc = .ok (.daload, 1))
    (k : ∀ tx : String, tx = (toString "Index " ++ toString i ++ toString " out of bounds for length " ++ toString n : String) → vx_Note p l e R s m args below meth c H locs cells slots Q (F0 m pc ls rest) "java/lang/ArrayIndexOutOfBoundsException" tx) : W p l e R s m args below meth c H locs cells slots Q (F0 m pc ls (.int i :: .ref a :: rest)) := by
  intro T hT X
  obtain ⟨t, st, q⟩ := k _ rfl T hT X
  refine ⟨t, ?_, q⟩
  have h1 := X.daloadOut hexec (by rw [hT]; exact hP q0 _ ha) ((hK.2 t0 _ ht).1 n (fun j => .double (f j))) (j := i) (by show (i < 0 ∨ (arrV _ _ _).slots.size ≤ _); rw [arrV_size]; exact Classical.byContradiction hout) (g := F0 m pc ls (.int i :: .ref a :: rest)) rfl (rest := rest) rfl (by rw [hb]; exact hdg) t
  simp only [arrV_size] at h1
  exact h1 st
theorem vx_dastZ {D : va_G} {cl : List vw_C} {ws : va_W} {tys : List (ClassId × FieldType)} {a : Nat} (hexec : p.tables.exec = Jvm.exec) (hb : c.code = cc) (hK : va_K D cl tys s) (hP : va_P D cl ws H) (q0 t0 : Nat) {cA : ClassId} {n : Nat} {f : Nat → UInt64} (ha : ws[q0]? = some (a, .inl (cA, n, .inr (.inr (.inr (.inl f)))))) (ht : tys[t0]? = some (cA, .double)) {i : Int32} {x : UInt64} (hout : ¬ vp_in i n) (hdg : decode cc pc = .ok (.dastore, 1))
    (k : ∀ tx : String, tx = (toString "Index " ++ toString i ++ toString " out of bounds for length " ++ toString n : String) → vx_Note p l e R s m args below meth c H locs cells slots Q (F0 m pc ls rest) "java/lang/ArrayIndexOutOfBoundsException" tx) : W p l e R s m args below meth c H locs cells slots Q (F0 m pc ls (.double x :: .int i :: .ref a :: rest)) := by
  intro T hT X
  obtain ⟨t, st, q⟩ := k _ rfl T hT X
  refine ⟨t, ?_, q⟩
  have h1 := X.dastoreOut hexec (by rw [hT]; exact hP q0 _ ha) ((hK.2 t0 _ ht).1 n (fun j => .double (f j))) (j := i) (by show (i < 0 ∨ (arrV _ _ _).slots.size ≤ _); rw [arrV_size]; exact Classical.byContradiction hout) (g := F0 m pc ls (.double x :: .int i :: .ref a :: rest)) rfl (rest := rest) rfl (by rw [hb]; exact hdg) t
  simp only [arrV_size] at h1
  exact h1 st
theorem vx_arraylengthN (hexec : p.tables.exec = Jvm.exec) (hb : c.code = cc) (hdg : decode cc pc = .ok (.arraylength, 1)) (k : vx_NoteN p l e R s m args below meth c H locs cells slots Q (F0 m pc ls rest)) : W p l e R s m args below meth c H locs cells slots Q (F0 m pc ls (.null :: rest)) := by
  intro T hT X
  obtain ⟨t, st, q⟩ := k T hT X
  exact ⟨t, X.arraylengthNull hexec (g := F0 m pc ls (.null :: rest)) rfl (rest := rest) rfl (by rw [hb]; exact hdg) t st, q⟩
theorem vx_ialoadN (hexec : p.tables.exec = Jvm.exec) (hb : c.code = cc) {i : Int32} (hdg : decode cc pc = .ok (.iaload, 1)) (k : vx_NoteN p l e R s m args below meth c H locs cells slots Q (F0 m pc ls rest)) : W p l e R s m args below meth c H locs cells slots Q (F0 m pc ls (.int i :: .null :: rest)) := by
  intro T hT X
  obtain ⟨t, st, q⟩ := k T hT X
  exact ⟨t, X.ialoadNull hexec (g := F0 m pc ls (.int i :: .null :: rest)) rfl (rest := rest) rfl (by rw [hb]; exact hdg) t st, q⟩
theorem vx_laloadN (hexec : p.tables.exec = Jvm.exec) (hb : c.code = cc) {i : Int32} (hdg : decode cc pc = .ok (.laload, 1)) (k : vx_NoteN p l e R s m args below meth c H locs cells slots Q (F0 m pc ls rest)) : W p l e R s m args below meth c H locs cells slots Q (F0 m pc ls (.int i :: .null :: rest)) := by
  intro T hT X
  obtain ⟨t, st, q⟩ := k T hT X
  exact ⟨t, X.laloadNull hexec (g := F0 m pc ls (.int i :: .null :: rest)) rfl (rest := rest) rfl (by rw [hb]; exact hdg) t st, q⟩
theorem vx_faloadN (hexec : p.tables.exec = Jvm.exec) (hb : c.code = cc) {i : Int32} (hdg : decode cc pc = .ok (.faload, 1)) (k : vx_NoteN p l e R s m args below meth c H locs cells slots Q (F0 m pc ls rest)) : W p l e R s m args below meth c H locs cells slots Q (F0 m pc ls (.int i :: .null :: rest)) := by
  intro T hT X
  obtain ⟨t, st, q⟩ := k T hT X
  exact ⟨t, X.faloadNull hexec (g := F0 m pc ls (.int i :: .null :: rest)) rfl (rest := rest) rfl (by rw [hb]; exact hdg) t st, q⟩
theorem vx_daloadN (hexec : p.tables.exec = Jvm.exec) (hb : c.code = cc) {i : Int32} (hdg : decode cc pc = .ok (.daload, 1)) (k : vx_NoteN p l e R s m args below meth c H locs cells slots Q (F0 m pc ls rest)) : W p l e R s m args below meth c H locs cells slots Q (F0 m pc ls (.int i :: .null :: rest)) := by
  intro T hT X
  obtain ⟨t, st, q⟩ := k T hT X
  exact ⟨t, X.daloadNull hexec (g := F0 m pc ls (.int i :: .null :: rest)) rfl (rest := rest) rfl (by rw [hb]; exact hdg) t st, q⟩
theorem vx_aaloadN (hexec : p.tables.exec = Jvm.exec) (hb : c.code = cc) {i : Int32} (hdg : decode cc pc = .ok (.aaload, 1)) (k : vx_NoteN p l e R s m args below meth c H locs cells slots Q (F0 m pc ls rest)) : W p l e R s m args below meth c H locs cells slots Q (F0 m pc ls (.int i :: .null :: rest)) := by
  intro T hT X
  obtain ⟨t, st, q⟩ := k T hT X
  exact ⟨t, X.aaloadNull hexec (g := F0 m pc ls (.int i :: .null :: rest)) rfl (rest := rest) rfl (by rw [hb]; exact hdg) t st, q⟩
theorem vx_baloadN (hexec : p.tables.exec = Jvm.exec) (hb : c.code = cc) {i : Int32} (hdg : decode cc pc = .ok (.baload, 1)) (k : vx_NoteN p l e R s m args below meth c H locs cells slots Q (F0 m pc ls rest)) : W p l e R s m args below meth c H locs cells slots Q (F0 m pc ls (.int i :: .null :: rest)) := by
  intro T hT X
  obtain ⟨t, st, q⟩ := k T hT X
  exact ⟨t, X.baloadNull hexec (g := F0 m pc ls (.int i :: .null :: rest)) rfl (rest := rest) rfl (by rw [hb]; exact hdg) t st, q⟩
theorem vx_caloadN (hexec : p.tables.exec = Jvm.exec) (hb : c.code = cc) {i : Int32} (hdg : decode cc pc = .ok (.caload, 1)) (k : vx_NoteN p l e R s m args below meth c H locs cells slots Q (F0 m pc ls rest)) : W p l e R s m args below meth c H locs cells slots Q (F0 m pc ls (.int i :: .null :: rest)) := by
  intro T hT X
  obtain ⟨t, st, q⟩ := k T hT X
  exact ⟨t, X.caloadNull hexec (g := F0 m pc ls (.int i :: .null :: rest)) rfl (rest := rest) rfl (by rw [hb]; exact hdg) t st, q⟩
theorem vx_saloadN (hexec : p.tables.exec = Jvm.exec) (hb : c.code = cc) {i : Int32} (hdg : decode cc pc = .ok (.saload, 1)) (k : vx_NoteN p l e R s m args below meth c H locs cells slots Q (F0 m pc ls rest)) : W p l e R s m args below meth c H locs cells slots Q (F0 m pc ls (.int i :: .null :: rest)) := by
  intro T hT X
  obtain ⟨t, st, q⟩ := k T hT X
  exact ⟨t, X.saloadNull hexec (g := F0 m pc ls (.int i :: .null :: rest)) rfl (rest := rest) rfl (by rw [hb]; exact hdg) t st, q⟩
theorem vx_iastoreN (hexec : p.tables.exec = Jvm.exec) (hb : c.code = cc) {x : Int32} {i : Int32} (hdg : decode cc pc = .ok (.iastore, 1)) (k : vx_NoteN p l e R s m args below meth c H locs cells slots Q (F0 m pc ls rest)) : W p l e R s m args below meth c H locs cells slots Q (F0 m pc ls (.int x :: .int i :: .null :: rest)) := by
  intro T hT X
  obtain ⟨t, st, q⟩ := k T hT X
  exact ⟨t, X.iastoreNull hexec (g := F0 m pc ls (.int x :: .int i :: .null :: rest)) rfl (rest := rest) rfl (by rw [hb]; exact hdg) t st, q⟩
theorem vx_lastoreN (hexec : p.tables.exec = Jvm.exec) (hb : c.code = cc) {x : Int64} {i : Int32} (hdg : decode cc pc = .ok (.lastore, 1)) (k : vx_NoteN p l e R s m args below meth c H locs cells slots Q (F0 m pc ls rest)) : W p l e R s m args below meth c H locs cells slots Q (F0 m pc ls (.long x :: .int i :: .null :: rest)) := by
  intro T hT X
  obtain ⟨t, st, q⟩ := k T hT X
  exact ⟨t, X.lastoreNull hexec (g := F0 m pc ls (.long x :: .int i :: .null :: rest)) rfl (rest := rest) rfl (by rw [hb]; exact hdg) t st, q⟩
theorem vx_fastoreN (hexec : p.tables.exec = Jvm.exec) (hb : c.code = cc) {x : UInt32} {i : Int32} (hdg : decode cc pc = .ok (.fastore, 1)) (k : vx_NoteN p l e R s m args below meth c H locs cells slots Q (F0 m pc ls rest)) : W p l e R s m args below meth c H locs cells slots Q (F0 m pc ls (.float x :: .int i :: .null :: rest)) := by
  intro T hT X
  obtain ⟨t, st, q⟩ := k T hT X
  exact ⟨t, X.fastoreNull hexec (g := F0 m pc ls (.float x :: .int i :: .null :: rest)) rfl (rest := rest) rfl (by rw [hb]; exact hdg) t st, q⟩
theorem vx_dastoreN (hexec : p.tables.exec = Jvm.exec) (hb : c.code = cc) {x : UInt64} {i : Int32} (hdg : decode cc pc = .ok (.dastore, 1)) (k : vx_NoteN p l e R s m args below meth c H locs cells slots Q (F0 m pc ls rest)) : W p l e R s m args below meth c H locs cells slots Q (F0 m pc ls (.double x :: .int i :: .null :: rest)) := by
  intro T hT X
  obtain ⟨t, st, q⟩ := k T hT X
  exact ⟨t, X.dastoreNull hexec (g := F0 m pc ls (.double x :: .int i :: .null :: rest)) rfl (rest := rest) rfl (by rw [hb]; exact hdg) t st, q⟩
theorem vx_bastoreN (hexec : p.tables.exec = Jvm.exec) (hb : c.code = cc) {x : Int32} {i : Int32} (hdg : decode cc pc = .ok (.bastore, 1)) (k : vx_NoteN p l e R s m args below meth c H locs cells slots Q (F0 m pc ls rest)) : W p l e R s m args below meth c H locs cells slots Q (F0 m pc ls (.int x :: .int i :: .null :: rest)) := by
  intro T hT X
  obtain ⟨t, st, q⟩ := k T hT X
  exact ⟨t, X.bastoreNull hexec (g := F0 m pc ls (.int x :: .int i :: .null :: rest)) rfl (rest := rest) rfl (by rw [hb]; exact hdg) t st, q⟩
theorem vx_castoreN (hexec : p.tables.exec = Jvm.exec) (hb : c.code = cc) {x : Int32} {i : Int32} (hdg : decode cc pc = .ok (.castore, 1)) (k : vx_NoteN p l e R s m args below meth c H locs cells slots Q (F0 m pc ls rest)) : W p l e R s m args below meth c H locs cells slots Q (F0 m pc ls (.int x :: .int i :: .null :: rest)) := by
  intro T hT X
  obtain ⟨t, st, q⟩ := k T hT X
  exact ⟨t, X.castoreNull hexec (g := F0 m pc ls (.int x :: .int i :: .null :: rest)) rfl (rest := rest) rfl (by rw [hb]; exact hdg) t st, q⟩
theorem vx_sastoreN (hexec : p.tables.exec = Jvm.exec) (hb : c.code = cc) {x : Int32} {i : Int32} (hdg : decode cc pc = .ok (.sastore, 1)) (k : vx_NoteN p l e R s m args below meth c H locs cells slots Q (F0 m pc ls rest)) : W p l e R s m args below meth c H locs cells slots Q (F0 m pc ls (.int x :: .int i :: .null :: rest)) := by
  intro T hT X
  obtain ⟨t, st, q⟩ := k T hT X
  exact ⟨t, X.sastoreNull hexec (g := F0 m pc ls (.int x :: .int i :: .null :: rest)) rfl (rest := rest) rfl (by rw [hb]; exact hdg) t st, q⟩
theorem vx_invokeN {own C : String} {index maxL : Nat} {y : MethodName} {bytes : ByteArray} {ret : Option FieldType} (hexec : p.tables.exec = Jvm.exec) (hb : c.code = cc) (hown : s.vm.findClass own = some m.cls) (hlink : (Cond.methodLink own index y).before args s = true) (hinst : (Cond.instanceMethod y).before args s = true) (hcode : (Cond.code y bytes maxL ret).before args s = true) (hsel : (Cond.selects C y y).before args s = true)
    (hx : y.cls ≠ "java/lang/invoke/MethodHandle" ∧ y.cls ≠ "java/lang/invoke/VarHandle") {As : List Value} (hlen : (parseMethodDescriptor y.desc).map (fun d => d.parameters.length) = some As.length) (hdg : decode cc pc = .ok (.invokevirtual index, 3))
    (k : vx_NoteN p l e R s m args below meth c H locs cells slots Q (F0 m pc ls rest)) {st0 : List Value} (hst : st0 = As.reverse ++ .null :: rest) : W p l e R s m args below meth c H locs cells slots Q (F0 m pc ls st0) := by
  intro T hT X
  obtain ⟨r0, r, hn, hrm, hstR, hsigR⟩ := va_Decl.of hinst hcode
  obtain ⟨c2, r2, m2, q1, q2, q3, q4, kP, hkP, hkPi⟩ := Cond.selects_spec hsel
  cases hn.symm.trans q3
  have hl9 : As.length = r.sig.parameters.length := by
    rw [hsigR] at hlen
    exact (Option.some.inj hlen).symm
  obtain ⟨vm', X1, st1⟩ := X.invokevirtualNull hexec hown hlink hn hrm hstR hkP hkPi hx (g := F0 m pc ls st0) rfl (argsL := As) (rest := rest) hl9 hst (by rw [hb]; exact hdg)
  obtain ⟨t, st, q⟩ := k (T.setVm vm') hT X1
  exact ⟨t, st1 t st, q⟩
theorem vx_newarrayZ {atype : ArrayType} (hexec : p.tables.exec = Jvm.exec) (hb : c.code = cc) {n : Int32} (h0 : n < 0) (hdg : decode cc pc = .ok (.newarray atype, 2)) (k : ∀ tx : String, tx = toString n → vx_Note p l e R s m args below meth c H locs cells slots Q (F0 m pc ls rest) "java/lang/NegativeArraySizeException" tx) : W p l e R s m args below meth c H locs cells slots Q (F0 m pc ls (.int n :: rest)) := by
  intro T hT X
  obtain ⟨t, st, q⟩ := k _ rfl T hT X
  exact ⟨t, X.newarrayNegative hexec (g := F0 m pc ls (.int n :: rest)) rfl h0 (rest := rest) rfl (by rw [hb]; exact hdg) t st, q⟩
end
end VXM
/-! ===== END ===== -/

/-! ===== BEGIN printed: names, fields, word lists, decode rows ===== -/
def RX0 : String := "FairquotaBroker$Job"
def TX0 : u_T := fun k => match k with
  | 0 => ("FairquotaBroker$Job", "number", "I", true)
  | 1 => ("FairquotaBroker$Job", "leaf", "LFairquotaBroker$Team;", true)
  | 2 => ("FairquotaBroker$Job", "size", "I", true)
  | 3 => ("FairquotaBroker$Job", "ticks", "I", true)
  | 4 => ("FairquotaBroker$Job", "state", "C", false)
  | 5 => ("FairquotaBroker$Job", "ticksToGo", "I", false)
  | 6 => ("FairquotaBroker$Job", "timesStopped", "I", false)
  | _ => ("FairquotaBroker$Job", "startedAs", "I", false)
def tyX0 : Nat → FieldType := fun k => match k with
  | 0 => .int
  | 1 => .object "FairquotaBroker$Team"
  | 2 => .int
  | 3 => .int
  | 4 => .char
  | 5 => .int
  | 6 => .int
  | _ => .int
theorem nmX0 : ∀ a, a < 8 → ∀ b, b < 8 → a ≠ b → (TX0 a).2.1 ≠ (TX0 b).2.1 := by decide +kernel
theorem tyX0_ok : ∀ k, k < 8 → parseFieldDescriptor (TX0 k).2.2.1 = some (tyX0 k) := by decide +kernel
abbrev cX0_init : ByteArray := prog_2_method_1_code
def yX0_init : MethodName := ⟨RX0, "<init>", "(ILFairquotaBroker$Team;II)V"⟩
abbrev cX0_isAlive : ByteArray := prog_2_method_2_code
def yX0_isAlive : MethodName := ⟨RX0, "isAlive", "()Z"⟩
abbrev cX0_takeUnits : ByteArray := prog_2_method_3_code
def yX0_takeUnits : MethodName := ⟨RX0, "takeUnits", "()V"⟩
abbrev cX0_giveUnitsBack : ByteArray := prog_2_method_4_code
def yX0_giveUnitsBack : MethodName := ⟨RX0, "giveUnitsBack", "()V"⟩
def RX1 : String := "FairquotaBroker$Reservation"
def TX1 : u_T := fun k => match k with
  | 0 => ("FairquotaBroker$Reservation", "leaf", "LFairquotaBroker$Team;", true)
  | 1 => ("FairquotaBroker$Reservation", "from", "I", true)
  | 2 => ("FairquotaBroker$Reservation", "to", "I", true)
  | _ => ("FairquotaBroker$Reservation", "units", "I", false)
def tyX1 : Nat → FieldType := fun k => match k with
  | 0 => .object "FairquotaBroker$Team"
  | 1 => .int
  | 2 => .int
  | _ => .int
theorem nmX1 : ∀ a, a < 4 → ∀ b, b < 4 → a ≠ b → (TX1 a).2.1 ≠ (TX1 b).2.1 := by decide +kernel
theorem tyX1_ok : ∀ k, k < 4 → parseFieldDescriptor (TX1 k).2.2.1 = some (tyX1 k) := by decide +kernel
abbrev cX1_init : ByteArray := prog_3_method_1_code
def yX1_init : MethodName := ⟨RX1, "<init>", "(LFairquotaBroker$Team;II)V"⟩
def RX2 : String := "FairquotaBroker$Team"
def TX2 : u_T := fun k => match k with
  | 0 => ("FairquotaBroker$Team", "number", "I", true)
  | 1 => ("FairquotaBroker$Team", "parent", "LFairquotaBroker$Team;", true)
  | 2 => ("FairquotaBroker$Team", "children", "Ljava/util/ArrayList;", true)
  | 3 => ("FairquotaBroker$Team", "weight", "I", false)
  | 4 => ("FairquotaBroker$Team", "limit", "I", false)
  | 5 => ("FairquotaBroker$Team", "wasClaimed", "Z", false)
  | 6 => ("FairquotaBroker$Team", "runs", "I", false)
  | 7 => ("FairquotaBroker$Team", "pastUse", "J", false)
  | 8 => ("FairquotaBroker$Team", "demand", "I", false)
  | 9 => ("FairquotaBroker$Team", "share", "I", false)
  | 10 => ("FairquotaBroker$Team", "filledShare", "I", false)
  | 11 => ("FairquotaBroker$Team", "heldUnits", "I", false)
  | 12 => ("FairquotaBroker$Team", "dueUnits", "I", false)
  | _ => ("FairquotaBroker$Team", "given", "I", false)
def tyX2 : Nat → FieldType := fun k => match k with
  | 0 => .int
  | 1 => .object "FairquotaBroker$Team"
  | 2 => .object "java/util/ArrayList"
  | 3 => .int
  | 4 => .int
  | 5 => .boolean
  | 6 => .int
  | 7 => .long
  | 8 => .int
  | 9 => .int
  | 10 => .int
  | 11 => .int
  | 12 => .int
  | _ => .int
theorem nmX2 : ∀ a, a < 14 → ∀ b, b < 14 → a ≠ b → (TX2 a).2.1 ≠ (TX2 b).2.1 := by decide +kernel
theorem tyX2_ok : ∀ k, k < 14 → parseFieldDescriptor (TX2 k).2.2.1 = some (tyX2 k) := by decide +kernel
abbrev cX2_init : ByteArray := prog_4_method_1_code
def yX2_init : MethodName := ⟨RX2, "<init>", "(ILFairquotaBroker$Team;I)V"⟩
abbrev cX2_isLeaf : ByteArray := prog_4_method_2_code
def yX2_isLeaf : MethodName := ⟨RX2, "isLeaf", "()Z"⟩
abbrev cX2_limitsAllow : ByteArray := prog_4_method_3_code
def yX2_limitsAllow : MethodName := ⟨RX2, "limitsAllow", "(I)Z"⟩
abbrev cX2_changeRuns : ByteArray := prog_4_method_4_code
def yX2_changeRuns : MethodName := ⟨RX2, "changeRuns", "(I)V"⟩
abbrev cX2_usedLessThan : ByteArray := prog_4_method_5_code
def yX2_usedLessThan : MethodName := ⟨RX2, "usedLessThan", "(LFairquotaBroker$Team;)Z"⟩
abbrev cX2_settleDemand : ByteArray := prog_4_method_6_code
def yX2_settleDemand : MethodName := ⟨RX2, "settleDemand", "()V"⟩
abbrev cX2_dealToChildren : ByteArray := prog_4_method_7_code
def yX2_dealToChildren : MethodName := ⟨RX2, "dealToChildren", "()V"⟩
abbrev cX2_fillChildren : ByteArray := prog_4_method_8_code
def yX2_fillChildren : MethodName := ⟨RX2, "fillChildren", "()V"⟩
abbrev cX2_giveOneByOne : ByteArray := prog_4_method_9_code
def yX2_giveOneByOne : MethodName := ⟨RX2, "giveOneByOne", "(I)V"⟩
abbrev cX2_neediestChild : ByteArray := prog_4_method_10_code
def yX2_neediestChild : MethodName := ⟨RX2, "neediestChild", "()LFairquotaBroker$Team;"⟩
abbrev cX2_levelWithin : ByteArray := prog_4_method_11_code
def yX2_levelWithin : MethodName := ⟨RX2, "levelWithin", "(I)I"⟩
abbrev cX2_childrenUnitsAtLevel : ByteArray := prog_4_method_12_code
def yX2_childrenUnitsAtLevel : MethodName := ⟨RX2, "childrenUnitsAtLevel", "(I)I"⟩
abbrev cX2_unitsAtLevel : ByteArray := prog_4_method_13_code
def yX2_unitsAtLevel : MethodName := ⟨RX2, "unitsAtLevel", "(I)I"⟩
abbrev cX2_sharesOfChildren : ByteArray := prog_4_method_14_code
def yX2_sharesOfChildren : MethodName := ⟨RX2, "sharesOfChildren", "()I"⟩
def RX3 : String := "FairquotaBroker"
def TX3 : u_T := fun k => match k with
  | 0 => ("FairquotaBroker", "allTeams", "Ljava/util/ArrayList;", true)
  | 1 => ("FairquotaBroker", "root", "LFairquotaBroker$Team;", true)
  | 2 => ("FairquotaBroker", "allJobs", "Ljava/util/ArrayList;", true)
  | 3 => ("FairquotaBroker", "aliveJobs", "Ljava/util/ArrayList;", true)
  | 4 => ("FairquotaBroker", "allReservations", "Ljava/util/ArrayList;", true)
  | 5 => ("FairquotaBroker", "line", "Ljava/util/ArrayList;", true)
  | 6 => ("FairquotaBroker", "victims", "Ljava/util/ArrayList;", true)
  | 7 => ("FairquotaBroker", "capacity", "I", false)
  | 8 => ("FairquotaBroker", "halfTime", "I", false)
  | 9 => ("FairquotaBroker", "now", "I", false)
  | _ => ("FairquotaBroker", "startsSoFar", "I", false)
def tyX3 : Nat → FieldType := fun k => match k with
  | 0 => .object "java/util/ArrayList"
  | 1 => .object "FairquotaBroker$Team"
  | 2 => .object "java/util/ArrayList"
  | 3 => .object "java/util/ArrayList"
  | 4 => .object "java/util/ArrayList"
  | 5 => .object "java/util/ArrayList"
  | 6 => .object "java/util/ArrayList"
  | 7 => .int
  | 8 => .int
  | 9 => .int
  | _ => .int
theorem nmX3 : ∀ a, a < 11 → ∀ b, b < 11 → a ≠ b → (TX3 a).2.1 ≠ (TX3 b).2.1 := by decide +kernel
theorem tyX3_ok : ∀ k, k < 11 → parseFieldDescriptor (TX3 k).2.2.1 = some (tyX3 k) := by decide +kernel
abbrev cX3_init : ByteArray := prog_1_method_1_code
def yX3_init : MethodName := ⟨RX3, "<init>", "()V"⟩
abbrev cX3_addTeam : ByteArray := prog_1_method_2_code
def yX3_addTeam : MethodName := ⟨RX3, "addTeam", "(II)I"⟩
abbrev cX3_setWeight : ByteArray := prog_1_method_3_code
def yX3_setWeight : MethodName := ⟨RX3, "setWeight", "(II)I"⟩
abbrev cX3_setLimit : ByteArray := prog_1_method_4_code
def yX3_setLimit : MethodName := ⟨RX3, "setLimit", "(II)I"⟩
abbrev cX3_setCapacity : ByteArray := prog_1_method_5_code
def yX3_setCapacity : MethodName := ⟨RX3, "setCapacity", "(I)I"⟩
abbrev cX3_setHalfTime : ByteArray := prog_1_method_6_code
def yX3_setHalfTime : MethodName := ⟨RX3, "setHalfTime", "(I)I"⟩
abbrev cX3_teams : ByteArray := prog_1_method_7_code
def yX3_teams : MethodName := ⟨RX3, "teams", "()I"⟩
abbrev cX3_parentOf : ByteArray := prog_1_method_8_code
def yX3_parentOf : MethodName := ⟨RX3, "parentOf", "(I)I"⟩
abbrev cX3_children : ByteArray := prog_1_method_9_code
def yX3_children : MethodName := ⟨RX3, "children", "(I)I"⟩
abbrev cX3_submit : ByteArray := prog_1_method_10_code
def yX3_submit : MethodName := ⟨RX3, "submit", "(III)I"⟩
abbrev cX3_cancel : ByteArray := prog_1_method_11_code
def yX3_cancel : MethodName := ⟨RX3, "cancel", "(I)I"⟩
abbrev cX3_pass : ByteArray := prog_1_method_12_code
def yX3_pass : MethodName := ⟨RX3, "pass", "(I)I"⟩
abbrev cX3_tick : ByteArray := prog_1_method_13_code
def yX3_tick : MethodName := ⟨RX3, "tick", "()I"⟩
abbrev cX3_jobs : ByteArray := prog_1_method_14_code
def yX3_jobs : MethodName := ⟨RX3, "jobs", "()I"⟩
abbrev cX3_stateOf : ByteArray := prog_1_method_15_code
def yX3_stateOf : MethodName := ⟨RX3, "stateOf", "(I)C"⟩
abbrev cX3_toGo : ByteArray := prog_1_method_16_code
def yX3_toGo : MethodName := ⟨RX3, "toGo", "(I)I"⟩
abbrev cX3_stops : ByteArray := prog_1_method_17_code
def yX3_stops : MethodName := ⟨RX3, "stops", "(I)I"⟩
abbrev cX3_firstOf : ByteArray := prog_1_method_18_code
def yX3_firstOf : MethodName := ⟨RX3, "firstOf", "(I)I"⟩
abbrev cX3_inLine : ByteArray := prog_1_method_19_code
def yX3_inLine : MethodName := ⟨RX3, "inLine", "(I)I"⟩
abbrev cX3_reserve : ByteArray := prog_1_method_20_code
def yX3_reserve : MethodName := ⟨RX3, "reserve", "(IIII)I"⟩
abbrev cX3_drop : ByteArray := prog_1_method_21_code
def yX3_drop : MethodName := ⟨RX3, "drop", "(III)I"⟩
abbrev cX3_reserved : ByteArray := prog_1_method_22_code
def yX3_reserved : MethodName := ⟨RX3, "reserved", "(I)I"⟩
abbrev cX3_running : ByteArray := prog_1_method_23_code
def yX3_running : MethodName := ⟨RX3, "running", "(I)I"⟩
abbrev cX3_demand : ByteArray := prog_1_method_24_code
def yX3_demand : MethodName := ⟨RX3, "demand", "(I)I"⟩
abbrev cX3_share : ByteArray := prog_1_method_25_code
def yX3_share : MethodName := ⟨RX3, "share", "(I)I"⟩
abbrev cX3_shareByLevels : ByteArray := prog_1_method_26_code
def yX3_shareByLevels : MethodName := ⟨RX3, "shareByLevels", "(I)I"⟩
abbrev cX3_due : ByteArray := prog_1_method_27_code
def yX3_due : MethodName := ⟨RX3, "due", "(I)I"⟩
abbrev cX3_freeFor : ByteArray := prog_1_method_28_code
def yX3_freeFor : MethodName := ⟨RX3, "freeFor", "(I)I"⟩
abbrev cX3_use : ByteArray := prog_1_method_29_code
def yX3_use : MethodName := ⟨RX3, "use", "(I)J"⟩
abbrev cX3_usedShare : ByteArray := prog_1_method_30_code
def yX3_usedShare : MethodName := ⟨RX3, "usedShare", "()F"⟩
abbrev cX3_meanStops : ByteArray := prog_1_method_31_code
def yX3_meanStops : MethodName := ⟨RX3, "meanStops", "()D"⟩
abbrev cX3_isFair : ByteArray := prog_1_method_32_code
def yX3_isFair : MethodName := ⟨RX3, "isFair", "()Z"⟩
abbrev cX3_teamAt : ByteArray := prog_1_method_33_code
def yX3_teamAt : MethodName := ⟨RX3, "teamAt", "(I)LFairquotaBroker$Team;"⟩
abbrev cX3_teamBelowRoot : ByteArray := prog_1_method_34_code
def yX3_teamBelowRoot : MethodName := ⟨RX3, "teamBelowRoot", "(I)LFairquotaBroker$Team;"⟩
abbrev cX3_leafAt : ByteArray := prog_1_method_35_code
def yX3_leafAt : MethodName := ⟨RX3, "leafAt", "(I)LFairquotaBroker$Team;"⟩
abbrev cX3_requireLeaf : ByteArray := prog_1_method_36_code
def yX3_requireLeaf : MethodName := ⟨RX3, "requireLeaf", "(LFairquotaBroker$Team;)V"⟩
abbrev cX3_requireRange : ByteArray := prog_1_method_37_code
def yX3_requireRange : MethodName := ⟨RX3, "requireRange", "(III)V"⟩
abbrev cX3_jobAt : ByteArray := prog_1_method_38_code
def yX3_jobAt : MethodName := ⟨RX3, "jobAt", "(I)LFairquotaBroker$Job;"⟩
abbrev cX3_aliveJobAt : ByteArray := prog_1_method_39_code
def yX3_aliveJobAt : MethodName := ⟨RX3, "aliveJobAt", "(I)LFairquotaBroker$Job;"⟩
abbrev cX3_endJobs : ByteArray := prog_1_method_40_code
def yX3_endJobs : MethodName := ⟨RX3, "endJobs", "()I"⟩
abbrev cX3_changeUse : ByteArray := prog_1_method_41_code
def yX3_changeUse : MethodName := ⟨RX3, "changeUse", "()V"⟩
abbrev cX3_forgetDeadJobs : ByteArray := prog_1_method_42_code
def yX3_forgetDeadJobs : MethodName := ⟨RX3, "forgetDeadJobs", "()V"⟩
abbrev cX3_serve : ByteArray := prog_1_method_43_code
def yX3_serve : MethodName := ⟨RX3, "serve", "()V"⟩
abbrev cX3_serveNext : ByteArray := prog_1_method_44_code
def yX3_serveNext : MethodName := ⟨RX3, "serveNext", "()Z"⟩
abbrev cX3_stopVictims : ByteArray := prog_1_method_45_code
def yX3_stopVictims : MethodName := ⟨RX3, "stopVictims", "()V"⟩
abbrev cX3_start : ByteArray := prog_1_method_46_code
def yX3_start : MethodName := ⟨RX3, "start", "(LFairquotaBroker$Job;)V"⟩
abbrev cX3_formLine : ByteArray := prog_1_method_47_code
def yX3_formLine : MethodName := ⟨RX3, "formLine", "()V"⟩
abbrev cX3_placeInLine : ByteArray := prog_1_method_48_code
def yX3_placeInLine : MethodName := ⟨RX3, "placeInLine", "(LFairquotaBroker$Team;)I"⟩
abbrev cX3_firstJob : ByteArray := prog_1_method_49_code
def yX3_firstJob : MethodName := ⟨RX3, "firstJob", "(LFairquotaBroker$Team;)LFairquotaBroker$Job;"⟩
abbrev cX3_canStartOrReclaim : ByteArray := prog_1_method_50_code
def yX3_canStartOrReclaim : MethodName := ⟨RX3, "canStartOrReclaim", "(LFairquotaBroker$Job;)Z"⟩
abbrev cX3_findVictims : ByteArray := prog_1_method_51_code
def yX3_findVictims : MethodName := ⟨RX3, "findVictims", "(LFairquotaBroker$Job;)Z"⟩
abbrev cX3_youngestBorrower : ByteArray := prog_1_method_52_code
def yX3_youngestBorrower : MethodName := ⟨RX3, "youngestBorrower", "(LFairquotaBroker$Team;)LFairquotaBroker$Job;"⟩
abbrev cX3_freeUnits : ByteArray := prog_1_method_53_code
def yX3_freeUnits : MethodName := ⟨RX3, "freeUnits", "(LFairquotaBroker$Team;)I"⟩
abbrev cX3_reservationFor : ByteArray := prog_1_method_54_code
def yX3_reservationFor : MethodName := ⟨RX3, "reservationFor", "(III)LFairquotaBroker$Reservation;"⟩
abbrev cX3_forgetReservation : ByteArray := prog_1_method_55_code
def yX3_forgetReservation : MethodName := ⟨RX3, "forgetReservation", "(LFairquotaBroker$Reservation;)V"⟩
abbrev cX3_reckonHeldUnits : ByteArray := prog_1_method_56_code
def yX3_reckonHeldUnits : MethodName := ⟨RX3, "reckonHeldUnits", "()V"⟩
abbrev cX3_reckonDues : ByteArray := prog_1_method_57_code
def yX3_reckonDues : MethodName := ⟨RX3, "reckonDues", "()V"⟩
abbrev cX3_reckonDemands : ByteArray := prog_1_method_58_code
def yX3_reckonDemands : MethodName := ⟨RX3, "reckonDemands", "()V"⟩
abbrev cX3_dealShares : ByteArray := prog_1_method_59_code
def yX3_dealShares : MethodName := ⟨RX3, "dealShares", "()V"⟩
abbrev cX3_fillShares : ByteArray := prog_1_method_60_code
def yX3_fillShares : MethodName := ⟨RX3, "fillShares", "()V"⟩
abbrev cX3_rootShare : ByteArray := prog_1_method_61_code
def yX3_rootShare : MethodName := ⟨RX3, "rootShare", "()I"⟩
abbrev cX3_sharesAreFair : ByteArray := prog_1_method_62_code
def yX3_sharesAreFair : MethodName := ⟨RX3, "sharesAreFair", "()Z"⟩
abbrev cX3_someFirstJobCanBeServed : ByteArray := prog_1_method_63_code
def yX3_someFirstJobCanBeServed : MethodName := ⟨RX3, "someFirstJobCanBeServed", "()Z"⟩
def RX4 : String := "FairquotaBrokerModel"
def TX4 : u_T := fun k => match k with
  | 0 => ("FairquotaBrokerModel", "thrown", "I", false)
  | 1 => ("FairquotaBrokerModel", "tick", "I", false)
  | 2 => ("FairquotaBrokerModel", "capacity", "I", false)
  | 3 => ("FairquotaBrokerModel", "halfTime", "I", false)
  | 4 => ("FairquotaBrokerModel", "teams", "I", false)
  | 5 => ("FairquotaBrokerModel", "parent", "[I", true)
  | 6 => ("FairquotaBrokerModel", "weight", "[I", true)
  | 7 => ("FairquotaBrokerModel", "limit", "[I", true)
  | 8 => ("FairquotaBrokerModel", "use", "[J", true)
  | 9 => ("FairquotaBrokerModel", "hadWork", "[Z", true)
  | 10 => ("FairquotaBrokerModel", "runs", "[I", true)
  | 11 => ("FairquotaBrokerModel", "waits", "[I", true)
  | 12 => ("FairquotaBrokerModel", "jobs", "I", false)
  | 13 => ("FairquotaBrokerModel", "leafOf", "[I", true)
  | 14 => ("FairquotaBrokerModel", "size", "[I", true)
  | 15 => ("FairquotaBrokerModel", "ticks", "[I", true)
  | 16 => ("FairquotaBrokerModel", "left", "[I", true)
  | 17 => ("FairquotaBrokerModel", "state", "[I", true)
  | 18 => ("FairquotaBrokerModel", "stopped", "[I", true)
  | 19 => ("FairquotaBrokerModel", "started", "[I", true)
  | 20 => ("FairquotaBrokerModel", "starts", "I", false)
  | 21 => ("FairquotaBrokerModel", "active", "I", false)
  | 22 => ("FairquotaBrokerModel", "spans", "I", false)
  | 23 => ("FairquotaBrokerModel", "spanLeaf", "[I", true)
  | 24 => ("FairquotaBrokerModel", "spanUnits", "[I", true)
  | 25 => ("FairquotaBrokerModel", "spanFrom", "[I", true)
  | 26 => ("FairquotaBrokerModel", "spanTo", "[I", true)
  | 27 => ("FairquotaBrokerModel", "wants", "[I", true)
  | 28 => ("FairquotaBrokerModel", "shares", "[I", true)
  | 29 => ("FairquotaBrokerModel", "line", "[I", true)
  | 30 => ("FairquotaBrokerModel", "lineMany", "I", false)
  | 31 => ("FairquotaBrokerModel", "gone", "[I", true)
  | _ => ("FairquotaBrokerModel", "goneMany", "I", false)
def tyX4 : Nat → FieldType := fun k => match k with
  | 0 => .int
  | 1 => .int
  | 2 => .int
  | 3 => .int
  | 4 => .int
  | 5 => .array .int
  | 6 => .array .int
  | 7 => .array .int
  | 8 => .array .long
  | 9 => .array .boolean
  | 10 => .array .int
  | 11 => .array .int
  | 12 => .int
  | 13 => .array .int
  | 14 => .array .int
  | 15 => .array .int
  | 16 => .array .int
  | 17 => .array .int
  | 18 => .array .int
  | 19 => .array .int
  | 20 => .int
  | 21 => .int
  | 22 => .int
  | 23 => .array .int
  | 24 => .array .int
  | 25 => .array .int
  | 26 => .array .int
  | 27 => .array .int
  | 28 => .array .int
  | 29 => .array .int
  | 30 => .int
  | 31 => .array .int
  | _ => .int
theorem nmX4 : ∀ a, a < 33 → ∀ b, b < 33 → a ≠ b → (TX4 a).2.1 ≠ (TX4 b).2.1 := by decide +kernel
theorem tyX4_ok : ∀ k, k < 33 → parseFieldDescriptor (TX4 k).2.2.1 = some (tyX4 k) := by decide +kernel
abbrev cX4_init : ByteArray := prog_6_method_1_code
def yX4_init : MethodName := ⟨RX4, "<init>", "()V"⟩
abbrev cX4_thrown : ByteArray := prog_6_method_2_code
def yX4_thrown : MethodName := ⟨RX4, "thrown", "()I"⟩
abbrev cX4_in : ByteArray := prog_6_method_3_code
def yX4_in : MethodName := ⟨RX4, "in", "(III)Z"⟩
abbrev cX4_goesOn : ByteArray := prog_6_method_4_code
def yX4_goesOn : MethodName := ⟨RX4, "goesOn", "(I)Z"⟩
abbrev cX4_isTeam : ByteArray := prog_6_method_5_code
def yX4_isTeam : MethodName := ⟨RX4, "isTeam", "(I)Z"⟩
abbrev cX4_childrenOf : ByteArray := prog_6_method_6_code
def yX4_childrenOf : MethodName := ⟨RX4, "childrenOf", "(I)I"⟩
abbrev cX4_isLeaf : ByteArray := prog_6_method_7_code
def yX4_isLeaf : MethodName := ⟨RX4, "isLeaf", "(I)Z"⟩
abbrev cX4_leafFault : ByteArray := prog_6_method_8_code
def yX4_leafFault : MethodName := ⟨RX4, "leafFault", "(I)I"⟩
abbrev cX4_demandOf : ByteArray := prog_6_method_9_code
def yX4_demandOf : MethodName := ⟨RX4, "demandOf", "(I)I"⟩
abbrev cX4_gives : ByteArray := prog_6_method_10_code
def yX4_gives : MethodName := ⟨RX4, "gives", "(I)V"⟩
abbrev cX4_laysShares : ByteArray := prog_6_method_11_code
def yX4_laysShares : MethodName := ⟨RX4, "laysShares", "()V"⟩
abbrev cX4_reservedFor : ByteArray := prog_6_method_12_code
def yX4_reservedFor : MethodName := ⟨RX4, "reservedFor", "(I)I"⟩
abbrev cX4_dueOf : ByteArray := prog_6_method_13_code
def yX4_dueOf : MethodName := ⟨RX4, "dueOf", "(I)I"⟩
abbrev cX4_freeOf : ByteArray := prog_6_method_14_code
def yX4_freeOf : MethodName := ⟨RX4, "freeOf", "(I)I"⟩
abbrev cX4_firstJob : ByteArray := prog_6_method_15_code
def yX4_firstJob : MethodName := ⟨RX4, "firstJob", "(I)I"⟩
abbrev cX4_isAhead : ByteArray := prog_6_method_16_code
def yX4_isAhead : MethodName := ⟨RX4, "isAhead", "(II)Z"⟩
abbrev cX4_laysLine : ByteArray := prog_6_method_17_code
def yX4_laysLine : MethodName := ⟨RX4, "laysLine", "()V"⟩
abbrev cX4_runsMore : ByteArray := prog_6_method_18_code
def yX4_runsMore : MethodName := ⟨RX4, "runsMore", "(II)V"⟩
abbrev cX4_starts : ByteArray := prog_6_method_19_code
def yX4_starts : MethodName := ⟨RX4, "starts", "(I)V"⟩
abbrev cX4_halts : ByteArray := prog_6_method_20_code
def yX4_halts : MethodName := ⟨RX4, "halts", "(I)V"⟩
abbrev cX4_goesBack : ByteArray := prog_6_method_21_code
def yX4_goesBack : MethodName := ⟨RX4, "goesBack", "(I)V"⟩
abbrev cX4_isWithinLimits : ByteArray := prog_6_method_22_code
def yX4_isWithinLimits : MethodName := ⟨RX4, "isWithinLimits", "(I)Z"⟩
abbrev cX4_canStart : ByteArray := prog_6_method_23_code
def yX4_canStart : MethodName := ⟨RX4, "canStart", "(I)Z"⟩
abbrev cX4_lastOver : ByteArray := prog_6_method_24_code
def yX4_lastOver : MethodName := ⟨RX4, "lastOver", "(I)I"⟩
abbrev cX4_makesRoom : ByteArray := prog_6_method_25_code
def yX4_makesRoom : MethodName := ⟨RX4, "makesRoom", "(I)Z"⟩
abbrev cX4_restores : ByteArray := prog_6_method_26_code
def yX4_restores : MethodName := ⟨RX4, "restores", "()V"⟩
abbrev cX4_servesOne : ByteArray := prog_6_method_27_code
def yX4_servesOne : MethodName := ⟨RX4, "servesOne", "()Z"⟩
abbrev cX4_serves : ByteArray := prog_6_method_28_code
def yX4_serves : MethodName := ⟨RX4, "serves", "()V"⟩
abbrev cX4_addTeam : ByteArray := prog_6_method_29_code
def yX4_addTeam : MethodName := ⟨RX4, "addTeam", "(II)I"⟩
abbrev cX4_setWeight : ByteArray := prog_6_method_30_code
def yX4_setWeight : MethodName := ⟨RX4, "setWeight", "(II)I"⟩
abbrev cX4_setLimit : ByteArray := prog_6_method_31_code
def yX4_setLimit : MethodName := ⟨RX4, "setLimit", "(II)I"⟩
abbrev cX4_setCapacity : ByteArray := prog_6_method_32_code
def yX4_setCapacity : MethodName := ⟨RX4, "setCapacity", "(I)I"⟩
abbrev cX4_setHalfTime : ByteArray := prog_6_method_33_code
def yX4_setHalfTime : MethodName := ⟨RX4, "setHalfTime", "(I)I"⟩
abbrev cX4_teams : ByteArray := prog_6_method_34_code
def yX4_teams : MethodName := ⟨RX4, "teams", "()I"⟩
abbrev cX4_parentOf : ByteArray := prog_6_method_35_code
def yX4_parentOf : MethodName := ⟨RX4, "parentOf", "(I)I"⟩
abbrev cX4_children : ByteArray := prog_6_method_36_code
def yX4_children : MethodName := ⟨RX4, "children", "(I)I"⟩
abbrev cX4_submit : ByteArray := prog_6_method_37_code
def yX4_submit : MethodName := ⟨RX4, "submit", "(III)I"⟩
abbrev cX4_isJob : ByteArray := prog_6_method_38_code
def yX4_isJob : MethodName := ⟨RX4, "isJob", "(I)Z"⟩
abbrev cX4_liveFault : ByteArray := prog_6_method_39_code
def yX4_liveFault : MethodName := ⟨RX4, "liveFault", "(I)I"⟩
abbrev cX4_leaves : ByteArray := prog_6_method_40_code
def yX4_leaves : MethodName := ⟨RX4, "leaves", "(II)V"⟩
abbrev cX4_cancel : ByteArray := prog_6_method_41_code
def yX4_cancel : MethodName := ⟨RX4, "cancel", "(I)I"⟩
abbrev cX4_passesOne : ByteArray := prog_6_method_42_code
def yX4_passesOne : MethodName := ⟨RX4, "passesOne", "()I"⟩
abbrev cX4_pass : ByteArray := prog_6_method_43_code
def yX4_pass : MethodName := ⟨RX4, "pass", "(I)I"⟩
abbrev cX4_tick : ByteArray := prog_6_method_44_code
def yX4_tick : MethodName := ⟨RX4, "tick", "()I"⟩
abbrev cX4_jobs : ByteArray := prog_6_method_45_code
def yX4_jobs : MethodName := ⟨RX4, "jobs", "()I"⟩
abbrev cX4_stateOf : ByteArray := prog_6_method_46_code
def yX4_stateOf : MethodName := ⟨RX4, "stateOf", "(I)C"⟩
abbrev cX4_toGo : ByteArray := prog_6_method_47_code
def yX4_toGo : MethodName := ⟨RX4, "toGo", "(I)I"⟩
abbrev cX4_stops : ByteArray := prog_6_method_48_code
def yX4_stops : MethodName := ⟨RX4, "stops", "(I)I"⟩
abbrev cX4_firstOf : ByteArray := prog_6_method_49_code
def yX4_firstOf : MethodName := ⟨RX4, "firstOf", "(I)I"⟩
abbrev cX4_inLine : ByteArray := prog_6_method_50_code
def yX4_inLine : MethodName := ⟨RX4, "inLine", "(I)I"⟩
abbrev cX4_spanOf : ByteArray := prog_6_method_51_code
def yX4_spanOf : MethodName := ⟨RX4, "spanOf", "(III)I"⟩
abbrev cX4_reserveFault : ByteArray := prog_6_method_52_code
def yX4_reserveFault : MethodName := ⟨RX4, "reserveFault", "(IIII)I"⟩
abbrev cX4_reserve : ByteArray := prog_6_method_53_code
def yX4_reserve : MethodName := ⟨RX4, "reserve", "(IIII)I"⟩
abbrev cX4_drop : ByteArray := prog_6_method_54_code
def yX4_drop : MethodName := ⟨RX4, "drop", "(III)I"⟩
abbrev cX4_reserved : ByteArray := prog_6_method_55_code
def yX4_reserved : MethodName := ⟨RX4, "reserved", "(I)I"⟩
abbrev cX4_running : ByteArray := prog_6_method_56_code
def yX4_running : MethodName := ⟨RX4, "running", "(I)I"⟩
abbrev cX4_demand : ByteArray := prog_6_method_57_code
def yX4_demand : MethodName := ⟨RX4, "demand", "(I)I"⟩
abbrev cX4_share : ByteArray := prog_6_method_58_code
def yX4_share : MethodName := ⟨RX4, "share", "(I)I"⟩
abbrev cX4_shareByLevels : ByteArray := prog_6_method_59_code
def yX4_shareByLevels : MethodName := ⟨RX4, "shareByLevels", "(I)I"⟩
abbrev cX4_due : ByteArray := prog_6_method_60_code
def yX4_due : MethodName := ⟨RX4, "due", "(I)I"⟩
abbrev cX4_freeFor : ByteArray := prog_6_method_61_code
def yX4_freeFor : MethodName := ⟨RX4, "freeFor", "(I)I"⟩
abbrev cX4_use : ByteArray := prog_6_method_62_code
def yX4_use : MethodName := ⟨RX4, "use", "(I)J"⟩
abbrev cX4_usedShare : ByteArray := prog_6_method_63_code
def yX4_usedShare : MethodName := ⟨RX4, "usedShare", "()F"⟩
abbrev cX4_meanStops : ByteArray := prog_6_method_64_code
def yX4_meanStops : MethodName := ⟨RX4, "meanStops", "()D"⟩
abbrev cX4_sharesBelow : ByteArray := prog_6_method_65_code
def yX4_sharesBelow : MethodName := ⟨RX4, "sharesBelow", "(I)I"⟩
abbrev cX4_isFair : ByteArray := prog_6_method_66_code
def yX4_isFair : MethodName := ⟨RX4, "isFair", "()Z"⟩
def RJx145de : String := "java/io/Serializable"
def TJx145de : u_T := fun k => match k with
  | _ => ("", "", "", false)
def RJ5 : String := "java/lang/AbstractStringBuilder"
def TJ5 : u_T := fun k => match k with
  | _ => ("", "", "", false)
abbrev cJ5_init_d00df : ByteArray := prog_8_method_2_code
def yJ5_init_d00df : MethodName := ⟨RJ5, "<init>", "(I)V"⟩
abbrev cJ5_length_8abf5 : ByteArray := prog_8_method_6_code
def yJ5_length_8abf5 : MethodName := ⟨RJ5, "length", "()I"⟩
abbrev cJ5_ensureCapacityInternal_d00df : ByteArray := prog_8_method_9_code
def yJ5_ensureCapacityInternal_d00df : MethodName := ⟨RJ5, "ensureCapacityInternal", "(I)V"⟩
abbrev cJ5_newCapacity_0f7a4 : ByteArray := prog_8_method_10_code
def yJ5_newCapacity_0f7a4 : MethodName := ⟨RJ5, "newCapacity", "(I)I"⟩
abbrev cJ5_inflate_da8c8 : ByteArray := prog_8_method_11_code
def yJ5_inflate_da8c8 : MethodName := ⟨RJ5, "inflate", "()V"⟩
abbrev cJ5_append_cf1ce : ByteArray := prog_8_method_22_code
def yJ5_append_cf1ce : MethodName := ⟨RJ5, "append", "(Ljava/lang/String;)Ljava/lang/AbstractStringBuilder;"⟩
abbrev cJ5_appendNull_278bc : ByteArray := prog_8_method_26_code
def yJ5_appendNull_278bc : MethodName := ⟨RJ5, "appendNull", "()Ljava/lang/AbstractStringBuilder;"⟩
abbrev cJ5_append_c97b9 : ByteArray := prog_8_method_32_code
def yJ5_append_c97b9 : MethodName := ⟨RJ5, "append", "(I)Ljava/lang/AbstractStringBuilder;"⟩
abbrev cJ5_getValue_6d5f1 : ByteArray := prog_8_method_64_code
def yJ5_getValue_6d5f1 : MethodName := ⟨RJ5, "getValue", "()[B"⟩
abbrev cJ5_isLatin1_aae02 : ByteArray := prog_8_method_68_code
def yJ5_isLatin1_aae02 : MethodName := ⟨RJ5, "isLatin1", "()Z"⟩
abbrev cJ5_inflateIfNeededFor_a7421 : ByteArray := prog_8_method_71_code
def yJ5_inflateIfNeededFor_a7421 : MethodName := ⟨RJ5, "inflateIfNeededFor", "(Ljava/lang/String;)V"⟩
abbrev cJ5_putStringAt_47b60 : ByteArray := prog_8_method_73_code
def yJ5_putStringAt_47b60 : MethodName := ⟨RJ5, "putStringAt", "(ILjava/lang/String;)V"⟩
def RJx2cfe8 : String := "java/lang/Appendable"
def TJx2cfe8 : u_T := fun k => match k with
  | _ => ("", "", "", false)
def RJx00060 : String := "java/lang/ArrayIndexOutOfBoundsException"
def TJx00060 : u_T := fun k => match k with
  | 0 => ("java/lang/Throwable", "backtrace", "Ljava/lang/Object;", false)
  | 1 => ("java/lang/Throwable", "detailMessage", "Ljava/lang/String;", false)
  | 2 => ("java/lang/Throwable", "cause", "Ljava/lang/Throwable;", false)
  | 3 => ("java/lang/Throwable", "stackTrace", "[Ljava/lang/StackTraceElement;", false)
  | 4 => ("java/lang/Throwable", "depth", "I", false)
  | _ => ("java/lang/Throwable", "suppressedExceptions", "Ljava/util/List;", false)
abbrev cJx00060_init_a7421 : ByteArray := prog_11_method_2_code
def yJx00060_init_a7421 : MethodName := ⟨RJx00060, "<init>", "(Ljava/lang/String;)V"⟩
def RJx9f9b0 : String := "java/lang/CharSequence"
def TJx9f9b0 : u_T := fun k => match k with
  | _ => ("", "", "", false)
def RJx8e188 : String := "java/lang/Cloneable"
def TJx8e188 : u_T := fun k => match k with
  | _ => ("", "", "", false)
def RJxb160c : String := "java/lang/Comparable"
def TJxb160c : u_T := fun k => match k with
  | _ => ("", "", "", false)
def RJ6 : String := "java/lang/Integer"
def TJ6 : u_T := fun k => match k with
  | _ => ("", "", "", false)
abbrev cJ6_getChars_ba4f3 : ByteArray := prog_19_method_12_code
def yJ6_getChars_ba4f3 : MethodName := ⟨RJ6, "getChars", "(II[B)I"⟩
abbrev cJ6_stringSize_0f7a4 : ByteArray := prog_19_method_13_code
def yJ6_stringSize_0f7a4 : MethodName := ⟨RJ6, "stringSize", "(I)I"⟩
def RJxab1ab : String := "java/lang/Iterable"
def TJxab1ab : u_T := fun k => match k with
  | _ => ("", "", "", false)
def RJ9 : String := "java/lang/Math"
def TJ9 : u_T := fun k => match k with
  | _ => ("", "", "", false)
abbrev cJ9_max_7cf53 : ByteArray := prog_21_method_65_code
def yJ9_max_7cf53 : MethodName := ⟨RJ9, "max", "(II)I"⟩
abbrev cJ9_min_7cf53 : ByteArray := prog_21_method_69_code
def yJ9_min_7cf53 : MethodName := ⟨RJ9, "min", "(II)I"⟩
def RJxd2413 : String := "java/lang/Number"
def TJxd2413 : u_T := fun k => match k with
  | _ => ("", "", "", false)
def RJ0 : String := "java/lang/String"
def TJ0 : u_T := fun k => match k with
  | 0 => ("java/lang/String", "value", "[B", true)
  | 1 => ("java/lang/String", "coder", "B", true)
  | 2 => ("java/lang/String", "hash", "I", false)
  | _ => ("java/lang/String", "hashIsZero", "Z", false)
abbrev cJ0_init_81219 : ByteArray := prog_24_method_53_code
def yJ0_init_81219 : MethodName := ⟨RJ0, "<init>", "(Ljava/lang/StringBuilder;)V"⟩
abbrev cJ0_length_8abf5 : ByteArray := prog_24_method_54_code
def yJ0_length_8abf5 : MethodName := ⟨RJ0, "length", "()I"⟩
abbrev cJ0_getBytes_840e7 : ByteArray := prog_24_method_147_code
def yJ0_getBytes_840e7 : MethodName := ⟨RJ0, "getBytes", "([BIB)V"⟩
abbrev cJ0_init_db425 : ByteArray := prog_24_method_150_code
def yJ0_init_db425 : MethodName := ⟨RJ0, "<init>", "(Ljava/lang/AbstractStringBuilder;Ljava/lang/Void;)V"⟩
abbrev cJ0_coder_7d493 : ByteArray := prog_24_method_152_code
def yJ0_coder_7d493 : MethodName := ⟨RJ0, "coder", "()B"⟩
abbrev cJ0_checkBoundsOffCount_cabcc : ByteArray := prog_24_method_157_code
def yJ0_checkBoundsOffCount_cabcc : MethodName := ⟨RJ0, "checkBoundsOffCount", "(III)I"⟩
abbrev cJ0_checkBoundsBeginEnd_23922 : ByteArray := prog_24_method_158_code
def yJ0_checkBoundsBeginEnd_23922 : MethodName := ⟨RJ0, "checkBoundsBeginEnd", "(III)V"⟩
def RJ4 : String := "java/lang/StringBuilder"
def TJ4 : u_T := fun k => match k with
  | 0 => ("java/lang/AbstractStringBuilder", "value", "[B", false)
  | 1 => ("java/lang/AbstractStringBuilder", "coder", "B", false)
  | 2 => ("java/lang/AbstractStringBuilder", "maybeLatin1", "Z", false)
  | _ => ("java/lang/AbstractStringBuilder", "count", "I", false)
abbrev cJ4_init_da8c8 : ByteArray := prog_25_method_1_code
def yJ4_init_da8c8 : MethodName := ⟨RJ4, "<init>", "()V"⟩
abbrev cJ4_append_15ec4 : ByteArray := prog_25_method_7_code
def yJ4_append_15ec4 : MethodName := ⟨RJ4, "append", "(Ljava/lang/String;)Ljava/lang/StringBuilder;"⟩
abbrev cJ4_append_bf812 : ByteArray := prog_25_method_15_code
def yJ4_append_bf812 : MethodName := ⟨RJ4, "append", "(I)Ljava/lang/StringBuilder;"⟩
abbrev cJ4_toString_0e30d : ByteArray := prog_25_method_42_code
def yJ4_toString_0e30d : MethodName := ⟨RJ4, "toString", "()Ljava/lang/String;"⟩
abbrev cJ4_length_8abf5 : ByteArray := prog_25_method_93_code
def yJ4_length_8abf5 : MethodName := ⟨RJ4, "length", "()I"⟩
def RJ1 : String := "java/lang/StringLatin1"
def TJ1 : u_T := fun k => match k with
  | _ => ("", "", "", false)
abbrev cJ1_inflate_0e8fd : ByteArray := prog_26_method_50_code
def yJ1_inflate_0e8fd : MethodName := ⟨RJ1, "inflate", "([BI[BII)V"⟩
def RJ2 : String := "java/lang/StringUTF16"
def TJ2 : u_T := fun k => match k with
  | _ => ("", "", "", false)
abbrev cJ2_newBytesFor_77867 : ByteArray := prog_27_method_2_code
def yJ2_newBytesFor_77867 : MethodName := ⟨RJ2, "newBytesFor", "(I)[B"⟩
abbrev cJ2_newBytesLength_0f7a4 : ByteArray := prog_27_method_3_code
def yJ2_newBytesLength_0f7a4 : MethodName := ⟨RJ2, "newBytesLength", "(I)I"⟩
abbrev cJ2_putChar_b72d1 : ByteArray := prog_27_method_4_code
def yJ2_putChar_b72d1 : MethodName := ⟨RJ2, "putChar", "([BII)V"⟩
abbrev cJ2_getChar_3b067 : ByteArray := prog_27_method_5_code
def yJ2_getChar_3b067 : MethodName := ⟨RJ2, "getChar", "([BI)C"⟩
abbrev cJ2_length_9d52b : ByteArray := prog_27_method_6_code
def yJ2_length_9d52b : MethodName := ⟨RJ2, "length", "([B)I"⟩
abbrev cJ2_coderFromArrayLen_85cad : ByteArray := prog_27_method_15_code
def yJ2_coderFromArrayLen_85cad : MethodName := ⟨RJ2, "coderFromArrayLen", "([BI)B"⟩
abbrev cJ2_compress_39247 : ByteArray := prog_27_method_17_code
def yJ2_compress_39247 : MethodName := ⟨RJ2, "compress", "([BII)[B"⟩
abbrev cJ2_compress_5af95 : ByteArray := prog_27_method_22_code
def yJ2_compress_5af95 : MethodName := ⟨RJ2, "compress", "([BI[BII)I"⟩
abbrev cJ2_getChars_46870 : ByteArray := prog_27_method_77_code
def yJ2_getChars_46870 : MethodName := ⟨RJ2, "getChars", "(III[B)I"⟩
abbrev cJ2_putCharsAt_cd4e5 : ByteArray := prog_27_method_81_code
def yJ2_putCharsAt_cd4e5 : MethodName := ⟨RJ2, "putCharsAt", "([BICCCC)I"⟩
abbrev cJ2_inflate_0e8fd : ByteArray := prog_27_method_86_code
def yJ2_inflate_0e8fd : MethodName := ⟨RJ2, "inflate", "([BI[BII)V"⟩
abbrev cJ2_getChars_ba4f3 : ByteArray := prog_27_method_89_code
def yJ2_getChars_ba4f3 : MethodName := ⟨RJ2, "getChars", "(II[B)I"⟩
abbrev cJ2_checkBoundsBeginEnd_d044e : ByteArray := prog_27_method_93_code
def yJ2_checkBoundsBeginEnd_d044e : MethodName := ⟨RJ2, "checkBoundsBeginEnd", "(II[B)V"⟩
abbrev cJ2_checkBoundsOffCount_d044e : ByteArray := prog_27_method_94_code
def yJ2_checkBoundsOffCount_d044e : MethodName := ⟨RJ2, "checkBoundsOffCount", "(II[B)V"⟩
def RJ10 : String := "java/lang/System"
def TJ10 : u_T := fun k => match k with
  | _ => ("", "", "", false)
def RJxfd54e : String := "java/lang/constant/Constable"
def TJxfd54e : u_T := fun k => match k with
  | _ => ("", "", "", false)
def RJx3cf43 : String := "java/lang/constant/ConstantDesc"
def TJx3cf43 : u_T := fun k => match k with
  | _ => ("", "", "", false)
def RJxa1e45 : String := "java/util/AbstractCollection"
def TJxa1e45 : u_T := fun k => match k with
  | _ => ("", "", "", false)
abbrev cJxa1e45_init_da8c8 : ByteArray := prog_33_method_1_code
def yJxa1e45_init_da8c8 : MethodName := ⟨RJxa1e45, "<init>", "()V"⟩
def RJxc12de : String := "java/util/AbstractList"
def TJxc12de : u_T := fun k => match k with
  | _ => ("", "", "", false)
abbrev cJxc12de_init_da8c8 : ByteArray := prog_34_method_1_code
def yJxc12de_init_da8c8 : MethodName := ⟨RJxc12de, "<init>", "()V"⟩
def RJx4a65c : String := "java/util/ArrayList"
def TJx4a65c : u_T := fun k => match k with
  | 0 => ("java/util/AbstractList", "modCount", "I", false)
  | 1 => ("java/util/ArrayList", "elementData", "[Ljava/lang/Object;", false)
  | _ => ("java/util/ArrayList", "size", "I", false)
def tyJx4a65c : Nat → FieldType := fun k => match k with
  | 0 => .int
  | 1 => .array (.object "java/lang/Object")
  | _ => .int
theorem nmJx4a65c : ∀ a, a < 3 → ∀ b, b < 3 → a ≠ b → (TJx4a65c a).2.1 ≠ (TJx4a65c b).2.1 := by decide +kernel
theorem tyJx4a65c_ok : ∀ k, k < 3 → parseFieldDescriptor (TJx4a65c k).2.2.1 = some (tyJx4a65c k) := by decide +kernel
abbrev cJx4a65c_init_da8c8 : ByteArray := prog_35_method_2_code
def yJx4a65c_init_da8c8 : MethodName := ⟨RJx4a65c, "<init>", "()V"⟩
abbrev cJx4a65c_grow_92f84 : ByteArray := prog_35_method_6_code
def yJx4a65c_grow_92f84 : MethodName := ⟨RJx4a65c, "grow", "(I)[Ljava/lang/Object;"⟩
abbrev cJx4a65c_grow_d5877 : ByteArray := prog_35_method_7_code
def yJx4a65c_grow_d5877 : MethodName := ⟨RJx4a65c, "grow", "()[Ljava/lang/Object;"⟩
abbrev cJx4a65c_size_8abf5 : ByteArray := prog_35_method_8_code
def yJx4a65c_size_8abf5 : MethodName := ⟨RJx4a65c, "size", "()I"⟩
abbrev cJx4a65c_isEmpty_aae02 : ByteArray := prog_35_method_9_code
def yJx4a65c_isEmpty_aae02 : MethodName := ⟨RJx4a65c, "isEmpty", "()Z"⟩
abbrev cJx4a65c_elementData_915e3 : ByteArray := prog_35_method_18_code
def yJx4a65c_elementData_915e3 : MethodName := ⟨RJx4a65c, "elementData", "(I)Ljava/lang/Object;"⟩
abbrev cJx4a65c_get_915e3 : ByteArray := prog_35_method_20_code
def yJx4a65c_get_915e3 : MethodName := ⟨RJx4a65c, "get", "(I)Ljava/lang/Object;"⟩
abbrev cJx4a65c_add_72be8 : ByteArray := prog_35_method_24_code
def yJx4a65c_add_72be8 : MethodName := ⟨RJx4a65c, "add", "(Ljava/lang/Object;[Ljava/lang/Object;I)V"⟩
abbrev cJx4a65c_add_9ea2d : ByteArray := prog_35_method_25_code
def yJx4a65c_add_9ea2d : MethodName := ⟨RJx4a65c, "add", "(Ljava/lang/Object;)Z"⟩
abbrev cJx4a65c_add_7a177 : ByteArray := prog_35_method_26_code
def yJx4a65c_add_7a177 : MethodName := ⟨RJx4a65c, "add", "(ILjava/lang/Object;)V"⟩
abbrev cJx4a65c_remove_915e3 : ByteArray := prog_35_method_29_code
def yJx4a65c_remove_915e3 : MethodName := ⟨RJx4a65c, "remove", "(I)Ljava/lang/Object;"⟩
abbrev cJx4a65c_fastRemove_b59b0 : ByteArray := prog_35_method_39_code
def yJx4a65c_fastRemove_b59b0 : MethodName := ⟨RJx4a65c, "fastRemove", "([Ljava/lang/Object;I)V"⟩
abbrev cJx4a65c_clear_da8c8 : ByteArray := prog_35_method_40_code
def yJx4a65c_clear_da8c8 : MethodName := ⟨RJx4a65c, "clear", "()V"⟩
abbrev cJx4a65c_rangeCheckForAdd_d00df : ByteArray := prog_35_method_45_code
def yJx4a65c_rangeCheckForAdd_d00df : MethodName := ⟨RJx4a65c, "rangeCheckForAdd", "(I)V"⟩
abbrev cJx4a65c_outOfBoundsMsg_b52d3 : ByteArray := prog_35_method_46_code
def yJx4a65c_outOfBoundsMsg_b52d3 : MethodName := ⟨RJx4a65c, "outOfBoundsMsg", "(I)Ljava/lang/String;"⟩
def RJ7 : String := "java/util/Arrays"
def TJ7 : u_T := fun k => match k with
  | _ => ("", "", "", false)
abbrev cJ7_copyOf_1904c : ByteArray := prog_36_method_119_code
def yJ7_copyOf_1904c : MethodName := ⟨RJ7, "copyOf", "([Ljava/lang/Object;I)[Ljava/lang/Object;"⟩
abbrev cJ7_copyOf_6403c : ByteArray := prog_36_method_120_code
def yJ7_copyOf_6403c : MethodName := ⟨RJ7, "copyOf", "([Ljava/lang/Object;ILjava/lang/Class;)[Ljava/lang/Object;"⟩
abbrev cJ7_copyOf_9075b : ByteArray := prog_36_method_121_code
def yJ7_copyOf_9075b : MethodName := ⟨RJ7, "copyOf", "([BI)[B"⟩
abbrev cJ7_checkLength_df160 : ByteArray := prog_36_method_131_code
def yJ7_checkLength_df160 : MethodName := ⟨RJ7, "checkLength", "(II)V"⟩
abbrev cJ7_copyOfRange_39247 : ByteArray := prog_36_method_132_code
def yJ7_copyOfRange_39247 : MethodName := ⟨RJ7, "copyOfRange", "([BII)[B"⟩
abbrev cJ7_copyOfRangeByte_39247 : ByteArray := prog_36_method_133_code
def yJ7_copyOfRangeByte_39247 : MethodName := ⟨RJ7, "copyOfRangeByte", "([BII)[B"⟩
def RJx5ef63 : String := "java/util/Collection"
def TJx5ef63 : u_T := fun k => match k with
  | _ => ("", "", "", false)
def RJxbd725 : String := "java/util/List"
def TJxbd725 : u_T := fun k => match k with
  | _ => ("", "", "", false)
def RJ15 : String := "java/util/Objects"
def TJ15 : u_T := fun k => match k with
  | _ => ("", "", "", false)
abbrev cJ15_checkIndex_7cf53 : ByteArray := prog_40_method_17_code
def yJ15_checkIndex_7cf53 : MethodName := ⟨RJ15, "checkIndex", "(II)I"⟩
def RJxf0a74 : String := "java/util/RandomAccess"
def TJxf0a74 : u_T := fun k => match k with
  | _ => ("", "", "", false)
def RJxa66e6 : String := "java/util/SequencedCollection"
def TJxa66e6 : u_T := fun k => match k with
  | _ => ("", "", "", false)
def RJ8 : String := "jdk/internal/util/ArraysSupport"
def TJ8 : u_T := fun k => match k with
  | _ => ("", "", "", false)
abbrev cJ8_newLength_cabcc : ByteArray := prog_43_method_27_code
def yJ8_newLength_cabcc : MethodName := ⟨RJ8, "newLength", "(III)I"⟩
abbrev cJ8_hugeLength_7cf53 : ByteArray := prog_43_method_28_code
def yJ8_hugeLength_7cf53 : MethodName := ⟨RJ8, "hugeLength", "(II)I"⟩
def RJ3 : String := "jdk/internal/util/Preconditions"
def TJ3 : u_T := fun k => match k with
  | _ => ("", "", "", false)
abbrev cJ3_checkIndex_8e157 : ByteArray := prog_44_method_11_code
def yJ3_checkIndex_8e157 : MethodName := ⟨RJ3, "checkIndex", "(IILjava/util/function/BiFunction;)I"⟩
abbrev cJ3_checkFromToIndex_8c36e : ByteArray := prog_44_method_12_code
def yJ3_checkFromToIndex_8c36e : MethodName := ⟨RJ3, "checkFromToIndex", "(IIILjava/util/function/BiFunction;)I"⟩
abbrev cJ3_checkFromIndexSize_8c36e : ByteArray := prog_44_method_13_code
def yJ3_checkFromIndexSize_8c36e : MethodName := ⟨RJ3, "checkFromIndexSize", "(IIILjava/util/function/BiFunction;)I"⟩
def RL : String := "FairquotaBrokerLaw"
abbrev cL_addTeam : ByteArray := method_3_code
def yL_addTeam : MethodName := ⟨RL, "addTeam", "(LFairquotaBroker;II[J)I"⟩
abbrev cL_setWeight : ByteArray := method_4_code
def yL_setWeight : MethodName := ⟨RL, "setWeight", "(LFairquotaBroker;II[J)I"⟩
abbrev cL_setLimit : ByteArray := method_5_code
def yL_setLimit : MethodName := ⟨RL, "setLimit", "(LFairquotaBroker;II[J)I"⟩
abbrev cL_setCapacity : ByteArray := method_6_code
def yL_setCapacity : MethodName := ⟨RL, "setCapacity", "(LFairquotaBroker;I[J)I"⟩
abbrev cL_setHalfTime : ByteArray := method_7_code
def yL_setHalfTime : MethodName := ⟨RL, "setHalfTime", "(LFairquotaBroker;I[J)I"⟩
abbrev cL_parentOf : ByteArray := method_8_code
def yL_parentOf : MethodName := ⟨RL, "parentOf", "(LFairquotaBroker;I[J)I"⟩
abbrev cL_children : ByteArray := method_9_code
def yL_children : MethodName := ⟨RL, "children", "(LFairquotaBroker;I[J)I"⟩
abbrev cL_submit : ByteArray := method_10_code
def yL_submit : MethodName := ⟨RL, "submit", "(LFairquotaBroker;III[J)I"⟩
abbrev cL_cancel : ByteArray := method_11_code
def yL_cancel : MethodName := ⟨RL, "cancel", "(LFairquotaBroker;I[J)I"⟩
abbrev cL_pass : ByteArray := method_12_code
def yL_pass : MethodName := ⟨RL, "pass", "(LFairquotaBroker;I[J)I"⟩
abbrev cL_stateOf : ByteArray := method_13_code
def yL_stateOf : MethodName := ⟨RL, "stateOf", "(LFairquotaBroker;I[J)I"⟩
abbrev cL_toGo : ByteArray := method_14_code
def yL_toGo : MethodName := ⟨RL, "toGo", "(LFairquotaBroker;I[J)I"⟩
abbrev cL_stops : ByteArray := method_15_code
def yL_stops : MethodName := ⟨RL, "stops", "(LFairquotaBroker;I[J)I"⟩
abbrev cL_firstOf : ByteArray := method_16_code
def yL_firstOf : MethodName := ⟨RL, "firstOf", "(LFairquotaBroker;I[J)I"⟩
abbrev cL_inLine : ByteArray := method_17_code
def yL_inLine : MethodName := ⟨RL, "inLine", "(LFairquotaBroker;I[J)I"⟩
abbrev cL_reserve : ByteArray := method_18_code
def yL_reserve : MethodName := ⟨RL, "reserve", "(LFairquotaBroker;IIII[J)I"⟩
abbrev cL_drop : ByteArray := method_19_code
def yL_drop : MethodName := ⟨RL, "drop", "(LFairquotaBroker;III[J)I"⟩
abbrev cL_reserved : ByteArray := method_20_code
def yL_reserved : MethodName := ⟨RL, "reserved", "(LFairquotaBroker;I[J)I"⟩
abbrev cL_running : ByteArray := method_21_code
def yL_running : MethodName := ⟨RL, "running", "(LFairquotaBroker;I[J)I"⟩
abbrev cL_demand : ByteArray := method_22_code
def yL_demand : MethodName := ⟨RL, "demand", "(LFairquotaBroker;I[J)I"⟩
abbrev cL_share : ByteArray := method_23_code
def yL_share : MethodName := ⟨RL, "share", "(LFairquotaBroker;I[J)I"⟩
abbrev cL_shareByLevels : ByteArray := method_24_code
def yL_shareByLevels : MethodName := ⟨RL, "shareByLevels", "(LFairquotaBroker;I[J)I"⟩
abbrev cL_due : ByteArray := method_25_code
def yL_due : MethodName := ⟨RL, "due", "(LFairquotaBroker;I[J)I"⟩
abbrev cL_freeFor : ByteArray := method_26_code
def yL_freeFor : MethodName := ⟨RL, "freeFor", "(LFairquotaBroker;I[J)I"⟩
abbrev cL_use : ByteArray := method_27_code
def yL_use : MethodName := ⟨RL, "use", "(LFairquotaBroker;I[J)I"⟩
abbrev cL_usedShare : ByteArray := method_28_code
def yL_usedShare : MethodName := ⟨RL, "usedShare", "(LFairquotaBroker;[D)I"⟩
abbrev cL_meanStops : ByteArray := method_29_code
def yL_meanStops : MethodName := ⟨RL, "meanStops", "(LFairquotaBroker;[D)I"⟩
abbrev cL_law : ByteArray := code
def yL_law : MethodName := ⟨RL, "law", "([I)Z"⟩
abbrev vwCl : List vw_C := [(RJ0, TJ0, 4), (RJ4, TJ4, 4), (RJx00060, TJx00060, 6), (RJx4a65c, TJx4a65c, 3), (RX0, TX0, 8), (RX1, TX1, 4), (RX2, TX2, 14), (RX3, TX3, 11), (RX4, TX4, 33)]
end
section
theorem dX0_init_0 : decode cX0_init 0 = .ok (.aload_n 0, 1) := by decide +kernel
theorem dX0_init_1 : decode cX0_init 1 = .ok (.invokespecial 3, 3) := by decide +kernel
theorem dX0_init_4 : decode cX0_init 4 = .ok (.aload_n 0, 1) := by decide +kernel
theorem dX0_init_5 : decode cX0_init 5 = .ok (.bipush 119, 2) := by decide +kernel
theorem dX0_init_7 : decode cX0_init 7 = .ok (.putfield 9, 3) := by decide +kernel
theorem dX0_init_10 : decode cX0_init 10 = .ok (.aload_n 0, 1) := by decide +kernel
theorem dX0_init_11 : decode cX0_init 11 = .ok (.iconst 0, 1) := by decide +kernel
theorem dX0_init_12 : decode cX0_init 12 = .ok (.putfield 15, 3) := by decide +kernel
theorem dX0_init_15 : decode cX0_init 15 = .ok (.aload_n 0, 1) := by decide +kernel
theorem dX0_init_16 : decode cX0_init 16 = .ok (.iconst 0, 1) := by decide +kernel
theorem dX0_init_17 : decode cX0_init 17 = .ok (.putfield 19, 3) := by decide +kernel
theorem dX0_init_20 : decode cX0_init 20 = .ok (.aload_n 0, 1) := by decide +kernel
theorem dX0_init_21 : decode cX0_init 21 = .ok (.iconst 0, 1) := by decide +kernel
theorem dX0_init_22 : decode cX0_init 22 = .ok (.putfield 22, 3) := by decide +kernel
theorem dX0_init_25 : decode cX0_init 25 = .ok (.aload_n 0, 1) := by decide +kernel
theorem dX0_init_26 : decode cX0_init 26 = .ok (.iload_n 1, 1) := by decide +kernel
theorem dX0_init_27 : decode cX0_init 27 = .ok (.putfield 25, 3) := by decide +kernel
theorem dX0_init_30 : decode cX0_init 30 = .ok (.aload_n 0, 1) := by decide +kernel
theorem dX0_init_31 : decode cX0_init 31 = .ok (.aload_n 2, 1) := by decide +kernel
theorem dX0_init_32 : decode cX0_init 32 = .ok (.putfield 28, 3) := by decide +kernel
theorem dX0_init_35 : decode cX0_init 35 = .ok (.aload_n 0, 1) := by decide +kernel
theorem dX0_init_36 : decode cX0_init 36 = .ok (.iload_n 3, 1) := by decide +kernel
theorem dX0_init_37 : decode cX0_init 37 = .ok (.putfield 32, 3) := by decide +kernel
theorem dX0_init_40 : decode cX0_init 40 = .ok (.aload_n 0, 1) := by decide +kernel
theorem dX0_init_41 : decode cX0_init 41 = .ok (.iload 4, 2) := by decide +kernel
theorem dX0_init_43 : decode cX0_init 43 = .ok (.putfield 35, 3) := by decide +kernel
theorem dX0_init_46 : decode cX0_init 46 = .ok (.return_, 1) := by decide +kernel
theorem dX0_isAlive_0 : decode cX0_isAlive 0 = .ok (.aload_n 0, 1) := by decide +kernel
theorem dX0_isAlive_1 : decode cX0_isAlive 1 = .ok (.getfield 9, 3) := by decide +kernel
theorem dX0_isAlive_4 : decode cX0_isAlive 4 = .ok (.bipush 119, 2) := by decide +kernel
theorem dX0_isAlive_6 : decode cX0_isAlive 6 = .ok (.if_icmp .eq 12, 3) := by decide +kernel
theorem dX0_isAlive_9 : decode cX0_isAlive 9 = .ok (.aload_n 0, 1) := by decide +kernel
theorem dX0_isAlive_10 : decode cX0_isAlive 10 = .ok (.getfield 9, 3) := by decide +kernel
theorem dX0_isAlive_13 : decode cX0_isAlive 13 = .ok (.bipush 114, 2) := by decide +kernel
theorem dX0_isAlive_15 : decode cX0_isAlive 15 = .ok (.if_icmp .ne 7, 3) := by decide +kernel
theorem dX0_isAlive_18 : decode cX0_isAlive 18 = .ok (.iconst 1, 1) := by decide +kernel
theorem dX0_isAlive_19 : decode cX0_isAlive 19 = .ok (.goto 4, 3) := by decide +kernel
theorem dX0_isAlive_22 : decode cX0_isAlive 22 = .ok (.iconst 0, 1) := by decide +kernel
theorem dX0_isAlive_23 : decode cX0_isAlive 23 = .ok (.ireturn, 1) := by decide +kernel
theorem dX0_takeUnits_0 : decode cX0_takeUnits 0 = .ok (.aload_n 0, 1) := by decide +kernel
theorem dX0_takeUnits_1 : decode cX0_takeUnits 1 = .ok (.bipush 114, 2) := by decide +kernel
theorem dX0_takeUnits_3 : decode cX0_takeUnits 3 = .ok (.putfield 9, 3) := by decide +kernel
theorem dX0_takeUnits_6 : decode cX0_takeUnits 6 = .ok (.aload_n 0, 1) := by decide +kernel
theorem dX0_takeUnits_7 : decode cX0_takeUnits 7 = .ok (.getfield 28, 3) := by decide +kernel
theorem dX0_takeUnits_10 : decode cX0_takeUnits 10 = .ok (.aload_n 0, 1) := by decide +kernel
theorem dX0_takeUnits_11 : decode cX0_takeUnits 11 = .ok (.getfield 32, 3) := by decide +kernel
theorem dX0_takeUnits_14 : decode cX0_takeUnits 14 = .ok (.invokevirtual 38, 3) := by decide +kernel
theorem dX0_takeUnits_17 : decode cX0_takeUnits 17 = .ok (.return_, 1) := by decide +kernel
theorem dX0_giveUnitsBack_0 : decode cX0_giveUnitsBack 0 = .ok (.aload_n 0, 1) := by decide +kernel
theorem dX0_giveUnitsBack_1 : decode cX0_giveUnitsBack 1 = .ok (.bipush 119, 2) := by decide +kernel
theorem dX0_giveUnitsBack_3 : decode cX0_giveUnitsBack 3 = .ok (.putfield 9, 3) := by decide +kernel
theorem dX0_giveUnitsBack_6 : decode cX0_giveUnitsBack 6 = .ok (.aload_n 0, 1) := by decide +kernel
theorem dX0_giveUnitsBack_7 : decode cX0_giveUnitsBack 7 = .ok (.getfield 28, 3) := by decide +kernel
theorem dX0_giveUnitsBack_10 : decode cX0_giveUnitsBack 10 = .ok (.aload_n 0, 1) := by decide +kernel
theorem dX0_giveUnitsBack_11 : decode cX0_giveUnitsBack 11 = .ok (.getfield 32, 3) := by decide +kernel
theorem dX0_giveUnitsBack_14 : decode cX0_giveUnitsBack 14 = .ok (.ineg, 1) := by decide +kernel
theorem dX0_giveUnitsBack_15 : decode cX0_giveUnitsBack 15 = .ok (.invokevirtual 38, 3) := by decide +kernel
theorem dX0_giveUnitsBack_18 : decode cX0_giveUnitsBack 18 = .ok (.return_, 1) := by decide +kernel
theorem dX1_init_0 : decode cX1_init 0 = .ok (.aload_n 0, 1) := by decide +kernel
theorem dX1_init_1 : decode cX1_init 1 = .ok (.invokespecial 1, 3) := by decide +kernel
theorem dX1_init_4 : decode cX1_init 4 = .ok (.aload_n 0, 1) := by decide +kernel
theorem dX1_init_5 : decode cX1_init 5 = .ok (.iconst 0, 1) := by decide +kernel
theorem dX1_init_6 : decode cX1_init 6 = .ok (.putfield 7, 3) := by decide +kernel
theorem dX1_init_9 : decode cX1_init 9 = .ok (.aload_n 0, 1) := by decide +kernel
theorem dX1_init_10 : decode cX1_init 10 = .ok (.aload_n 1, 1) := by decide +kernel
theorem dX1_init_11 : decode cX1_init 11 = .ok (.putfield 13, 3) := by decide +kernel
theorem dX1_init_14 : decode cX1_init 14 = .ok (.aload_n 0, 1) := by decide +kernel
theorem dX1_init_15 : decode cX1_init 15 = .ok (.iload_n 2, 1) := by decide +kernel
theorem dX1_init_16 : decode cX1_init 16 = .ok (.putfield 17, 3) := by decide +kernel
theorem dX1_init_19 : decode cX1_init 19 = .ok (.aload_n 0, 1) := by decide +kernel
theorem dX1_init_20 : decode cX1_init 20 = .ok (.iload_n 3, 1) := by decide +kernel
theorem dX1_init_21 : decode cX1_init 21 = .ok (.putfield 20, 3) := by decide +kernel
theorem dX1_init_24 : decode cX1_init 24 = .ok (.return_, 1) := by decide +kernel
theorem dX2_init_0 : decode cX2_init 0 = .ok (.aload_n 0, 1) := by decide +kernel
theorem dX2_init_1 : decode cX2_init 1 = .ok (.invokespecial 3, 3) := by decide +kernel
theorem dX2_init_4 : decode cX2_init 4 = .ok (.aload_n 0, 1) := by decide +kernel
theorem dX2_init_5 : decode cX2_init 5 = .ok (.new 9, 3) := by decide +kernel
theorem dX2_init_8 : decode cX2_init 8 = .ok (.dup, 1) := by decide +kernel
theorem dX2_init_9 : decode cX2_init 9 = .ok (.invokespecial 11, 3) := by decide +kernel
theorem dX2_init_12 : decode cX2_init 12 = .ok (.putfield 12, 3) := by decide +kernel
theorem dX2_init_15 : decode cX2_init 15 = .ok (.aload_n 0, 1) := by decide +kernel
theorem dX2_init_16 : decode cX2_init 16 = .ok (.sipush 500, 3) := by decide +kernel
theorem dX2_init_19 : decode cX2_init 19 = .ok (.putfield 18, 3) := by decide +kernel
theorem dX2_init_22 : decode cX2_init 22 = .ok (.aload_n 0, 1) := by decide +kernel
theorem dX2_init_23 : decode cX2_init 23 = .ok (.iconst 0, 1) := by decide +kernel
theorem dX2_init_24 : decode cX2_init 24 = .ok (.putfield 22, 3) := by decide +kernel
theorem dX2_init_27 : decode cX2_init 27 = .ok (.aload_n 0, 1) := by decide +kernel
theorem dX2_init_28 : decode cX2_init 28 = .ok (.iconst 0, 1) := by decide +kernel
theorem dX2_init_29 : decode cX2_init 29 = .ok (.putfield 26, 3) := by decide +kernel
theorem dX2_init_32 : decode cX2_init 32 = .ok (.aload_n 0, 1) := by decide +kernel
theorem dX2_init_33 : decode cX2_init 33 = .ok (.lconst 0, 1) := by decide +kernel
theorem dX2_init_34 : decode cX2_init 34 = .ok (.putfield 29, 3) := by decide +kernel
theorem dX2_init_37 : decode cX2_init 37 = .ok (.aload_n 0, 1) := by decide +kernel
theorem dX2_init_38 : decode cX2_init 38 = .ok (.iconst 0, 1) := by decide +kernel
theorem dX2_init_39 : decode cX2_init 39 = .ok (.putfield 33, 3) := by decide +kernel
theorem dX2_init_42 : decode cX2_init 42 = .ok (.aload_n 0, 1) := by decide +kernel
theorem dX2_init_43 : decode cX2_init 43 = .ok (.iconst 0, 1) := by decide +kernel
theorem dX2_init_44 : decode cX2_init 44 = .ok (.putfield 36, 3) := by decide +kernel
theorem dX2_init_47 : decode cX2_init 47 = .ok (.aload_n 0, 1) := by decide +kernel
theorem dX2_init_48 : decode cX2_init 48 = .ok (.iconst 0, 1) := by decide +kernel
theorem dX2_init_49 : decode cX2_init 49 = .ok (.putfield 39, 3) := by decide +kernel
theorem dX2_init_52 : decode cX2_init 52 = .ok (.aload_n 0, 1) := by decide +kernel
theorem dX2_init_53 : decode cX2_init 53 = .ok (.iconst 0, 1) := by decide +kernel
theorem dX2_init_54 : decode cX2_init 54 = .ok (.putfield 42, 3) := by decide +kernel
theorem dX2_init_57 : decode cX2_init 57 = .ok (.aload_n 0, 1) := by decide +kernel
theorem dX2_init_58 : decode cX2_init 58 = .ok (.iconst 0, 1) := by decide +kernel
theorem dX2_init_59 : decode cX2_init 59 = .ok (.putfield 45, 3) := by decide +kernel
theorem dX2_init_62 : decode cX2_init 62 = .ok (.aload_n 0, 1) := by decide +kernel
theorem dX2_init_63 : decode cX2_init 63 = .ok (.iconst 0, 1) := by decide +kernel
theorem dX2_init_64 : decode cX2_init 64 = .ok (.putfield 48, 3) := by decide +kernel
theorem dX2_init_67 : decode cX2_init 67 = .ok (.aload_n 0, 1) := by decide +kernel
theorem dX2_init_68 : decode cX2_init 68 = .ok (.iload_n 1, 1) := by decide +kernel
theorem dX2_init_69 : decode cX2_init 69 = .ok (.putfield 51, 3) := by decide +kernel
theorem dX2_init_72 : decode cX2_init 72 = .ok (.aload_n 0, 1) := by decide +kernel
theorem dX2_init_73 : decode cX2_init 73 = .ok (.aload_n 2, 1) := by decide +kernel
theorem dX2_init_74 : decode cX2_init 74 = .ok (.putfield 54, 3) := by decide +kernel
theorem dX2_init_77 : decode cX2_init 77 = .ok (.aload_n 0, 1) := by decide +kernel
theorem dX2_init_78 : decode cX2_init 78 = .ok (.iload_n 3, 1) := by decide +kernel
theorem dX2_init_79 : decode cX2_init 79 = .ok (.putfield 58, 3) := by decide +kernel
theorem dX2_init_82 : decode cX2_init 82 = .ok (.return_, 1) := by decide +kernel
theorem dX2_isLeaf_0 : decode cX2_isLeaf 0 = .ok (.aload_n 0, 1) := by decide +kernel
theorem dX2_isLeaf_1 : decode cX2_isLeaf 1 = .ok (.getfield 12, 3) := by decide +kernel
theorem dX2_isLeaf_4 : decode cX2_isLeaf 4 = .ok (.invokevirtual 61, 3) := by decide +kernel
theorem dX2_isLeaf_7 : decode cX2_isLeaf 7 = .ok (.ireturn, 1) := by decide +kernel
theorem dX2_limitsAllow_0 : decode cX2_limitsAllow 0 = .ok (.aload_n 0, 1) := by decide +kernel
theorem dX2_limitsAllow_1 : decode cX2_limitsAllow 1 = .ok (.astore_n 2, 1) := by decide +kernel
theorem dX2_limitsAllow_2 : decode cX2_limitsAllow 2 = .ok (.aload_n 2, 1) := by decide +kernel
theorem dX2_limitsAllow_3 : decode cX2_limitsAllow 3 = .ok (.getfield 54, 3) := by decide +kernel
theorem dX2_limitsAllow_6 : decode cX2_limitsAllow 6 = .ok (.ifnull 26, 3) := by decide +kernel
theorem dX2_limitsAllow_9 : decode cX2_limitsAllow 9 = .ok (.aload_n 2, 1) := by decide +kernel
theorem dX2_limitsAllow_10 : decode cX2_limitsAllow 10 = .ok (.getfield 26, 3) := by decide +kernel
theorem dX2_limitsAllow_13 : decode cX2_limitsAllow 13 = .ok (.iload_n 1, 1) := by decide +kernel
theorem dX2_limitsAllow_14 : decode cX2_limitsAllow 14 = .ok (.iadd, 1) := by decide +kernel
theorem dX2_limitsAllow_15 : decode cX2_limitsAllow 15 = .ok (.aload_n 2, 1) := by decide +kernel
theorem dX2_limitsAllow_16 : decode cX2_limitsAllow 16 = .ok (.getfield 18, 3) := by decide +kernel
theorem dX2_limitsAllow_19 : decode cX2_limitsAllow 19 = .ok (.if_icmp .le 5, 3) := by decide +kernel
theorem dX2_limitsAllow_22 : decode cX2_limitsAllow 22 = .ok (.iconst 0, 1) := by decide +kernel
theorem dX2_limitsAllow_23 : decode cX2_limitsAllow 23 = .ok (.ireturn, 1) := by decide +kernel
theorem dX2_limitsAllow_24 : decode cX2_limitsAllow 24 = .ok (.aload_n 2, 1) := by decide +kernel
theorem dX2_limitsAllow_25 : decode cX2_limitsAllow 25 = .ok (.getfield 54, 3) := by decide +kernel
theorem dX2_limitsAllow_28 : decode cX2_limitsAllow 28 = .ok (.astore_n 2, 1) := by decide +kernel
theorem dX2_limitsAllow_29 : decode cX2_limitsAllow 29 = .ok (.goto (-27), 3) := by decide +kernel
theorem dX2_limitsAllow_32 : decode cX2_limitsAllow 32 = .ok (.iconst 1, 1) := by decide +kernel
theorem dX2_limitsAllow_33 : decode cX2_limitsAllow 33 = .ok (.ireturn, 1) := by decide +kernel
theorem dX2_changeRuns_0 : decode cX2_changeRuns 0 = .ok (.aload_n 0, 1) := by decide +kernel
theorem dX2_changeRuns_1 : decode cX2_changeRuns 1 = .ok (.astore_n 2, 1) := by decide +kernel
theorem dX2_changeRuns_2 : decode cX2_changeRuns 2 = .ok (.aload_n 2, 1) := by decide +kernel
theorem dX2_changeRuns_3 : decode cX2_changeRuns 3 = .ok (.ifnull 21, 3) := by decide +kernel
theorem dX2_changeRuns_6 : decode cX2_changeRuns 6 = .ok (.aload_n 2, 1) := by decide +kernel
theorem dX2_changeRuns_7 : decode cX2_changeRuns 7 = .ok (.dup, 1) := by decide +kernel
theorem dX2_changeRuns_8 : decode cX2_changeRuns 8 = .ok (.getfield 26, 3) := by decide +kernel
theorem dX2_changeRuns_11 : decode cX2_changeRuns 11 = .ok (.iload_n 1, 1) := by decide +kernel
theorem dX2_changeRuns_12 : decode cX2_changeRuns 12 = .ok (.iadd, 1) := by decide +kernel
theorem dX2_changeRuns_13 : decode cX2_changeRuns 13 = .ok (.putfield 26, 3) := by decide +kernel
theorem dX2_changeRuns_16 : decode cX2_changeRuns 16 = .ok (.aload_n 2, 1) := by decide +kernel
theorem dX2_changeRuns_17 : decode cX2_changeRuns 17 = .ok (.getfield 54, 3) := by decide +kernel
theorem dX2_changeRuns_20 : decode cX2_changeRuns 20 = .ok (.astore_n 2, 1) := by decide +kernel
theorem dX2_changeRuns_21 : decode cX2_changeRuns 21 = .ok (.goto (-19), 3) := by decide +kernel
theorem dX2_changeRuns_24 : decode cX2_changeRuns 24 = .ok (.return_, 1) := by decide +kernel
theorem dX2_usedLessThan_0 : decode cX2_usedLessThan 0 = .ok (.aload_n 0, 1) := by decide +kernel
theorem dX2_usedLessThan_1 : decode cX2_usedLessThan 1 = .ok (.getfield 29, 3) := by decide +kernel
theorem dX2_usedLessThan_4 : decode cX2_usedLessThan 4 = .ok (.aload_n 1, 1) := by decide +kernel
theorem dX2_usedLessThan_5 : decode cX2_usedLessThan 5 = .ok (.getfield 58, 3) := by decide +kernel
theorem dX2_usedLessThan_8 : decode cX2_usedLessThan 8 = .ok (.i2l, 1) := by decide +kernel
theorem dX2_usedLessThan_9 : decode cX2_usedLessThan 9 = .ok (.lmul, 1) := by decide +kernel
theorem dX2_usedLessThan_10 : decode cX2_usedLessThan 10 = .ok (.aload_n 1, 1) := by decide +kernel
theorem dX2_usedLessThan_11 : decode cX2_usedLessThan 11 = .ok (.getfield 29, 3) := by decide +kernel
theorem dX2_usedLessThan_14 : decode cX2_usedLessThan 14 = .ok (.aload_n 0, 1) := by decide +kernel
theorem dX2_usedLessThan_15 : decode cX2_usedLessThan 15 = .ok (.getfield 58, 3) := by decide +kernel
theorem dX2_usedLessThan_18 : decode cX2_usedLessThan 18 = .ok (.i2l, 1) := by decide +kernel
theorem dX2_usedLessThan_19 : decode cX2_usedLessThan 19 = .ok (.lmul, 1) := by decide +kernel
theorem dX2_usedLessThan_20 : decode cX2_usedLessThan 20 = .ok (.lcmp, 1) := by decide +kernel
theorem dX2_usedLessThan_21 : decode cX2_usedLessThan 21 = .ok (.ifCond .ge 7, 3) := by decide +kernel
theorem dX2_usedLessThan_24 : decode cX2_usedLessThan 24 = .ok (.iconst 1, 1) := by decide +kernel
theorem dX2_usedLessThan_25 : decode cX2_usedLessThan 25 = .ok (.goto 4, 3) := by decide +kernel
theorem dX2_usedLessThan_28 : decode cX2_usedLessThan 28 = .ok (.iconst 0, 1) := by decide +kernel
theorem dX2_usedLessThan_29 : decode cX2_usedLessThan 29 = .ok (.ireturn, 1) := by decide +kernel
theorem dX2_settleDemand_0 : decode cX2_settleDemand 0 = .ok (.aload_n 0, 1) := by decide +kernel
theorem dX2_settleDemand_1 : decode cX2_settleDemand 1 = .ok (.getfield 54, 3) := by decide +kernel
theorem dX2_settleDemand_4 : decode cX2_settleDemand 4 = .ok (.ifnull 34, 3) := by decide +kernel
theorem dX2_settleDemand_7 : decode cX2_settleDemand 7 = .ok (.aload_n 0, 1) := by decide +kernel
theorem dX2_settleDemand_8 : decode cX2_settleDemand 8 = .ok (.aload_n 0, 1) := by decide +kernel
theorem dX2_settleDemand_9 : decode cX2_settleDemand 9 = .ok (.getfield 33, 3) := by decide +kernel
theorem dX2_settleDemand_12 : decode cX2_settleDemand 12 = .ok (.aload_n 0, 1) := by decide +kernel
theorem dX2_settleDemand_13 : decode cX2_settleDemand 13 = .ok (.getfield 18, 3) := by decide +kernel
theorem dX2_settleDemand_16 : decode cX2_settleDemand 16 = .ok (.invokestatic 65, 3) := by decide +kernel
theorem dX2_settleDemand_19 : decode cX2_settleDemand 19 = .ok (.putfield 33, 3) := by decide +kernel
theorem dX2_settleDemand_22 : decode cX2_settleDemand 22 = .ok (.aload_n 0, 1) := by decide +kernel
theorem dX2_settleDemand_23 : decode cX2_settleDemand 23 = .ok (.getfield 54, 3) := by decide +kernel
theorem dX2_settleDemand_26 : decode cX2_settleDemand 26 = .ok (.dup, 1) := by decide +kernel
theorem dX2_settleDemand_27 : decode cX2_settleDemand 27 = .ok (.getfield 33, 3) := by decide +kernel
theorem dX2_settleDemand_30 : decode cX2_settleDemand 30 = .ok (.aload_n 0, 1) := by decide +kernel
theorem dX2_settleDemand_31 : decode cX2_settleDemand 31 = .ok (.getfield 33, 3) := by decide +kernel
theorem dX2_settleDemand_34 : decode cX2_settleDemand 34 = .ok (.iadd, 1) := by decide +kernel
theorem dX2_settleDemand_35 : decode cX2_settleDemand 35 = .ok (.putfield 33, 3) := by decide +kernel
theorem dX2_settleDemand_38 : decode cX2_settleDemand 38 = .ok (.return_, 1) := by decide +kernel
theorem dX2_dealToChildren_0 : decode cX2_dealToChildren 0 = .ok (.iconst 0, 1) := by decide +kernel
theorem dX2_dealToChildren_1 : decode cX2_dealToChildren 1 = .ok (.istore_n 1, 1) := by decide +kernel
theorem dX2_dealToChildren_2 : decode cX2_dealToChildren 2 = .ok (.iload_n 1, 1) := by decide +kernel
theorem dX2_dealToChildren_3 : decode cX2_dealToChildren 3 = .ok (.aload_n 0, 1) := by decide +kernel
theorem dX2_dealToChildren_4 : decode cX2_dealToChildren 4 = .ok (.getfield 12, 3) := by decide +kernel
theorem dX2_dealToChildren_7 : decode cX2_dealToChildren 7 = .ok (.invokevirtual 71, 3) := by decide +kernel
theorem dX2_dealToChildren_10 : decode cX2_dealToChildren 10 = .ok (.if_icmp .ge 24, 3) := by decide +kernel
theorem dX2_dealToChildren_13 : decode cX2_dealToChildren 13 = .ok (.aload_n 0, 1) := by decide +kernel
theorem dX2_dealToChildren_14 : decode cX2_dealToChildren 14 = .ok (.getfield 12, 3) := by decide +kernel
theorem dX2_dealToChildren_17 : decode cX2_dealToChildren 17 = .ok (.iload_n 1, 1) := by decide +kernel
theorem dX2_dealToChildren_18 : decode cX2_dealToChildren 18 = .ok (.invokevirtual 75, 3) := by decide +kernel
theorem dX2_dealToChildren_21 : decode cX2_dealToChildren 21 = .ok (.checkcast 13, 3) := by decide +kernel
theorem dX2_dealToChildren_24 : decode cX2_dealToChildren 24 = .ok (.iconst 0, 1) := by decide +kernel
theorem dX2_dealToChildren_25 : decode cX2_dealToChildren 25 = .ok (.putfield 48, 3) := by decide +kernel
theorem dX2_dealToChildren_28 : decode cX2_dealToChildren 28 = .ok (.iinc 1 1, 3) := by decide +kernel
theorem dX2_dealToChildren_31 : decode cX2_dealToChildren 31 = .ok (.goto (-29), 3) := by decide +kernel
theorem dX2_dealToChildren_34 : decode cX2_dealToChildren 34 = .ok (.aload_n 0, 1) := by decide +kernel
theorem dX2_dealToChildren_35 : decode cX2_dealToChildren 35 = .ok (.aload_n 0, 1) := by decide +kernel
theorem dX2_dealToChildren_36 : decode cX2_dealToChildren 36 = .ok (.getfield 36, 3) := by decide +kernel
theorem dX2_dealToChildren_39 : decode cX2_dealToChildren 39 = .ok (.invokevirtual 79, 3) := by decide +kernel
theorem dX2_dealToChildren_42 : decode cX2_dealToChildren 42 = .ok (.iconst 0, 1) := by decide +kernel
theorem dX2_dealToChildren_43 : decode cX2_dealToChildren 43 = .ok (.istore_n 1, 1) := by decide +kernel
theorem dX2_dealToChildren_44 : decode cX2_dealToChildren 44 = .ok (.iload_n 1, 1) := by decide +kernel
theorem dX2_dealToChildren_45 : decode cX2_dealToChildren 45 = .ok (.aload_n 0, 1) := by decide +kernel
theorem dX2_dealToChildren_46 : decode cX2_dealToChildren 46 = .ok (.getfield 12, 3) := by decide +kernel
theorem dX2_dealToChildren_49 : decode cX2_dealToChildren 49 = .ok (.invokevirtual 71, 3) := by decide +kernel
theorem dX2_dealToChildren_52 : decode cX2_dealToChildren 52 = .ok (.if_icmp .ge 29, 3) := by decide +kernel
theorem dX2_dealToChildren_55 : decode cX2_dealToChildren 55 = .ok (.aload_n 0, 1) := by decide +kernel
theorem dX2_dealToChildren_56 : decode cX2_dealToChildren 56 = .ok (.getfield 12, 3) := by decide +kernel
theorem dX2_dealToChildren_59 : decode cX2_dealToChildren 59 = .ok (.iload_n 1, 1) := by decide +kernel
theorem dX2_dealToChildren_60 : decode cX2_dealToChildren 60 = .ok (.invokevirtual 75, 3) := by decide +kernel
theorem dX2_dealToChildren_63 : decode cX2_dealToChildren 63 = .ok (.checkcast 13, 3) := by decide +kernel
theorem dX2_dealToChildren_66 : decode cX2_dealToChildren 66 = .ok (.astore_n 2, 1) := by decide +kernel
theorem dX2_dealToChildren_67 : decode cX2_dealToChildren 67 = .ok (.aload_n 2, 1) := by decide +kernel
theorem dX2_dealToChildren_68 : decode cX2_dealToChildren 68 = .ok (.aload_n 2, 1) := by decide +kernel
theorem dX2_dealToChildren_69 : decode cX2_dealToChildren 69 = .ok (.getfield 48, 3) := by decide +kernel
theorem dX2_dealToChildren_72 : decode cX2_dealToChildren 72 = .ok (.putfield 36, 3) := by decide +kernel
theorem dX2_dealToChildren_75 : decode cX2_dealToChildren 75 = .ok (.iinc 1 1, 3) := by decide +kernel
theorem dX2_dealToChildren_78 : decode cX2_dealToChildren 78 = .ok (.goto (-34), 3) := by decide +kernel
theorem dX2_dealToChildren_81 : decode cX2_dealToChildren 81 = .ok (.return_, 1) := by decide +kernel
theorem dX2_fillChildren_0 : decode cX2_fillChildren 0 = .ok (.aload_n 0, 1) := by decide +kernel
theorem dX2_fillChildren_1 : decode cX2_fillChildren 1 = .ok (.aload_n 0, 1) := by decide +kernel
theorem dX2_fillChildren_2 : decode cX2_fillChildren 2 = .ok (.getfield 39, 3) := by decide +kernel
theorem dX2_fillChildren_5 : decode cX2_fillChildren 5 = .ok (.invokevirtual 83, 3) := by decide +kernel
theorem dX2_fillChildren_8 : decode cX2_fillChildren 8 = .ok (.istore_n 1, 1) := by decide +kernel
theorem dX2_fillChildren_9 : decode cX2_fillChildren 9 = .ok (.iconst 0, 1) := by decide +kernel
theorem dX2_fillChildren_10 : decode cX2_fillChildren 10 = .ok (.istore_n 2, 1) := by decide +kernel
theorem dX2_fillChildren_11 : decode cX2_fillChildren 11 = .ok (.iload_n 2, 1) := by decide +kernel
theorem dX2_fillChildren_12 : decode cX2_fillChildren 12 = .ok (.aload_n 0, 1) := by decide +kernel
theorem dX2_fillChildren_13 : decode cX2_fillChildren 13 = .ok (.getfield 12, 3) := by decide +kernel
theorem dX2_fillChildren_16 : decode cX2_fillChildren 16 = .ok (.invokevirtual 71, 3) := by decide +kernel
theorem dX2_fillChildren_19 : decode cX2_fillChildren 19 = .ok (.if_icmp .ge 30, 3) := by decide +kernel
theorem dX2_fillChildren_22 : decode cX2_fillChildren 22 = .ok (.aload_n 0, 1) := by decide +kernel
theorem dX2_fillChildren_23 : decode cX2_fillChildren 23 = .ok (.getfield 12, 3) := by decide +kernel
theorem dX2_fillChildren_26 : decode cX2_fillChildren 26 = .ok (.iload_n 2, 1) := by decide +kernel
theorem dX2_fillChildren_27 : decode cX2_fillChildren 27 = .ok (.invokevirtual 75, 3) := by decide +kernel
theorem dX2_fillChildren_30 : decode cX2_fillChildren 30 = .ok (.checkcast 13, 3) := by decide +kernel
theorem dX2_fillChildren_33 : decode cX2_fillChildren 33 = .ok (.astore_n 3, 1) := by decide +kernel
theorem dX2_fillChildren_34 : decode cX2_fillChildren 34 = .ok (.aload_n 3, 1) := by decide +kernel
theorem dX2_fillChildren_35 : decode cX2_fillChildren 35 = .ok (.aload_n 3, 1) := by decide +kernel
theorem dX2_fillChildren_36 : decode cX2_fillChildren 36 = .ok (.iload_n 1, 1) := by decide +kernel
theorem dX2_fillChildren_37 : decode cX2_fillChildren 37 = .ok (.invokevirtual 87, 3) := by decide +kernel
theorem dX2_fillChildren_40 : decode cX2_fillChildren 40 = .ok (.putfield 48, 3) := by decide +kernel
theorem dX2_fillChildren_43 : decode cX2_fillChildren 43 = .ok (.iinc 2 1, 3) := by decide +kernel
theorem dX2_fillChildren_46 : decode cX2_fillChildren 46 = .ok (.goto (-35), 3) := by decide +kernel
theorem dX2_fillChildren_49 : decode cX2_fillChildren 49 = .ok (.aload_n 0, 1) := by decide +kernel
theorem dX2_fillChildren_50 : decode cX2_fillChildren 50 = .ok (.aload_n 0, 1) := by decide +kernel
theorem dX2_fillChildren_51 : decode cX2_fillChildren 51 = .ok (.getfield 39, 3) := by decide +kernel
theorem dX2_fillChildren_54 : decode cX2_fillChildren 54 = .ok (.aload_n 0, 1) := by decide +kernel
theorem dX2_fillChildren_55 : decode cX2_fillChildren 55 = .ok (.iload_n 1, 1) := by decide +kernel
theorem dX2_fillChildren_56 : decode cX2_fillChildren 56 = .ok (.invokevirtual 90, 3) := by decide +kernel
theorem dX2_fillChildren_59 : decode cX2_fillChildren 59 = .ok (.isub, 1) := by decide +kernel
theorem dX2_fillChildren_60 : decode cX2_fillChildren 60 = .ok (.invokevirtual 79, 3) := by decide +kernel
theorem dX2_fillChildren_63 : decode cX2_fillChildren 63 = .ok (.iconst 0, 1) := by decide +kernel
theorem dX2_fillChildren_64 : decode cX2_fillChildren 64 = .ok (.istore_n 2, 1) := by decide +kernel
theorem dX2_fillChildren_65 : decode cX2_fillChildren 65 = .ok (.iload_n 2, 1) := by decide +kernel
theorem dX2_fillChildren_66 : decode cX2_fillChildren 66 = .ok (.aload_n 0, 1) := by decide +kernel
theorem dX2_fillChildren_67 : decode cX2_fillChildren 67 = .ok (.getfield 12, 3) := by decide +kernel
theorem dX2_fillChildren_70 : decode cX2_fillChildren 70 = .ok (.invokevirtual 71, 3) := by decide +kernel
theorem dX2_fillChildren_73 : decode cX2_fillChildren 73 = .ok (.if_icmp .ge 29, 3) := by decide +kernel
theorem dX2_fillChildren_76 : decode cX2_fillChildren 76 = .ok (.aload_n 0, 1) := by decide +kernel
theorem dX2_fillChildren_77 : decode cX2_fillChildren 77 = .ok (.getfield 12, 3) := by decide +kernel
theorem dX2_fillChildren_80 : decode cX2_fillChildren 80 = .ok (.iload_n 2, 1) := by decide +kernel
theorem dX2_fillChildren_81 : decode cX2_fillChildren 81 = .ok (.invokevirtual 75, 3) := by decide +kernel
theorem dX2_fillChildren_84 : decode cX2_fillChildren 84 = .ok (.checkcast 13, 3) := by decide +kernel
theorem dX2_fillChildren_87 : decode cX2_fillChildren 87 = .ok (.astore_n 3, 1) := by decide +kernel
theorem dX2_fillChildren_88 : decode cX2_fillChildren 88 = .ok (.aload_n 3, 1) := by decide +kernel
theorem dX2_fillChildren_89 : decode cX2_fillChildren 89 = .ok (.aload_n 3, 1) := by decide +kernel
theorem dX2_fillChildren_90 : decode cX2_fillChildren 90 = .ok (.getfield 48, 3) := by decide +kernel
theorem dX2_fillChildren_93 : decode cX2_fillChildren 93 = .ok (.putfield 39, 3) := by decide +kernel
theorem dX2_fillChildren_96 : decode cX2_fillChildren 96 = .ok (.iinc 2 1, 3) := by decide +kernel
theorem dX2_fillChildren_99 : decode cX2_fillChildren 99 = .ok (.goto (-34), 3) := by decide +kernel
theorem dX2_fillChildren_102 : decode cX2_fillChildren 102 = .ok (.return_, 1) := by decide +kernel
theorem dX2_giveOneByOne_0 : decode cX2_giveOneByOne 0 = .ok (.iconst 0, 1) := by decide +kernel
theorem dX2_giveOneByOne_1 : decode cX2_giveOneByOne 1 = .ok (.istore_n 2, 1) := by decide +kernel
theorem dX2_giveOneByOne_2 : decode cX2_giveOneByOne 2 = .ok (.iload_n 2, 1) := by decide +kernel
theorem dX2_giveOneByOne_3 : decode cX2_giveOneByOne 3 = .ok (.iload_n 1, 1) := by decide +kernel
theorem dX2_giveOneByOne_4 : decode cX2_giveOneByOne 4 = .ok (.if_icmp .ge 28, 3) := by decide +kernel
theorem dX2_giveOneByOne_7 : decode cX2_giveOneByOne 7 = .ok (.aload_n 0, 1) := by decide +kernel
theorem dX2_giveOneByOne_8 : decode cX2_giveOneByOne 8 = .ok (.invokevirtual 93, 3) := by decide +kernel
theorem dX2_giveOneByOne_11 : decode cX2_giveOneByOne 11 = .ok (.astore_n 3, 1) := by decide +kernel
theorem dX2_giveOneByOne_12 : decode cX2_giveOneByOne 12 = .ok (.aload_n 3, 1) := by decide +kernel
theorem dX2_giveOneByOne_13 : decode cX2_giveOneByOne 13 = .ok (.ifnull 13, 3) := by decide +kernel
theorem dX2_giveOneByOne_16 : decode cX2_giveOneByOne 16 = .ok (.aload_n 3, 1) := by decide +kernel
theorem dX2_giveOneByOne_17 : decode cX2_giveOneByOne 17 = .ok (.dup, 1) := by decide +kernel
theorem dX2_giveOneByOne_18 : decode cX2_giveOneByOne 18 = .ok (.getfield 48, 3) := by decide +kernel
theorem dX2_giveOneByOne_21 : decode cX2_giveOneByOne 21 = .ok (.iconst 1, 1) := by decide +kernel
theorem dX2_giveOneByOne_22 : decode cX2_giveOneByOne 22 = .ok (.iadd, 1) := by decide +kernel
theorem dX2_giveOneByOne_23 : decode cX2_giveOneByOne 23 = .ok (.putfield 48, 3) := by decide +kernel
theorem dX2_giveOneByOne_26 : decode cX2_giveOneByOne 26 = .ok (.iinc 2 1, 3) := by decide +kernel
theorem dX2_giveOneByOne_29 : decode cX2_giveOneByOne 29 = .ok (.goto (-27), 3) := by decide +kernel
theorem dX2_giveOneByOne_32 : decode cX2_giveOneByOne 32 = .ok (.return_, 1) := by decide +kernel
theorem dX2_neediestChild_0 : decode cX2_neediestChild 0 = .ok (.aconst_null, 1) := by decide +kernel
theorem dX2_neediestChild_1 : decode cX2_neediestChild 1 = .ok (.astore_n 1, 1) := by decide +kernel
theorem dX2_neediestChild_2 : decode cX2_neediestChild 2 = .ok (.iconst 0, 1) := by decide +kernel
theorem dX2_neediestChild_3 : decode cX2_neediestChild 3 = .ok (.istore_n 2, 1) := by decide +kernel
theorem dX2_neediestChild_4 : decode cX2_neediestChild 4 = .ok (.iload_n 2, 1) := by decide +kernel
theorem dX2_neediestChild_5 : decode cX2_neediestChild 5 = .ok (.aload_n 0, 1) := by decide +kernel
theorem dX2_neediestChild_6 : decode cX2_neediestChild 6 = .ok (.getfield 12, 3) := by decide +kernel
theorem dX2_neediestChild_9 : decode cX2_neediestChild 9 = .ok (.invokevirtual 71, 3) := by decide +kernel
theorem dX2_neediestChild_12 : decode cX2_neediestChild 12 = .ok (.if_icmp .ge 59, 3) := by decide +kernel
theorem dX2_neediestChild_15 : decode cX2_neediestChild 15 = .ok (.aload_n 0, 1) := by decide +kernel
theorem dX2_neediestChild_16 : decode cX2_neediestChild 16 = .ok (.getfield 12, 3) := by decide +kernel
theorem dX2_neediestChild_19 : decode cX2_neediestChild 19 = .ok (.iload_n 2, 1) := by decide +kernel
theorem dX2_neediestChild_20 : decode cX2_neediestChild 20 = .ok (.invokevirtual 75, 3) := by decide +kernel
theorem dX2_neediestChild_23 : decode cX2_neediestChild 23 = .ok (.checkcast 13, 3) := by decide +kernel
theorem dX2_neediestChild_26 : decode cX2_neediestChild 26 = .ok (.astore_n 3, 1) := by decide +kernel
theorem dX2_neediestChild_27 : decode cX2_neediestChild 27 = .ok (.aload_n 3, 1) := by decide +kernel
theorem dX2_neediestChild_28 : decode cX2_neediestChild 28 = .ok (.getfield 48, 3) := by decide +kernel
theorem dX2_neediestChild_31 : decode cX2_neediestChild 31 = .ok (.aload_n 3, 1) := by decide +kernel
theorem dX2_neediestChild_32 : decode cX2_neediestChild 32 = .ok (.getfield 33, 3) := by decide +kernel
theorem dX2_neediestChild_35 : decode cX2_neediestChild 35 = .ok (.if_icmp .ge 30, 3) := by decide +kernel
theorem dX2_neediestChild_38 : decode cX2_neediestChild 38 = .ok (.aload_n 1, 1) := by decide +kernel
theorem dX2_neediestChild_39 : decode cX2_neediestChild 39 = .ok (.ifnull 24, 3) := by decide +kernel
theorem dX2_neediestChild_42 : decode cX2_neediestChild 42 = .ok (.aload_n 3, 1) := by decide +kernel
theorem dX2_neediestChild_43 : decode cX2_neediestChild 43 = .ok (.getfield 48, 3) := by decide +kernel
theorem dX2_neediestChild_46 : decode cX2_neediestChild 46 = .ok (.aload_n 1, 1) := by decide +kernel
theorem dX2_neediestChild_47 : decode cX2_neediestChild 47 = .ok (.getfield 58, 3) := by decide +kernel
theorem dX2_neediestChild_50 : decode cX2_neediestChild 50 = .ok (.imul, 1) := by decide +kernel
theorem dX2_neediestChild_51 : decode cX2_neediestChild 51 = .ok (.aload_n 1, 1) := by decide +kernel
theorem dX2_neediestChild_52 : decode cX2_neediestChild 52 = .ok (.getfield 48, 3) := by decide +kernel
theorem dX2_neediestChild_55 : decode cX2_neediestChild 55 = .ok (.aload_n 3, 1) := by decide +kernel
theorem dX2_neediestChild_56 : decode cX2_neediestChild 56 = .ok (.getfield 58, 3) := by decide +kernel
theorem dX2_neediestChild_59 : decode cX2_neediestChild 59 = .ok (.imul, 1) := by decide +kernel
theorem dX2_neediestChild_60 : decode cX2_neediestChild 60 = .ok (.if_icmp .ge 5, 3) := by decide +kernel
theorem dX2_neediestChild_63 : decode cX2_neediestChild 63 = .ok (.aload_n 3, 1) := by decide +kernel
theorem dX2_neediestChild_64 : decode cX2_neediestChild 64 = .ok (.astore_n 1, 1) := by decide +kernel
theorem dX2_neediestChild_65 : decode cX2_neediestChild 65 = .ok (.iinc 2 1, 3) := by decide +kernel
theorem dX2_neediestChild_68 : decode cX2_neediestChild 68 = .ok (.goto (-64), 3) := by decide +kernel
theorem dX2_neediestChild_71 : decode cX2_neediestChild 71 = .ok (.aload_n 1, 1) := by decide +kernel
theorem dX2_neediestChild_72 : decode cX2_neediestChild 72 = .ok (.areturn, 1) := by decide +kernel
theorem dX2_levelWithin_0 : decode cX2_levelWithin 0 = .ok (.iconst 0, 1) := by decide +kernel
theorem dX2_levelWithin_1 : decode cX2_levelWithin 1 = .ok (.istore_n 2, 1) := by decide +kernel
theorem dX2_levelWithin_2 : decode cX2_levelWithin 2 = .ok (.sipush 128, 3) := by decide +kernel
theorem dX2_levelWithin_5 : decode cX2_levelWithin 5 = .ok (.istore_n 3, 1) := by decide +kernel
theorem dX2_levelWithin_6 : decode cX2_levelWithin 6 = .ok (.iload_n 3, 1) := by decide +kernel
theorem dX2_levelWithin_7 : decode cX2_levelWithin 7 = .ok (.ifCond .le 25, 3) := by decide +kernel
theorem dX2_levelWithin_10 : decode cX2_levelWithin 10 = .ok (.aload_n 0, 1) := by decide +kernel
theorem dX2_levelWithin_11 : decode cX2_levelWithin 11 = .ok (.iload_n 2, 1) := by decide +kernel
theorem dX2_levelWithin_12 : decode cX2_levelWithin 12 = .ok (.iload_n 3, 1) := by decide +kernel
theorem dX2_levelWithin_13 : decode cX2_levelWithin 13 = .ok (.iadd, 1) := by decide +kernel
theorem dX2_levelWithin_14 : decode cX2_levelWithin 14 = .ok (.invokevirtual 90, 3) := by decide +kernel
theorem dX2_levelWithin_17 : decode cX2_levelWithin 17 = .ok (.iload_n 1, 1) := by decide +kernel
theorem dX2_levelWithin_18 : decode cX2_levelWithin 18 = .ok (.if_icmp .gt 7, 3) := by decide +kernel
theorem dX2_levelWithin_21 : decode cX2_levelWithin 21 = .ok (.iload_n 2, 1) := by decide +kernel
theorem dX2_levelWithin_22 : decode cX2_levelWithin 22 = .ok (.iload_n 3, 1) := by decide +kernel
theorem dX2_levelWithin_23 : decode cX2_levelWithin 23 = .ok (.iadd, 1) := by decide +kernel
theorem dX2_levelWithin_24 : decode cX2_levelWithin 24 = .ok (.istore_n 2, 1) := by decide +kernel
theorem dX2_levelWithin_25 : decode cX2_levelWithin 25 = .ok (.iload_n 3, 1) := by decide +kernel
theorem dX2_levelWithin_26 : decode cX2_levelWithin 26 = .ok (.iconst 2, 1) := by decide +kernel
theorem dX2_levelWithin_27 : decode cX2_levelWithin 27 = .ok (.idiv, 1) := by decide +kernel
theorem dX2_levelWithin_28 : decode cX2_levelWithin 28 = .ok (.istore_n 3, 1) := by decide +kernel
theorem dX2_levelWithin_29 : decode cX2_levelWithin 29 = .ok (.goto (-23), 3) := by decide +kernel
theorem dX2_levelWithin_32 : decode cX2_levelWithin 32 = .ok (.iload_n 2, 1) := by decide +kernel
theorem dX2_levelWithin_33 : decode cX2_levelWithin 33 = .ok (.ireturn, 1) := by decide +kernel
theorem dX2_childrenUnitsAtLevel_0 : decode cX2_childrenUnitsAtLevel 0 = .ok (.iconst 0, 1) := by decide +kernel
theorem dX2_childrenUnitsAtLevel_1 : decode cX2_childrenUnitsAtLevel 1 = .ok (.istore_n 2, 1) := by decide +kernel
theorem dX2_childrenUnitsAtLevel_2 : decode cX2_childrenUnitsAtLevel 2 = .ok (.iconst 0, 1) := by decide +kernel
theorem dX2_childrenUnitsAtLevel_3 : decode cX2_childrenUnitsAtLevel 3 = .ok (.istore_n 3, 1) := by decide +kernel
theorem dX2_childrenUnitsAtLevel_4 : decode cX2_childrenUnitsAtLevel 4 = .ok (.iload_n 3, 1) := by decide +kernel
theorem dX2_childrenUnitsAtLevel_5 : decode cX2_childrenUnitsAtLevel 5 = .ok (.aload_n 0, 1) := by decide +kernel
theorem dX2_childrenUnitsAtLevel_6 : decode cX2_childrenUnitsAtLevel 6 = .ok (.getfield 12, 3) := by decide +kernel
theorem dX2_childrenUnitsAtLevel_9 : decode cX2_childrenUnitsAtLevel 9 = .ok (.invokevirtual 71, 3) := by decide +kernel
theorem dX2_childrenUnitsAtLevel_12 : decode cX2_childrenUnitsAtLevel 12 = .ok (.if_icmp .ge 27, 3) := by decide +kernel
theorem dX2_childrenUnitsAtLevel_15 : decode cX2_childrenUnitsAtLevel 15 = .ok (.iload_n 2, 1) := by decide +kernel
theorem dX2_childrenUnitsAtLevel_16 : decode cX2_childrenUnitsAtLevel 16 = .ok (.aload_n 0, 1) := by decide +kernel
theorem dX2_childrenUnitsAtLevel_17 : decode cX2_childrenUnitsAtLevel 17 = .ok (.getfield 12, 3) := by decide +kernel
theorem dX2_childrenUnitsAtLevel_20 : decode cX2_childrenUnitsAtLevel 20 = .ok (.iload_n 3, 1) := by decide +kernel
theorem dX2_childrenUnitsAtLevel_21 : decode cX2_childrenUnitsAtLevel 21 = .ok (.invokevirtual 75, 3) := by decide +kernel
theorem dX2_childrenUnitsAtLevel_24 : decode cX2_childrenUnitsAtLevel 24 = .ok (.checkcast 13, 3) := by decide +kernel
theorem dX2_childrenUnitsAtLevel_27 : decode cX2_childrenUnitsAtLevel 27 = .ok (.iload_n 1, 1) := by decide +kernel
theorem dX2_childrenUnitsAtLevel_28 : decode cX2_childrenUnitsAtLevel 28 = .ok (.invokevirtual 87, 3) := by decide +kernel
theorem dX2_childrenUnitsAtLevel_31 : decode cX2_childrenUnitsAtLevel 31 = .ok (.iadd, 1) := by decide +kernel
theorem dX2_childrenUnitsAtLevel_32 : decode cX2_childrenUnitsAtLevel 32 = .ok (.istore_n 2, 1) := by decide +kernel
theorem dX2_childrenUnitsAtLevel_33 : decode cX2_childrenUnitsAtLevel 33 = .ok (.iinc 3 1, 3) := by decide +kernel
theorem dX2_childrenUnitsAtLevel_36 : decode cX2_childrenUnitsAtLevel 36 = .ok (.goto (-32), 3) := by decide +kernel
theorem dX2_childrenUnitsAtLevel_39 : decode cX2_childrenUnitsAtLevel 39 = .ok (.iload_n 2, 1) := by decide +kernel
theorem dX2_childrenUnitsAtLevel_40 : decode cX2_childrenUnitsAtLevel 40 = .ok (.ireturn, 1) := by decide +kernel
theorem dX2_unitsAtLevel_0 : decode cX2_unitsAtLevel 0 = .ok (.aload_n 0, 1) := by decide +kernel
theorem dX2_unitsAtLevel_1 : decode cX2_unitsAtLevel 1 = .ok (.getfield 33, 3) := by decide +kernel
theorem dX2_unitsAtLevel_4 : decode cX2_unitsAtLevel 4 = .ok (.iload_n 1, 1) := by decide +kernel
theorem dX2_unitsAtLevel_5 : decode cX2_unitsAtLevel 5 = .ok (.aload_n 0, 1) := by decide +kernel
theorem dX2_unitsAtLevel_6 : decode cX2_unitsAtLevel 6 = .ok (.getfield 58, 3) := by decide +kernel
theorem dX2_unitsAtLevel_9 : decode cX2_unitsAtLevel 9 = .ok (.imul, 1) := by decide +kernel
theorem dX2_unitsAtLevel_10 : decode cX2_unitsAtLevel 10 = .ok (.invokestatic 65, 3) := by decide +kernel
theorem dX2_unitsAtLevel_13 : decode cX2_unitsAtLevel 13 = .ok (.ireturn, 1) := by decide +kernel
theorem dX2_sharesOfChildren_0 : decode cX2_sharesOfChildren 0 = .ok (.iconst 0, 1) := by decide +kernel
theorem dX2_sharesOfChildren_1 : decode cX2_sharesOfChildren 1 = .ok (.istore_n 1, 1) := by decide +kernel
theorem dX2_sharesOfChildren_2 : decode cX2_sharesOfChildren 2 = .ok (.iconst 0, 1) := by decide +kernel
theorem dX2_sharesOfChildren_3 : decode cX2_sharesOfChildren 3 = .ok (.istore_n 2, 1) := by decide +kernel
theorem dX2_sharesOfChildren_4 : decode cX2_sharesOfChildren 4 = .ok (.iload_n 2, 1) := by decide +kernel
theorem dX2_sharesOfChildren_5 : decode cX2_sharesOfChildren 5 = .ok (.aload_n 0, 1) := by decide +kernel
theorem dX2_sharesOfChildren_6 : decode cX2_sharesOfChildren 6 = .ok (.getfield 12, 3) := by decide +kernel
theorem dX2_sharesOfChildren_9 : decode cX2_sharesOfChildren 9 = .ok (.invokevirtual 71, 3) := by decide +kernel
theorem dX2_sharesOfChildren_12 : decode cX2_sharesOfChildren 12 = .ok (.if_icmp .ge 26, 3) := by decide +kernel
theorem dX2_sharesOfChildren_15 : decode cX2_sharesOfChildren 15 = .ok (.iload_n 1, 1) := by decide +kernel
theorem dX2_sharesOfChildren_16 : decode cX2_sharesOfChildren 16 = .ok (.aload_n 0, 1) := by decide +kernel
theorem dX2_sharesOfChildren_17 : decode cX2_sharesOfChildren 17 = .ok (.getfield 12, 3) := by decide +kernel
theorem dX2_sharesOfChildren_20 : decode cX2_sharesOfChildren 20 = .ok (.iload_n 2, 1) := by decide +kernel
theorem dX2_sharesOfChildren_21 : decode cX2_sharesOfChildren 21 = .ok (.invokevirtual 75, 3) := by decide +kernel
theorem dX2_sharesOfChildren_24 : decode cX2_sharesOfChildren 24 = .ok (.checkcast 13, 3) := by decide +kernel
theorem dX2_sharesOfChildren_27 : decode cX2_sharesOfChildren 27 = .ok (.getfield 36, 3) := by decide +kernel
theorem dX2_sharesOfChildren_30 : decode cX2_sharesOfChildren 30 = .ok (.iadd, 1) := by decide +kernel
theorem dX2_sharesOfChildren_31 : decode cX2_sharesOfChildren 31 = .ok (.istore_n 1, 1) := by decide +kernel
theorem dX2_sharesOfChildren_32 : decode cX2_sharesOfChildren 32 = .ok (.iinc 2 1, 3) := by decide +kernel
theorem dX2_sharesOfChildren_35 : decode cX2_sharesOfChildren 35 = .ok (.goto (-31), 3) := by decide +kernel
theorem dX2_sharesOfChildren_38 : decode cX2_sharesOfChildren 38 = .ok (.iload_n 1, 1) := by decide +kernel
theorem dX2_sharesOfChildren_39 : decode cX2_sharesOfChildren 39 = .ok (.ireturn, 1) := by decide +kernel
theorem dX3_init_0 : decode cX3_init 0 = .ok (.aload_n 0, 1) := by decide +kernel
theorem dX3_init_1 : decode cX3_init 1 = .ok (.invokespecial 1, 3) := by decide +kernel
theorem dX3_init_4 : decode cX3_init 4 = .ok (.aload_n 0, 1) := by decide +kernel
theorem dX3_init_5 : decode cX3_init 5 = .ok (.new 7, 3) := by decide +kernel
theorem dX3_init_8 : decode cX3_init 8 = .ok (.dup, 1) := by decide +kernel
theorem dX3_init_9 : decode cX3_init 9 = .ok (.invokespecial 9, 3) := by decide +kernel
theorem dX3_init_12 : decode cX3_init 12 = .ok (.putfield 10, 3) := by decide +kernel
theorem dX3_init_15 : decode cX3_init 15 = .ok (.aload_n 0, 1) := by decide +kernel
theorem dX3_init_16 : decode cX3_init 16 = .ok (.new 16, 3) := by decide +kernel
theorem dX3_init_19 : decode cX3_init 19 = .ok (.dup, 1) := by decide +kernel
theorem dX3_init_20 : decode cX3_init 20 = .ok (.iconst 0, 1) := by decide +kernel
theorem dX3_init_21 : decode cX3_init 21 = .ok (.aconst_null, 1) := by decide +kernel
theorem dX3_init_22 : decode cX3_init 22 = .ok (.iconst 1, 1) := by decide +kernel
theorem dX3_init_23 : decode cX3_init 23 = .ok (.invokespecial 18, 3) := by decide +kernel
theorem dX3_init_26 : decode cX3_init 26 = .ok (.putfield 21, 3) := by decide +kernel
theorem dX3_init_29 : decode cX3_init 29 = .ok (.aload_n 0, 1) := by decide +kernel
theorem dX3_init_30 : decode cX3_init 30 = .ok (.new 7, 3) := by decide +kernel
theorem dX3_init_33 : decode cX3_init 33 = .ok (.dup, 1) := by decide +kernel
theorem dX3_init_34 : decode cX3_init 34 = .ok (.invokespecial 9, 3) := by decide +kernel
theorem dX3_init_37 : decode cX3_init 37 = .ok (.putfield 25, 3) := by decide +kernel
theorem dX3_init_40 : decode cX3_init 40 = .ok (.aload_n 0, 1) := by decide +kernel
theorem dX3_init_41 : decode cX3_init 41 = .ok (.new 7, 3) := by decide +kernel
theorem dX3_init_44 : decode cX3_init 44 = .ok (.dup, 1) := by decide +kernel
theorem dX3_init_45 : decode cX3_init 45 = .ok (.invokespecial 9, 3) := by decide +kernel
theorem dX3_init_48 : decode cX3_init 48 = .ok (.putfield 28, 3) := by decide +kernel
theorem dX3_init_51 : decode cX3_init 51 = .ok (.aload_n 0, 1) := by decide +kernel
theorem dX3_init_52 : decode cX3_init 52 = .ok (.new 7, 3) := by decide +kernel
theorem dX3_init_55 : decode cX3_init 55 = .ok (.dup, 1) := by decide +kernel
theorem dX3_init_56 : decode cX3_init 56 = .ok (.invokespecial 9, 3) := by decide +kernel
theorem dX3_init_59 : decode cX3_init 59 = .ok (.putfield 31, 3) := by decide +kernel
theorem dX3_init_62 : decode cX3_init 62 = .ok (.aload_n 0, 1) := by decide +kernel
theorem dX3_init_63 : decode cX3_init 63 = .ok (.new 7, 3) := by decide +kernel
theorem dX3_init_66 : decode cX3_init 66 = .ok (.dup, 1) := by decide +kernel
theorem dX3_init_67 : decode cX3_init 67 = .ok (.invokespecial 9, 3) := by decide +kernel
theorem dX3_init_70 : decode cX3_init 70 = .ok (.putfield 34, 3) := by decide +kernel
theorem dX3_init_73 : decode cX3_init 73 = .ok (.aload_n 0, 1) := by decide +kernel
theorem dX3_init_74 : decode cX3_init 74 = .ok (.new 7, 3) := by decide +kernel
theorem dX3_init_77 : decode cX3_init 77 = .ok (.dup, 1) := by decide +kernel
theorem dX3_init_78 : decode cX3_init 78 = .ok (.invokespecial 9, 3) := by decide +kernel
theorem dX3_init_81 : decode cX3_init 81 = .ok (.putfield 37, 3) := by decide +kernel
theorem dX3_init_84 : decode cX3_init 84 = .ok (.aload_n 0, 1) := by decide +kernel
theorem dX3_init_85 : decode cX3_init 85 = .ok (.bipush 20, 2) := by decide +kernel
theorem dX3_init_87 : decode cX3_init 87 = .ok (.putfield 40, 3) := by decide +kernel
theorem dX3_init_90 : decode cX3_init 90 = .ok (.aload_n 0, 1) := by decide +kernel
theorem dX3_init_91 : decode cX3_init 91 = .ok (.bipush 10, 2) := by decide +kernel
theorem dX3_init_93 : decode cX3_init 93 = .ok (.putfield 44, 3) := by decide +kernel
theorem dX3_init_96 : decode cX3_init 96 = .ok (.aload_n 0, 1) := by decide +kernel
theorem dX3_init_97 : decode cX3_init 97 = .ok (.iconst 0, 1) := by decide +kernel
theorem dX3_init_98 : decode cX3_init 98 = .ok (.putfield 47, 3) := by decide +kernel
theorem dX3_init_101 : decode cX3_init 101 = .ok (.aload_n 0, 1) := by decide +kernel
theorem dX3_init_102 : decode cX3_init 102 = .ok (.iconst 0, 1) := by decide +kernel
theorem dX3_init_103 : decode cX3_init 103 = .ok (.putfield 50, 3) := by decide +kernel
theorem dX3_init_106 : decode cX3_init 106 = .ok (.aload_n 0, 1) := by decide +kernel
theorem dX3_init_107 : decode cX3_init 107 = .ok (.getfield 10, 3) := by decide +kernel
theorem dX3_init_110 : decode cX3_init 110 = .ok (.aload_n 0, 1) := by decide +kernel
theorem dX3_init_111 : decode cX3_init 111 = .ok (.getfield 21, 3) := by decide +kernel
theorem dX3_init_114 : decode cX3_init 114 = .ok (.invokevirtual 53, 3) := by decide +kernel
theorem dX3_init_117 : decode cX3_init 117 = .ok (.pop, 1) := by decide +kernel
theorem dX3_init_118 : decode cX3_init 118 = .ok (.return_, 1) := by decide +kernel
theorem dX3_addTeam_0 : decode cX3_addTeam 0 = .ok (.aload_n 0, 1) := by decide +kernel
theorem dX3_addTeam_1 : decode cX3_addTeam 1 = .ok (.iload_n 1, 1) := by decide +kernel
theorem dX3_addTeam_2 : decode cX3_addTeam 2 = .ok (.invokevirtual 57, 3) := by decide +kernel
theorem dX3_addTeam_5 : decode cX3_addTeam 5 = .ok (.astore_n 3, 1) := by decide +kernel
theorem dX3_addTeam_6 : decode cX3_addTeam 6 = .ok (.iload_n 2, 1) := by decide +kernel
theorem dX3_addTeam_7 : decode cX3_addTeam 7 = .ok (.iconst 1, 1) := by decide +kernel
theorem dX3_addTeam_8 : decode cX3_addTeam 8 = .ok (.bipush 9, 2) := by decide +kernel
theorem dX3_addTeam_10 : decode cX3_addTeam 10 = .ok (.invokestatic 61, 3) := by decide +kernel
theorem dX3_addTeam_13 : decode cX3_addTeam 13 = .ok (.aload_n 0, 1) := by decide +kernel
theorem dX3_addTeam_14 : decode cX3_addTeam 14 = .ok (.getfield 10, 3) := by decide +kernel
theorem dX3_addTeam_17 : decode cX3_addTeam 17 = .ok (.invokevirtual 65, 3) := by decide +kernel
theorem dX3_addTeam_20 : decode cX3_addTeam 20 = .ok (.bipush 10, 2) := by decide +kernel
theorem dX3_addTeam_22 : decode cX3_addTeam 22 = .ok (.if_icmp .ge 10, 3) := by decide +kernel
theorem dX3_addTeam_25 : decode cX3_addTeam 25 = .ok (.aload_n 3, 1) := by decide +kernel
theorem dX3_addTeam_26 : decode cX3_addTeam 26 = .ok (.getfield 69, 3) := by decide +kernel
theorem dX3_addTeam_29 : decode cX3_addTeam 29 = .ok (.ifCond .eq 13, 3) := by decide +kernel
theorem dX3_addTeam_32 : decode cX3_addTeam 32 = .ok (.new 73, 3) := by decide +kernel
theorem dX3_addTeam_35 : decode cX3_addTeam 35 = .ok (.dup, 1) := by decide +kernel
theorem dX3_addTeam_36 : decode cX3_addTeam 36 = .ok (.ldc 75, 2) := by decide +kernel
theorem dX3_addTeam_38 : decode cX3_addTeam 38 = .ok (.invokespecial 77, 3) := by decide +kernel
theorem dX3_addTeam_41 : decode cX3_addTeam 41 = .ok (.athrow, 1) := by decide +kernel
theorem dX3_addTeam_42 : decode cX3_addTeam 42 = .ok (.new 16, 3) := by decide +kernel
theorem dX3_addTeam_45 : decode cX3_addTeam 45 = .ok (.dup, 1) := by decide +kernel
theorem dX3_addTeam_46 : decode cX3_addTeam 46 = .ok (.aload_n 0, 1) := by decide +kernel
theorem dX3_addTeam_47 : decode cX3_addTeam 47 = .ok (.getfield 10, 3) := by decide +kernel
theorem dX3_addTeam_50 : decode cX3_addTeam 50 = .ok (.invokevirtual 65, 3) := by decide +kernel
theorem dX3_addTeam_53 : decode cX3_addTeam 53 = .ok (.aload_n 3, 1) := by decide +kernel
theorem dX3_addTeam_54 : decode cX3_addTeam 54 = .ok (.iload_n 2, 1) := by decide +kernel
theorem dX3_addTeam_55 : decode cX3_addTeam 55 = .ok (.invokespecial 18, 3) := by decide +kernel
theorem dX3_addTeam_58 : decode cX3_addTeam 58 = .ok (.astore 4, 2) := by decide +kernel
theorem dX3_addTeam_60 : decode cX3_addTeam 60 = .ok (.aload_n 0, 1) := by decide +kernel
theorem dX3_addTeam_61 : decode cX3_addTeam 61 = .ok (.getfield 10, 3) := by decide +kernel
theorem dX3_addTeam_64 : decode cX3_addTeam 64 = .ok (.aload 4, 2) := by decide +kernel
theorem dX3_addTeam_66 : decode cX3_addTeam 66 = .ok (.invokevirtual 53, 3) := by decide +kernel
theorem dX3_addTeam_69 : decode cX3_addTeam 69 = .ok (.pop, 1) := by decide +kernel
theorem dX3_addTeam_70 : decode cX3_addTeam 70 = .ok (.aload_n 3, 1) := by decide +kernel
theorem dX3_addTeam_71 : decode cX3_addTeam 71 = .ok (.getfield 80, 3) := by decide +kernel
theorem dX3_addTeam_74 : decode cX3_addTeam 74 = .ok (.aload 4, 2) := by decide +kernel
theorem dX3_addTeam_76 : decode cX3_addTeam 76 = .ok (.invokevirtual 53, 3) := by decide +kernel
theorem dX3_addTeam_79 : decode cX3_addTeam 79 = .ok (.pop, 1) := by decide +kernel
theorem dX3_addTeam_80 : decode cX3_addTeam 80 = .ok (.aload_n 0, 1) := by decide +kernel
theorem dX3_addTeam_81 : decode cX3_addTeam 81 = .ok (.invokevirtual 83, 3) := by decide +kernel
theorem dX3_addTeam_84 : decode cX3_addTeam 84 = .ok (.aload 4, 2) := by decide +kernel
theorem dX3_addTeam_86 : decode cX3_addTeam 86 = .ok (.getfield 86, 3) := by decide +kernel
theorem dX3_addTeam_89 : decode cX3_addTeam 89 = .ok (.ireturn, 1) := by decide +kernel
theorem dX3_setWeight_0 : decode cX3_setWeight 0 = .ok (.aload_n 0, 1) := by decide +kernel
theorem dX3_setWeight_1 : decode cX3_setWeight 1 = .ok (.iload_n 1, 1) := by decide +kernel
theorem dX3_setWeight_2 : decode cX3_setWeight 2 = .ok (.invokevirtual 89, 3) := by decide +kernel
theorem dX3_setWeight_5 : decode cX3_setWeight 5 = .ok (.astore_n 3, 1) := by decide +kernel
theorem dX3_setWeight_6 : decode cX3_setWeight 6 = .ok (.iload_n 2, 1) := by decide +kernel
theorem dX3_setWeight_7 : decode cX3_setWeight 7 = .ok (.iconst 1, 1) := by decide +kernel
theorem dX3_setWeight_8 : decode cX3_setWeight 8 = .ok (.bipush 9, 2) := by decide +kernel
theorem dX3_setWeight_10 : decode cX3_setWeight 10 = .ok (.invokestatic 61, 3) := by decide +kernel
theorem dX3_setWeight_13 : decode cX3_setWeight 13 = .ok (.aload_n 3, 1) := by decide +kernel
theorem dX3_setWeight_14 : decode cX3_setWeight 14 = .ok (.getfield 92, 3) := by decide +kernel
theorem dX3_setWeight_17 : decode cX3_setWeight 17 = .ok (.istore 4, 2) := by decide +kernel
theorem dX3_setWeight_19 : decode cX3_setWeight 19 = .ok (.aload_n 3, 1) := by decide +kernel
theorem dX3_setWeight_20 : decode cX3_setWeight 20 = .ok (.iload_n 2, 1) := by decide +kernel
theorem dX3_setWeight_21 : decode cX3_setWeight 21 = .ok (.putfield 92, 3) := by decide +kernel
theorem dX3_setWeight_24 : decode cX3_setWeight 24 = .ok (.aload_n 0, 1) := by decide +kernel
theorem dX3_setWeight_25 : decode cX3_setWeight 25 = .ok (.invokevirtual 83, 3) := by decide +kernel
theorem dX3_setWeight_28 : decode cX3_setWeight 28 = .ok (.iload 4, 2) := by decide +kernel
theorem dX3_setWeight_30 : decode cX3_setWeight 30 = .ok (.ireturn, 1) := by decide +kernel
theorem dX3_setLimit_0 : decode cX3_setLimit 0 = .ok (.aload_n 0, 1) := by decide +kernel
theorem dX3_setLimit_1 : decode cX3_setLimit 1 = .ok (.iload_n 1, 1) := by decide +kernel
theorem dX3_setLimit_2 : decode cX3_setLimit 2 = .ok (.invokevirtual 89, 3) := by decide +kernel
theorem dX3_setLimit_5 : decode cX3_setLimit 5 = .ok (.astore_n 3, 1) := by decide +kernel
theorem dX3_setLimit_6 : decode cX3_setLimit 6 = .ok (.iload_n 2, 1) := by decide +kernel
theorem dX3_setLimit_7 : decode cX3_setLimit 7 = .ok (.iconst 0, 1) := by decide +kernel
theorem dX3_setLimit_8 : decode cX3_setLimit 8 = .ok (.sipush 500, 3) := by decide +kernel
theorem dX3_setLimit_11 : decode cX3_setLimit 11 = .ok (.invokestatic 61, 3) := by decide +kernel
theorem dX3_setLimit_14 : decode cX3_setLimit 14 = .ok (.aload_n 3, 1) := by decide +kernel
theorem dX3_setLimit_15 : decode cX3_setLimit 15 = .ok (.getfield 95, 3) := by decide +kernel
theorem dX3_setLimit_18 : decode cX3_setLimit 18 = .ok (.istore 4, 2) := by decide +kernel
theorem dX3_setLimit_20 : decode cX3_setLimit 20 = .ok (.aload_n 3, 1) := by decide +kernel
theorem dX3_setLimit_21 : decode cX3_setLimit 21 = .ok (.iload_n 2, 1) := by decide +kernel
theorem dX3_setLimit_22 : decode cX3_setLimit 22 = .ok (.putfield 95, 3) := by decide +kernel
theorem dX3_setLimit_25 : decode cX3_setLimit 25 = .ok (.aload_n 0, 1) := by decide +kernel
theorem dX3_setLimit_26 : decode cX3_setLimit 26 = .ok (.invokevirtual 83, 3) := by decide +kernel
theorem dX3_setLimit_29 : decode cX3_setLimit 29 = .ok (.iload 4, 2) := by decide +kernel
theorem dX3_setLimit_31 : decode cX3_setLimit 31 = .ok (.ireturn, 1) := by decide +kernel
theorem dX3_setCapacity_0 : decode cX3_setCapacity 0 = .ok (.iload_n 1, 1) := by decide +kernel
theorem dX3_setCapacity_1 : decode cX3_setCapacity 1 = .ok (.iconst 0, 1) := by decide +kernel
theorem dX3_setCapacity_2 : decode cX3_setCapacity 2 = .ok (.sipush 200, 3) := by decide +kernel
theorem dX3_setCapacity_5 : decode cX3_setCapacity 5 = .ok (.invokestatic 61, 3) := by decide +kernel
theorem dX3_setCapacity_8 : decode cX3_setCapacity 8 = .ok (.iload_n 1, 1) := by decide +kernel
theorem dX3_setCapacity_9 : decode cX3_setCapacity 9 = .ok (.aload_n 0, 1) := by decide +kernel
theorem dX3_setCapacity_10 : decode cX3_setCapacity 10 = .ok (.getfield 21, 3) := by decide +kernel
theorem dX3_setCapacity_13 : decode cX3_setCapacity 13 = .ok (.getfield 98, 3) := by decide +kernel
theorem dX3_setCapacity_16 : decode cX3_setCapacity 16 = .ok (.if_icmp .ge 13, 3) := by decide +kernel
theorem dX3_setCapacity_19 : decode cX3_setCapacity 19 = .ok (.new 73, 3) := by decide +kernel
theorem dX3_setCapacity_22 : decode cX3_setCapacity 22 = .ok (.dup, 1) := by decide +kernel
theorem dX3_setCapacity_23 : decode cX3_setCapacity 23 = .ok (.ldc 101, 2) := by decide +kernel
theorem dX3_setCapacity_25 : decode cX3_setCapacity 25 = .ok (.invokespecial 77, 3) := by decide +kernel
theorem dX3_setCapacity_28 : decode cX3_setCapacity 28 = .ok (.athrow, 1) := by decide +kernel
theorem dX3_setCapacity_29 : decode cX3_setCapacity 29 = .ok (.aload_n 0, 1) := by decide +kernel
theorem dX3_setCapacity_30 : decode cX3_setCapacity 30 = .ok (.getfield 40, 3) := by decide +kernel
theorem dX3_setCapacity_33 : decode cX3_setCapacity 33 = .ok (.istore_n 2, 1) := by decide +kernel
theorem dX3_setCapacity_34 : decode cX3_setCapacity 34 = .ok (.aload_n 0, 1) := by decide +kernel
theorem dX3_setCapacity_35 : decode cX3_setCapacity 35 = .ok (.iload_n 1, 1) := by decide +kernel
theorem dX3_setCapacity_36 : decode cX3_setCapacity 36 = .ok (.putfield 40, 3) := by decide +kernel
theorem dX3_setCapacity_39 : decode cX3_setCapacity 39 = .ok (.aload_n 0, 1) := by decide +kernel
theorem dX3_setCapacity_40 : decode cX3_setCapacity 40 = .ok (.invokevirtual 83, 3) := by decide +kernel
theorem dX3_setCapacity_43 : decode cX3_setCapacity 43 = .ok (.iload_n 2, 1) := by decide +kernel
theorem dX3_setCapacity_44 : decode cX3_setCapacity 44 = .ok (.ireturn, 1) := by decide +kernel
theorem dX3_setHalfTime_0 : decode cX3_setHalfTime 0 = .ok (.iload_n 1, 1) := by decide +kernel
theorem dX3_setHalfTime_1 : decode cX3_setHalfTime 1 = .ok (.iconst 1, 1) := by decide +kernel
theorem dX3_setHalfTime_2 : decode cX3_setHalfTime 2 = .ok (.bipush 100, 2) := by decide +kernel
theorem dX3_setHalfTime_4 : decode cX3_setHalfTime 4 = .ok (.invokestatic 61, 3) := by decide +kernel
theorem dX3_setHalfTime_7 : decode cX3_setHalfTime 7 = .ok (.aload_n 0, 1) := by decide +kernel
theorem dX3_setHalfTime_8 : decode cX3_setHalfTime 8 = .ok (.getfield 44, 3) := by decide +kernel
theorem dX3_setHalfTime_11 : decode cX3_setHalfTime 11 = .ok (.istore_n 2, 1) := by decide +kernel
theorem dX3_setHalfTime_12 : decode cX3_setHalfTime 12 = .ok (.aload_n 0, 1) := by decide +kernel
theorem dX3_setHalfTime_13 : decode cX3_setHalfTime 13 = .ok (.iload_n 1, 1) := by decide +kernel
theorem dX3_setHalfTime_14 : decode cX3_setHalfTime 14 = .ok (.putfield 44, 3) := by decide +kernel
theorem dX3_setHalfTime_17 : decode cX3_setHalfTime 17 = .ok (.aload_n 0, 1) := by decide +kernel
theorem dX3_setHalfTime_18 : decode cX3_setHalfTime 18 = .ok (.invokevirtual 83, 3) := by decide +kernel
theorem dX3_setHalfTime_21 : decode cX3_setHalfTime 21 = .ok (.iload_n 2, 1) := by decide +kernel
theorem dX3_setHalfTime_22 : decode cX3_setHalfTime 22 = .ok (.ireturn, 1) := by decide +kernel
theorem dX3_teams_0 : decode cX3_teams 0 = .ok (.aload_n 0, 1) := by decide +kernel
theorem dX3_teams_1 : decode cX3_teams 1 = .ok (.getfield 10, 3) := by decide +kernel
theorem dX3_teams_4 : decode cX3_teams 4 = .ok (.invokevirtual 65, 3) := by decide +kernel
theorem dX3_teams_7 : decode cX3_teams 7 = .ok (.ireturn, 1) := by decide +kernel
theorem dX3_parentOf_0 : decode cX3_parentOf 0 = .ok (.aload_n 0, 1) := by decide +kernel
theorem dX3_parentOf_1 : decode cX3_parentOf 1 = .ok (.iload_n 1, 1) := by decide +kernel
theorem dX3_parentOf_2 : decode cX3_parentOf 2 = .ok (.invokevirtual 89, 3) := by decide +kernel
theorem dX3_parentOf_5 : decode cX3_parentOf 5 = .ok (.getfield 103, 3) := by decide +kernel
theorem dX3_parentOf_8 : decode cX3_parentOf 8 = .ok (.astore_n 2, 1) := by decide +kernel
theorem dX3_parentOf_9 : decode cX3_parentOf 9 = .ok (.aload_n 2, 1) := by decide +kernel
theorem dX3_parentOf_10 : decode cX3_parentOf 10 = .ok (.ifnonnull 7, 3) := by decide +kernel
theorem dX3_parentOf_13 : decode cX3_parentOf 13 = .ok (.iconst 0, 1) := by decide +kernel
theorem dX3_parentOf_14 : decode cX3_parentOf 14 = .ok (.goto 7, 3) := by decide +kernel
theorem dX3_parentOf_17 : decode cX3_parentOf 17 = .ok (.aload_n 2, 1) := by decide +kernel
theorem dX3_parentOf_18 : decode cX3_parentOf 18 = .ok (.getfield 86, 3) := by decide +kernel
theorem dX3_parentOf_21 : decode cX3_parentOf 21 = .ok (.ireturn, 1) := by decide +kernel
theorem dX3_children_0 : decode cX3_children 0 = .ok (.aload_n 0, 1) := by decide +kernel
theorem dX3_children_1 : decode cX3_children 1 = .ok (.iload_n 1, 1) := by decide +kernel
theorem dX3_children_2 : decode cX3_children 2 = .ok (.invokevirtual 57, 3) := by decide +kernel
theorem dX3_children_5 : decode cX3_children 5 = .ok (.getfield 80, 3) := by decide +kernel
theorem dX3_children_8 : decode cX3_children 8 = .ok (.invokevirtual 65, 3) := by decide +kernel
theorem dX3_children_11 : decode cX3_children 11 = .ok (.ireturn, 1) := by decide +kernel
theorem dX3_submit_0 : decode cX3_submit 0 = .ok (.aload_n 0, 1) := by decide +kernel
theorem dX3_submit_1 : decode cX3_submit 1 = .ok (.iload_n 1, 1) := by decide +kernel
theorem dX3_submit_2 : decode cX3_submit 2 = .ok (.invokevirtual 57, 3) := by decide +kernel
theorem dX3_submit_5 : decode cX3_submit 5 = .ok (.astore 4, 2) := by decide +kernel
theorem dX3_submit_7 : decode cX3_submit 7 = .ok (.iload_n 2, 1) := by decide +kernel
theorem dX3_submit_8 : decode cX3_submit 8 = .ok (.iconst 1, 1) := by decide +kernel
theorem dX3_submit_9 : decode cX3_submit 9 = .ok (.bipush 60, 2) := by decide +kernel
theorem dX3_submit_11 : decode cX3_submit 11 = .ok (.invokestatic 61, 3) := by decide +kernel
theorem dX3_submit_14 : decode cX3_submit 14 = .ok (.iload_n 3, 1) := by decide +kernel
theorem dX3_submit_15 : decode cX3_submit 15 = .ok (.iconst 1, 1) := by decide +kernel
theorem dX3_submit_16 : decode cX3_submit 16 = .ok (.bipush 50, 2) := by decide +kernel
theorem dX3_submit_18 : decode cX3_submit 18 = .ok (.invokestatic 61, 3) := by decide +kernel
theorem dX3_submit_21 : decode cX3_submit 21 = .ok (.aload 4, 2) := by decide +kernel
theorem dX3_submit_23 : decode cX3_submit 23 = .ok (.invokestatic 106, 3) := by decide +kernel
theorem dX3_submit_26 : decode cX3_submit 26 = .ok (.aload_n 0, 1) := by decide +kernel
theorem dX3_submit_27 : decode cX3_submit 27 = .ok (.getfield 28, 3) := by decide +kernel
theorem dX3_submit_30 : decode cX3_submit 30 = .ok (.invokevirtual 65, 3) := by decide +kernel
theorem dX3_submit_33 : decode cX3_submit 33 = .ok (.bipush 40, 2) := by decide +kernel
theorem dX3_submit_35 : decode cX3_submit 35 = .ok (.if_icmp .ge 16, 3) := by decide +kernel
theorem dX3_submit_38 : decode cX3_submit 38 = .ok (.aload_n 0, 1) := by decide +kernel
theorem dX3_submit_39 : decode cX3_submit 39 = .ok (.getfield 25, 3) := by decide +kernel
theorem dX3_submit_42 : decode cX3_submit 42 = .ok (.invokevirtual 65, 3) := by decide +kernel
theorem dX3_submit_45 : decode cX3_submit 45 = .ok (.sipush 512, 3) := by decide +kernel
theorem dX3_submit_48 : decode cX3_submit 48 = .ok (.if_icmp .lt 13, 3) := by decide +kernel
theorem dX3_submit_51 : decode cX3_submit 51 = .ok (.new 73, 3) := by decide +kernel
theorem dX3_submit_54 : decode cX3_submit 54 = .ok (.dup, 1) := by decide +kernel
theorem dX3_submit_55 : decode cX3_submit 55 = .ok (.ldc 110, 2) := by decide +kernel
theorem dX3_submit_57 : decode cX3_submit 57 = .ok (.invokespecial 77, 3) := by decide +kernel
theorem dX3_submit_60 : decode cX3_submit 60 = .ok (.athrow, 1) := by decide +kernel
theorem dX3_submit_61 : decode cX3_submit 61 = .ok (.new 112, 3) := by decide +kernel
theorem dX3_submit_64 : decode cX3_submit 64 = .ok (.dup, 1) := by decide +kernel
theorem dX3_submit_65 : decode cX3_submit 65 = .ok (.aload_n 0, 1) := by decide +kernel
theorem dX3_submit_66 : decode cX3_submit 66 = .ok (.getfield 25, 3) := by decide +kernel
theorem dX3_submit_69 : decode cX3_submit 69 = .ok (.invokevirtual 65, 3) := by decide +kernel
theorem dX3_submit_72 : decode cX3_submit 72 = .ok (.aload 4, 2) := by decide +kernel
theorem dX3_submit_74 : decode cX3_submit 74 = .ok (.iload_n 2, 1) := by decide +kernel
theorem dX3_submit_75 : decode cX3_submit 75 = .ok (.iload_n 3, 1) := by decide +kernel
theorem dX3_submit_76 : decode cX3_submit 76 = .ok (.invokespecial 114, 3) := by decide +kernel
theorem dX3_submit_79 : decode cX3_submit 79 = .ok (.astore 5, 2) := by decide +kernel
theorem dX3_submit_81 : decode cX3_submit 81 = .ok (.aload_n 0, 1) := by decide +kernel
theorem dX3_submit_82 : decode cX3_submit 82 = .ok (.getfield 25, 3) := by decide +kernel
theorem dX3_submit_85 : decode cX3_submit 85 = .ok (.aload 5, 2) := by decide +kernel
theorem dX3_submit_87 : decode cX3_submit 87 = .ok (.invokevirtual 53, 3) := by decide +kernel
theorem dX3_submit_90 : decode cX3_submit 90 = .ok (.pop, 1) := by decide +kernel
theorem dX3_submit_91 : decode cX3_submit 91 = .ok (.aload_n 0, 1) := by decide +kernel
theorem dX3_submit_92 : decode cX3_submit 92 = .ok (.getfield 28, 3) := by decide +kernel
theorem dX3_submit_95 : decode cX3_submit 95 = .ok (.aload 5, 2) := by decide +kernel
theorem dX3_submit_97 : decode cX3_submit 97 = .ok (.invokevirtual 53, 3) := by decide +kernel
theorem dX3_submit_100 : decode cX3_submit 100 = .ok (.pop, 1) := by decide +kernel
theorem dX3_submit_101 : decode cX3_submit 101 = .ok (.aload 4, 2) := by decide +kernel
theorem dX3_submit_103 : decode cX3_submit 103 = .ok (.iconst 1, 1) := by decide +kernel
theorem dX3_submit_104 : decode cX3_submit 104 = .ok (.putfield 69, 3) := by decide +kernel
theorem dX3_submit_107 : decode cX3_submit 107 = .ok (.aload_n 0, 1) := by decide +kernel
theorem dX3_submit_108 : decode cX3_submit 108 = .ok (.invokevirtual 83, 3) := by decide +kernel
theorem dX3_submit_111 : decode cX3_submit 111 = .ok (.aload 5, 2) := by decide +kernel
theorem dX3_submit_113 : decode cX3_submit 113 = .ok (.getfield 117, 3) := by decide +kernel
theorem dX3_submit_116 : decode cX3_submit 116 = .ok (.ireturn, 1) := by decide +kernel
theorem dX3_cancel_0 : decode cX3_cancel 0 = .ok (.aload_n 0, 1) := by decide +kernel
theorem dX3_cancel_1 : decode cX3_cancel 1 = .ok (.iload_n 1, 1) := by decide +kernel
theorem dX3_cancel_2 : decode cX3_cancel 2 = .ok (.invokevirtual 118, 3) := by decide +kernel
theorem dX3_cancel_5 : decode cX3_cancel 5 = .ok (.astore_n 2, 1) := by decide +kernel
theorem dX3_cancel_6 : decode cX3_cancel 6 = .ok (.iconst 0, 1) := by decide +kernel
theorem dX3_cancel_7 : decode cX3_cancel 7 = .ok (.istore_n 3, 1) := by decide +kernel
theorem dX3_cancel_8 : decode cX3_cancel 8 = .ok (.aload_n 2, 1) := by decide +kernel
theorem dX3_cancel_9 : decode cX3_cancel 9 = .ok (.getfield 122, 3) := by decide +kernel
theorem dX3_cancel_12 : decode cX3_cancel 12 = .ok (.bipush 114, 2) := by decide +kernel
theorem dX3_cancel_14 : decode cX3_cancel 14 = .ok (.if_icmp .ne 12, 3) := by decide +kernel
theorem dX3_cancel_17 : decode cX3_cancel 17 = .ok (.aload_n 2, 1) := by decide +kernel
theorem dX3_cancel_18 : decode cX3_cancel 18 = .ok (.getfield 126, 3) := by decide +kernel
theorem dX3_cancel_21 : decode cX3_cancel 21 = .ok (.istore_n 3, 1) := by decide +kernel
theorem dX3_cancel_22 : decode cX3_cancel 22 = .ok (.aload_n 2, 1) := by decide +kernel
theorem dX3_cancel_23 : decode cX3_cancel 23 = .ok (.invokevirtual 128, 3) := by decide +kernel
theorem dX3_cancel_26 : decode cX3_cancel 26 = .ok (.aload_n 2, 1) := by decide +kernel
theorem dX3_cancel_27 : decode cX3_cancel 27 = .ok (.bipush 99, 2) := by decide +kernel
theorem dX3_cancel_29 : decode cX3_cancel 29 = .ok (.putfield 122, 3) := by decide +kernel
theorem dX3_cancel_32 : decode cX3_cancel 32 = .ok (.aload_n 0, 1) := by decide +kernel
theorem dX3_cancel_33 : decode cX3_cancel 33 = .ok (.invokevirtual 131, 3) := by decide +kernel
theorem dX3_cancel_36 : decode cX3_cancel 36 = .ok (.aload_n 0, 1) := by decide +kernel
theorem dX3_cancel_37 : decode cX3_cancel 37 = .ok (.invokevirtual 83, 3) := by decide +kernel
theorem dX3_cancel_40 : decode cX3_cancel 40 = .ok (.iload_n 3, 1) := by decide +kernel
theorem dX3_cancel_41 : decode cX3_cancel 41 = .ok (.ireturn, 1) := by decide +kernel
theorem dX3_pass_0 : decode cX3_pass 0 = .ok (.iload_n 1, 1) := by decide +kernel
theorem dX3_pass_1 : decode cX3_pass 1 = .ok (.iconst 1, 1) := by decide +kernel
theorem dX3_pass_2 : decode cX3_pass 2 = .ok (.bipush 20, 2) := by decide +kernel
theorem dX3_pass_4 : decode cX3_pass 4 = .ok (.invokestatic 61, 3) := by decide +kernel
theorem dX3_pass_7 : decode cX3_pass 7 = .ok (.iconst 0, 1) := by decide +kernel
theorem dX3_pass_8 : decode cX3_pass 8 = .ok (.istore_n 2, 1) := by decide +kernel
theorem dX3_pass_9 : decode cX3_pass 9 = .ok (.iconst 0, 1) := by decide +kernel
theorem dX3_pass_10 : decode cX3_pass 10 = .ok (.istore_n 3, 1) := by decide +kernel
theorem dX3_pass_11 : decode cX3_pass 11 = .ok (.iload_n 3, 1) := by decide +kernel
theorem dX3_pass_12 : decode cX3_pass 12 = .ok (.iload_n 1, 1) := by decide +kernel
theorem dX3_pass_13 : decode cX3_pass 13 = .ok (.if_icmp .ge 34, 3) := by decide +kernel
theorem dX3_pass_16 : decode cX3_pass 16 = .ok (.aload_n 0, 1) := by decide +kernel
theorem dX3_pass_17 : decode cX3_pass 17 = .ok (.dup, 1) := by decide +kernel
theorem dX3_pass_18 : decode cX3_pass 18 = .ok (.getfield 47, 3) := by decide +kernel
theorem dX3_pass_21 : decode cX3_pass 21 = .ok (.iconst 1, 1) := by decide +kernel
theorem dX3_pass_22 : decode cX3_pass 22 = .ok (.iadd, 1) := by decide +kernel
theorem dX3_pass_23 : decode cX3_pass 23 = .ok (.putfield 47, 3) := by decide +kernel
theorem dX3_pass_26 : decode cX3_pass 26 = .ok (.iload_n 2, 1) := by decide +kernel
theorem dX3_pass_27 : decode cX3_pass 27 = .ok (.aload_n 0, 1) := by decide +kernel
theorem dX3_pass_28 : decode cX3_pass 28 = .ok (.invokevirtual 134, 3) := by decide +kernel
theorem dX3_pass_31 : decode cX3_pass 31 = .ok (.iadd, 1) := by decide +kernel
theorem dX3_pass_32 : decode cX3_pass 32 = .ok (.istore_n 2, 1) := by decide +kernel
theorem dX3_pass_33 : decode cX3_pass 33 = .ok (.aload_n 0, 1) := by decide +kernel
theorem dX3_pass_34 : decode cX3_pass 34 = .ok (.invokevirtual 137, 3) := by decide +kernel
theorem dX3_pass_37 : decode cX3_pass 37 = .ok (.aload_n 0, 1) := by decide +kernel
theorem dX3_pass_38 : decode cX3_pass 38 = .ok (.invokevirtual 83, 3) := by decide +kernel
theorem dX3_pass_41 : decode cX3_pass 41 = .ok (.iinc 3 1, 3) := by decide +kernel
theorem dX3_pass_44 : decode cX3_pass 44 = .ok (.goto (-33), 3) := by decide +kernel
theorem dX3_pass_47 : decode cX3_pass 47 = .ok (.iload_n 2, 1) := by decide +kernel
theorem dX3_pass_48 : decode cX3_pass 48 = .ok (.ireturn, 1) := by decide +kernel
theorem dX3_tick_0 : decode cX3_tick 0 = .ok (.aload_n 0, 1) := by decide +kernel
theorem dX3_tick_1 : decode cX3_tick 1 = .ok (.getfield 47, 3) := by decide +kernel
theorem dX3_tick_4 : decode cX3_tick 4 = .ok (.ireturn, 1) := by decide +kernel
theorem dX3_jobs_0 : decode cX3_jobs 0 = .ok (.aload_n 0, 1) := by decide +kernel
theorem dX3_jobs_1 : decode cX3_jobs 1 = .ok (.getfield 25, 3) := by decide +kernel
theorem dX3_jobs_4 : decode cX3_jobs 4 = .ok (.invokevirtual 65, 3) := by decide +kernel
theorem dX3_jobs_7 : decode cX3_jobs 7 = .ok (.ireturn, 1) := by decide +kernel
theorem dX3_stateOf_0 : decode cX3_stateOf 0 = .ok (.aload_n 0, 1) := by decide +kernel
theorem dX3_stateOf_1 : decode cX3_stateOf 1 = .ok (.iload_n 1, 1) := by decide +kernel
theorem dX3_stateOf_2 : decode cX3_stateOf 2 = .ok (.invokevirtual 140, 3) := by decide +kernel
theorem dX3_stateOf_5 : decode cX3_stateOf 5 = .ok (.getfield 122, 3) := by decide +kernel
theorem dX3_stateOf_8 : decode cX3_stateOf 8 = .ok (.ireturn, 1) := by decide +kernel
theorem dX3_toGo_0 : decode cX3_toGo 0 = .ok (.aload_n 0, 1) := by decide +kernel
theorem dX3_toGo_1 : decode cX3_toGo 1 = .ok (.iload_n 1, 1) := by decide +kernel
theorem dX3_toGo_2 : decode cX3_toGo 2 = .ok (.invokevirtual 118, 3) := by decide +kernel
theorem dX3_toGo_5 : decode cX3_toGo 5 = .ok (.astore_n 2, 1) := by decide +kernel
theorem dX3_toGo_6 : decode cX3_toGo 6 = .ok (.aload_n 2, 1) := by decide +kernel
theorem dX3_toGo_7 : decode cX3_toGo 7 = .ok (.getfield 122, 3) := by decide +kernel
theorem dX3_toGo_10 : decode cX3_toGo 10 = .ok (.bipush 114, 2) := by decide +kernel
theorem dX3_toGo_12 : decode cX3_toGo 12 = .ok (.if_icmp .ne 10, 3) := by decide +kernel
theorem dX3_toGo_15 : decode cX3_toGo 15 = .ok (.aload_n 2, 1) := by decide +kernel
theorem dX3_toGo_16 : decode cX3_toGo 16 = .ok (.getfield 143, 3) := by decide +kernel
theorem dX3_toGo_19 : decode cX3_toGo 19 = .ok (.goto 7, 3) := by decide +kernel
theorem dX3_toGo_22 : decode cX3_toGo 22 = .ok (.aload_n 2, 1) := by decide +kernel
theorem dX3_toGo_23 : decode cX3_toGo 23 = .ok (.getfield 146, 3) := by decide +kernel
theorem dX3_toGo_26 : decode cX3_toGo 26 = .ok (.ireturn, 1) := by decide +kernel
theorem dX3_stops_0 : decode cX3_stops 0 = .ok (.aload_n 0, 1) := by decide +kernel
theorem dX3_stops_1 : decode cX3_stops 1 = .ok (.iload_n 1, 1) := by decide +kernel
theorem dX3_stops_2 : decode cX3_stops 2 = .ok (.invokevirtual 140, 3) := by decide +kernel
theorem dX3_stops_5 : decode cX3_stops 5 = .ok (.getfield 149, 3) := by decide +kernel
theorem dX3_stops_8 : decode cX3_stops 8 = .ok (.ireturn, 1) := by decide +kernel
theorem dX3_firstOf_0 : decode cX3_firstOf 0 = .ok (.aload_n 0, 1) := by decide +kernel
theorem dX3_firstOf_1 : decode cX3_firstOf 1 = .ok (.aload_n 0, 1) := by decide +kernel
theorem dX3_firstOf_2 : decode cX3_firstOf 2 = .ok (.iload_n 1, 1) := by decide +kernel
theorem dX3_firstOf_3 : decode cX3_firstOf 3 = .ok (.invokevirtual 152, 3) := by decide +kernel
theorem dX3_firstOf_6 : decode cX3_firstOf 6 = .ok (.invokevirtual 155, 3) := by decide +kernel
theorem dX3_firstOf_9 : decode cX3_firstOf 9 = .ok (.astore_n 2, 1) := by decide +kernel
theorem dX3_firstOf_10 : decode cX3_firstOf 10 = .ok (.aload_n 2, 1) := by decide +kernel
theorem dX3_firstOf_11 : decode cX3_firstOf 11 = .ok (.ifnonnull 13, 3) := by decide +kernel
theorem dX3_firstOf_14 : decode cX3_firstOf 14 = .ok (.new 159, 3) := by decide +kernel
theorem dX3_firstOf_17 : decode cX3_firstOf 17 = .ok (.dup, 1) := by decide +kernel
theorem dX3_firstOf_18 : decode cX3_firstOf 18 = .ok (.ldc 161, 2) := by decide +kernel
theorem dX3_firstOf_20 : decode cX3_firstOf 20 = .ok (.invokespecial 163, 3) := by decide +kernel
theorem dX3_firstOf_23 : decode cX3_firstOf 23 = .ok (.athrow, 1) := by decide +kernel
theorem dX3_firstOf_24 : decode cX3_firstOf 24 = .ok (.aload_n 2, 1) := by decide +kernel
theorem dX3_firstOf_25 : decode cX3_firstOf 25 = .ok (.getfield 117, 3) := by decide +kernel
theorem dX3_firstOf_28 : decode cX3_firstOf 28 = .ok (.ireturn, 1) := by decide +kernel
theorem dX3_inLine_0 : decode cX3_inLine 0 = .ok (.aload_n 0, 1) := by decide +kernel
theorem dX3_inLine_1 : decode cX3_inLine 1 = .ok (.invokevirtual 164, 3) := by decide +kernel
theorem dX3_inLine_4 : decode cX3_inLine 4 = .ok (.iload_n 1, 1) := by decide +kernel
theorem dX3_inLine_5 : decode cX3_inLine 5 = .ok (.ifCond .lt 14, 3) := by decide +kernel
theorem dX3_inLine_8 : decode cX3_inLine 8 = .ok (.iload_n 1, 1) := by decide +kernel
theorem dX3_inLine_9 : decode cX3_inLine 9 = .ok (.aload_n 0, 1) := by decide +kernel
theorem dX3_inLine_10 : decode cX3_inLine 10 = .ok (.getfield 34, 3) := by decide +kernel
theorem dX3_inLine_13 : decode cX3_inLine 13 = .ok (.invokevirtual 65, 3) := by decide +kernel
theorem dX3_inLine_16 : decode cX3_inLine 16 = .ok (.if_icmp .lt 13, 3) := by decide +kernel
theorem dX3_inLine_19 : decode cX3_inLine 19 = .ok (.new 159, 3) := by decide +kernel
theorem dX3_inLine_22 : decode cX3_inLine 22 = .ok (.dup, 1) := by decide +kernel
theorem dX3_inLine_23 : decode cX3_inLine 23 = .ok (.ldc 167, 2) := by decide +kernel
theorem dX3_inLine_25 : decode cX3_inLine 25 = .ok (.invokespecial 163, 3) := by decide +kernel
theorem dX3_inLine_28 : decode cX3_inLine 28 = .ok (.athrow, 1) := by decide +kernel
theorem dX3_inLine_29 : decode cX3_inLine 29 = .ok (.aload_n 0, 1) := by decide +kernel
theorem dX3_inLine_30 : decode cX3_inLine 30 = .ok (.getfield 34, 3) := by decide +kernel
theorem dX3_inLine_33 : decode cX3_inLine 33 = .ok (.iload_n 1, 1) := by decide +kernel
theorem dX3_inLine_34 : decode cX3_inLine 34 = .ok (.invokevirtual 169, 3) := by decide +kernel
theorem dX3_inLine_37 : decode cX3_inLine 37 = .ok (.checkcast 112, 3) := by decide +kernel
theorem dX3_inLine_40 : decode cX3_inLine 40 = .ok (.getfield 173, 3) := by decide +kernel
theorem dX3_inLine_43 : decode cX3_inLine 43 = .ok (.getfield 86, 3) := by decide +kernel
theorem dX3_inLine_46 : decode cX3_inLine 46 = .ok (.ireturn, 1) := by decide +kernel
theorem dX3_reserve_0 : decode cX3_reserve 0 = .ok (.aload_n 0, 1) := by decide +kernel
theorem dX3_reserve_1 : decode cX3_reserve 1 = .ok (.iload_n 1, 1) := by decide +kernel
theorem dX3_reserve_2 : decode cX3_reserve 2 = .ok (.invokevirtual 57, 3) := by decide +kernel
theorem dX3_reserve_5 : decode cX3_reserve 5 = .ok (.astore 5, 2) := by decide +kernel
theorem dX3_reserve_7 : decode cX3_reserve 7 = .ok (.iload_n 2, 1) := by decide +kernel
theorem dX3_reserve_8 : decode cX3_reserve 8 = .ok (.iconst 1, 1) := by decide +kernel
theorem dX3_reserve_9 : decode cX3_reserve 9 = .ok (.bipush 60, 2) := by decide +kernel
theorem dX3_reserve_11 : decode cX3_reserve 11 = .ok (.invokestatic 61, 3) := by decide +kernel
theorem dX3_reserve_14 : decode cX3_reserve 14 = .ok (.iload_n 3, 1) := by decide +kernel
theorem dX3_reserve_15 : decode cX3_reserve 15 = .ok (.iconst 0, 1) := by decide +kernel
theorem dX3_reserve_16 : decode cX3_reserve 16 = .ok (.sipush 9999, 3) := by decide +kernel
theorem dX3_reserve_19 : decode cX3_reserve 19 = .ok (.invokestatic 61, 3) := by decide +kernel
theorem dX3_reserve_22 : decode cX3_reserve 22 = .ok (.iload 4, 2) := by decide +kernel
theorem dX3_reserve_24 : decode cX3_reserve 24 = .ok (.iload_n 3, 1) := by decide +kernel
theorem dX3_reserve_25 : decode cX3_reserve 25 = .ok (.iconst 1, 1) := by decide +kernel
theorem dX3_reserve_26 : decode cX3_reserve 26 = .ok (.iadd, 1) := by decide +kernel
theorem dX3_reserve_27 : decode cX3_reserve 27 = .ok (.sipush 9999, 3) := by decide +kernel
theorem dX3_reserve_30 : decode cX3_reserve 30 = .ok (.invokestatic 61, 3) := by decide +kernel
theorem dX3_reserve_33 : decode cX3_reserve 33 = .ok (.aload_n 0, 1) := by decide +kernel
theorem dX3_reserve_34 : decode cX3_reserve 34 = .ok (.iload_n 1, 1) := by decide +kernel
theorem dX3_reserve_35 : decode cX3_reserve 35 = .ok (.iload_n 3, 1) := by decide +kernel
theorem dX3_reserve_36 : decode cX3_reserve 36 = .ok (.iload 4, 2) := by decide +kernel
theorem dX3_reserve_38 : decode cX3_reserve 38 = .ok (.invokevirtual 176, 3) := by decide +kernel
theorem dX3_reserve_41 : decode cX3_reserve 41 = .ok (.astore 6, 2) := by decide +kernel
theorem dX3_reserve_43 : decode cX3_reserve 43 = .ok (.aload 6, 2) := by decide +kernel
theorem dX3_reserve_45 : decode cX3_reserve 45 = .ok (.ifnull 17, 3) := by decide +kernel
theorem dX3_reserve_48 : decode cX3_reserve 48 = .ok (.aload 6, 2) := by decide +kernel
theorem dX3_reserve_50 : decode cX3_reserve 50 = .ok (.getfield 180, 3) := by decide +kernel
theorem dX3_reserve_53 : decode cX3_reserve 53 = .ok (.iload_n 2, 1) := by decide +kernel
theorem dX3_reserve_54 : decode cX3_reserve 54 = .ok (.iadd, 1) := by decide +kernel
theorem dX3_reserve_55 : decode cX3_reserve 55 = .ok (.iconst 1, 1) := by decide +kernel
theorem dX3_reserve_56 : decode cX3_reserve 56 = .ok (.sipush 200, 3) := by decide +kernel
theorem dX3_reserve_59 : decode cX3_reserve 59 = .ok (.invokestatic 61, 3) := by decide +kernel
theorem dX3_reserve_62 : decode cX3_reserve 62 = .ok (.aload 5, 2) := by decide +kernel
theorem dX3_reserve_64 : decode cX3_reserve 64 = .ok (.invokestatic 106, 3) := by decide +kernel
theorem dX3_reserve_67 : decode cX3_reserve 67 = .ok (.aload 6, 2) := by decide +kernel
theorem dX3_reserve_69 : decode cX3_reserve 69 = .ok (.ifnonnull 49, 3) := by decide +kernel
theorem dX3_reserve_72 : decode cX3_reserve 72 = .ok (.aload_n 0, 1) := by decide +kernel
theorem dX3_reserve_73 : decode cX3_reserve 73 = .ok (.getfield 31, 3) := by decide +kernel
theorem dX3_reserve_76 : decode cX3_reserve 76 = .ok (.invokevirtual 65, 3) := by decide +kernel
theorem dX3_reserve_79 : decode cX3_reserve 79 = .ok (.bipush 8, 2) := by decide +kernel
theorem dX3_reserve_81 : decode cX3_reserve 81 = .ok (.if_icmp .lt 13, 3) := by decide +kernel
theorem dX3_reserve_84 : decode cX3_reserve 84 = .ok (.new 73, 3) := by decide +kernel
theorem dX3_reserve_87 : decode cX3_reserve 87 = .ok (.dup, 1) := by decide +kernel
theorem dX3_reserve_88 : decode cX3_reserve 88 = .ok (.ldc 185, 2) := by decide +kernel
theorem dX3_reserve_90 : decode cX3_reserve 90 = .ok (.invokespecial 77, 3) := by decide +kernel
theorem dX3_reserve_93 : decode cX3_reserve 93 = .ok (.athrow, 1) := by decide +kernel
theorem dX3_reserve_94 : decode cX3_reserve 94 = .ok (.new 181, 3) := by decide +kernel
theorem dX3_reserve_97 : decode cX3_reserve 97 = .ok (.dup, 1) := by decide +kernel
theorem dX3_reserve_98 : decode cX3_reserve 98 = .ok (.aload 5, 2) := by decide +kernel
theorem dX3_reserve_100 : decode cX3_reserve 100 = .ok (.iload_n 3, 1) := by decide +kernel
theorem dX3_reserve_101 : decode cX3_reserve 101 = .ok (.iload 4, 2) := by decide +kernel
theorem dX3_reserve_103 : decode cX3_reserve 103 = .ok (.invokespecial 187, 3) := by decide +kernel
theorem dX3_reserve_106 : decode cX3_reserve 106 = .ok (.astore 6, 2) := by decide +kernel
theorem dX3_reserve_108 : decode cX3_reserve 108 = .ok (.aload_n 0, 1) := by decide +kernel
theorem dX3_reserve_109 : decode cX3_reserve 109 = .ok (.getfield 31, 3) := by decide +kernel
theorem dX3_reserve_112 : decode cX3_reserve 112 = .ok (.aload 6, 2) := by decide +kernel
theorem dX3_reserve_114 : decode cX3_reserve 114 = .ok (.invokevirtual 53, 3) := by decide +kernel
theorem dX3_reserve_117 : decode cX3_reserve 117 = .ok (.pop, 1) := by decide +kernel
theorem dX3_reserve_118 : decode cX3_reserve 118 = .ok (.aload 6, 2) := by decide +kernel
theorem dX3_reserve_120 : decode cX3_reserve 120 = .ok (.dup, 1) := by decide +kernel
theorem dX3_reserve_121 : decode cX3_reserve 121 = .ok (.getfield 180, 3) := by decide +kernel
theorem dX3_reserve_124 : decode cX3_reserve 124 = .ok (.iload_n 2, 1) := by decide +kernel
theorem dX3_reserve_125 : decode cX3_reserve 125 = .ok (.iadd, 1) := by decide +kernel
theorem dX3_reserve_126 : decode cX3_reserve 126 = .ok (.putfield 180, 3) := by decide +kernel
theorem dX3_reserve_129 : decode cX3_reserve 129 = .ok (.aload 5, 2) := by decide +kernel
theorem dX3_reserve_131 : decode cX3_reserve 131 = .ok (.iconst 1, 1) := by decide +kernel
theorem dX3_reserve_132 : decode cX3_reserve 132 = .ok (.putfield 69, 3) := by decide +kernel
theorem dX3_reserve_135 : decode cX3_reserve 135 = .ok (.aload_n 0, 1) := by decide +kernel
theorem dX3_reserve_136 : decode cX3_reserve 136 = .ok (.invokevirtual 83, 3) := by decide +kernel
theorem dX3_reserve_139 : decode cX3_reserve 139 = .ok (.aload 6, 2) := by decide +kernel
theorem dX3_reserve_141 : decode cX3_reserve 141 = .ok (.getfield 180, 3) := by decide +kernel
theorem dX3_reserve_144 : decode cX3_reserve 144 = .ok (.ireturn, 1) := by decide +kernel
theorem dX3_drop_0 : decode cX3_drop 0 = .ok (.aload_n 0, 1) := by decide +kernel
theorem dX3_drop_1 : decode cX3_drop 1 = .ok (.iload_n 1, 1) := by decide +kernel
theorem dX3_drop_2 : decode cX3_drop 2 = .ok (.iload_n 2, 1) := by decide +kernel
theorem dX3_drop_3 : decode cX3_drop 3 = .ok (.iload_n 3, 1) := by decide +kernel
theorem dX3_drop_4 : decode cX3_drop 4 = .ok (.invokevirtual 176, 3) := by decide +kernel
theorem dX3_drop_7 : decode cX3_drop 7 = .ok (.astore 4, 2) := by decide +kernel
theorem dX3_drop_9 : decode cX3_drop 9 = .ok (.aload 4, 2) := by decide +kernel
theorem dX3_drop_11 : decode cX3_drop 11 = .ok (.ifnonnull 13, 3) := by decide +kernel
theorem dX3_drop_14 : decode cX3_drop 14 = .ok (.new 159, 3) := by decide +kernel
theorem dX3_drop_17 : decode cX3_drop 17 = .ok (.dup, 1) := by decide +kernel
theorem dX3_drop_18 : decode cX3_drop 18 = .ok (.ldc 190, 2) := by decide +kernel
theorem dX3_drop_20 : decode cX3_drop 20 = .ok (.invokespecial 163, 3) := by decide +kernel
theorem dX3_drop_23 : decode cX3_drop 23 = .ok (.athrow, 1) := by decide +kernel
theorem dX3_drop_24 : decode cX3_drop 24 = .ok (.aload_n 0, 1) := by decide +kernel
theorem dX3_drop_25 : decode cX3_drop 25 = .ok (.aload 4, 2) := by decide +kernel
theorem dX3_drop_27 : decode cX3_drop 27 = .ok (.invokevirtual 192, 3) := by decide +kernel
theorem dX3_drop_30 : decode cX3_drop 30 = .ok (.aload_n 0, 1) := by decide +kernel
theorem dX3_drop_31 : decode cX3_drop 31 = .ok (.invokevirtual 83, 3) := by decide +kernel
theorem dX3_drop_34 : decode cX3_drop 34 = .ok (.aload 4, 2) := by decide +kernel
theorem dX3_drop_36 : decode cX3_drop 36 = .ok (.getfield 180, 3) := by decide +kernel
theorem dX3_drop_39 : decode cX3_drop 39 = .ok (.ireturn, 1) := by decide +kernel
theorem dX3_reserved_0 : decode cX3_reserved 0 = .ok (.aload_n 0, 1) := by decide +kernel
theorem dX3_reserved_1 : decode cX3_reserved 1 = .ok (.iload_n 1, 1) := by decide +kernel
theorem dX3_reserved_2 : decode cX3_reserved 2 = .ok (.invokevirtual 152, 3) := by decide +kernel
theorem dX3_reserved_5 : decode cX3_reserved 5 = .ok (.astore_n 2, 1) := by decide +kernel
theorem dX3_reserved_6 : decode cX3_reserved 6 = .ok (.aload_n 0, 1) := by decide +kernel
theorem dX3_reserved_7 : decode cX3_reserved 7 = .ok (.invokevirtual 196, 3) := by decide +kernel
theorem dX3_reserved_10 : decode cX3_reserved 10 = .ok (.aload_n 2, 1) := by decide +kernel
theorem dX3_reserved_11 : decode cX3_reserved 11 = .ok (.getfield 199, 3) := by decide +kernel
theorem dX3_reserved_14 : decode cX3_reserved 14 = .ok (.ireturn, 1) := by decide +kernel
theorem dX3_running_0 : decode cX3_running 0 = .ok (.aload_n 0, 1) := by decide +kernel
theorem dX3_running_1 : decode cX3_running 1 = .ok (.iload_n 1, 1) := by decide +kernel
theorem dX3_running_2 : decode cX3_running 2 = .ok (.invokevirtual 57, 3) := by decide +kernel
theorem dX3_running_5 : decode cX3_running 5 = .ok (.getfield 98, 3) := by decide +kernel
theorem dX3_running_8 : decode cX3_running 8 = .ok (.ireturn, 1) := by decide +kernel
theorem dX3_demand_0 : decode cX3_demand 0 = .ok (.aload_n 0, 1) := by decide +kernel
theorem dX3_demand_1 : decode cX3_demand 1 = .ok (.iload_n 1, 1) := by decide +kernel
theorem dX3_demand_2 : decode cX3_demand 2 = .ok (.invokevirtual 57, 3) := by decide +kernel
theorem dX3_demand_5 : decode cX3_demand 5 = .ok (.astore_n 2, 1) := by decide +kernel
theorem dX3_demand_6 : decode cX3_demand 6 = .ok (.aload_n 0, 1) := by decide +kernel
theorem dX3_demand_7 : decode cX3_demand 7 = .ok (.invokevirtual 202, 3) := by decide +kernel
theorem dX3_demand_10 : decode cX3_demand 10 = .ok (.aload_n 2, 1) := by decide +kernel
theorem dX3_demand_11 : decode cX3_demand 11 = .ok (.getfield 205, 3) := by decide +kernel
theorem dX3_demand_14 : decode cX3_demand 14 = .ok (.ireturn, 1) := by decide +kernel
theorem dX3_share_0 : decode cX3_share 0 = .ok (.aload_n 0, 1) := by decide +kernel
theorem dX3_share_1 : decode cX3_share 1 = .ok (.iload_n 1, 1) := by decide +kernel
theorem dX3_share_2 : decode cX3_share 2 = .ok (.invokevirtual 57, 3) := by decide +kernel
theorem dX3_share_5 : decode cX3_share 5 = .ok (.astore_n 2, 1) := by decide +kernel
theorem dX3_share_6 : decode cX3_share 6 = .ok (.aload_n 0, 1) := by decide +kernel
theorem dX3_share_7 : decode cX3_share 7 = .ok (.invokevirtual 202, 3) := by decide +kernel
theorem dX3_share_10 : decode cX3_share 10 = .ok (.aload_n 0, 1) := by decide +kernel
theorem dX3_share_11 : decode cX3_share 11 = .ok (.invokevirtual 208, 3) := by decide +kernel
theorem dX3_share_14 : decode cX3_share 14 = .ok (.aload_n 2, 1) := by decide +kernel
theorem dX3_share_15 : decode cX3_share 15 = .ok (.getfield 211, 3) := by decide +kernel
theorem dX3_share_18 : decode cX3_share 18 = .ok (.ireturn, 1) := by decide +kernel
theorem dX3_shareByLevels_0 : decode cX3_shareByLevels 0 = .ok (.aload_n 0, 1) := by decide +kernel
theorem dX3_shareByLevels_1 : decode cX3_shareByLevels 1 = .ok (.iload_n 1, 1) := by decide +kernel
theorem dX3_shareByLevels_2 : decode cX3_shareByLevels 2 = .ok (.invokevirtual 57, 3) := by decide +kernel
theorem dX3_shareByLevels_5 : decode cX3_shareByLevels 5 = .ok (.astore_n 2, 1) := by decide +kernel
theorem dX3_shareByLevels_6 : decode cX3_shareByLevels 6 = .ok (.aload_n 0, 1) := by decide +kernel
theorem dX3_shareByLevels_7 : decode cX3_shareByLevels 7 = .ok (.invokevirtual 202, 3) := by decide +kernel
theorem dX3_shareByLevels_10 : decode cX3_shareByLevels 10 = .ok (.aload_n 0, 1) := by decide +kernel
theorem dX3_shareByLevels_11 : decode cX3_shareByLevels 11 = .ok (.invokevirtual 214, 3) := by decide +kernel
theorem dX3_shareByLevels_14 : decode cX3_shareByLevels 14 = .ok (.aload_n 2, 1) := by decide +kernel
theorem dX3_shareByLevels_15 : decode cX3_shareByLevels 15 = .ok (.getfield 217, 3) := by decide +kernel
theorem dX3_shareByLevels_18 : decode cX3_shareByLevels 18 = .ok (.ireturn, 1) := by decide +kernel
theorem dX3_due_0 : decode cX3_due 0 = .ok (.aload_n 0, 1) := by decide +kernel
theorem dX3_due_1 : decode cX3_due 1 = .ok (.iload_n 1, 1) := by decide +kernel
theorem dX3_due_2 : decode cX3_due 2 = .ok (.invokevirtual 152, 3) := by decide +kernel
theorem dX3_due_5 : decode cX3_due 5 = .ok (.astore_n 2, 1) := by decide +kernel
theorem dX3_due_6 : decode cX3_due 6 = .ok (.aload_n 0, 1) := by decide +kernel
theorem dX3_due_7 : decode cX3_due 7 = .ok (.invokevirtual 220, 3) := by decide +kernel
theorem dX3_due_10 : decode cX3_due 10 = .ok (.aload_n 2, 1) := by decide +kernel
theorem dX3_due_11 : decode cX3_due 11 = .ok (.getfield 223, 3) := by decide +kernel
theorem dX3_due_14 : decode cX3_due 14 = .ok (.ireturn, 1) := by decide +kernel
theorem dX3_freeFor_0 : decode cX3_freeFor 0 = .ok (.aload_n 0, 1) := by decide +kernel
theorem dX3_freeFor_1 : decode cX3_freeFor 1 = .ok (.iload_n 1, 1) := by decide +kernel
theorem dX3_freeFor_2 : decode cX3_freeFor 2 = .ok (.invokevirtual 152, 3) := by decide +kernel
theorem dX3_freeFor_5 : decode cX3_freeFor 5 = .ok (.astore_n 2, 1) := by decide +kernel
theorem dX3_freeFor_6 : decode cX3_freeFor 6 = .ok (.aload_n 0, 1) := by decide +kernel
theorem dX3_freeFor_7 : decode cX3_freeFor 7 = .ok (.invokevirtual 196, 3) := by decide +kernel
theorem dX3_freeFor_10 : decode cX3_freeFor 10 = .ok (.aload_n 0, 1) := by decide +kernel
theorem dX3_freeFor_11 : decode cX3_freeFor 11 = .ok (.aload_n 2, 1) := by decide +kernel
theorem dX3_freeFor_12 : decode cX3_freeFor 12 = .ok (.invokevirtual 226, 3) := by decide +kernel
theorem dX3_freeFor_15 : decode cX3_freeFor 15 = .ok (.ireturn, 1) := by decide +kernel
theorem dX3_use_0 : decode cX3_use 0 = .ok (.aload_n 0, 1) := by decide +kernel
theorem dX3_use_1 : decode cX3_use 1 = .ok (.iload_n 1, 1) := by decide +kernel
theorem dX3_use_2 : decode cX3_use 2 = .ok (.invokevirtual 152, 3) := by decide +kernel
theorem dX3_use_5 : decode cX3_use 5 = .ok (.getfield 230, 3) := by decide +kernel
theorem dX3_use_8 : decode cX3_use 8 = .ok (.lreturn, 1) := by decide +kernel
theorem dX3_usedShare_0 : decode cX3_usedShare 0 = .ok (.aload_n 0, 1) := by decide +kernel
theorem dX3_usedShare_1 : decode cX3_usedShare 1 = .ok (.getfield 40, 3) := by decide +kernel
theorem dX3_usedShare_4 : decode cX3_usedShare 4 = .ok (.ifCond .ne 13, 3) := by decide +kernel
theorem dX3_usedShare_7 : decode cX3_usedShare 7 = .ok (.new 234, 3) := by decide +kernel
theorem dX3_usedShare_10 : decode cX3_usedShare 10 = .ok (.dup, 1) := by decide +kernel
theorem dX3_usedShare_11 : decode cX3_usedShare 11 = .ok (.ldc 236, 2) := by decide +kernel
theorem dX3_usedShare_13 : decode cX3_usedShare 13 = .ok (.invokespecial 238, 3) := by decide +kernel
theorem dX3_usedShare_16 : decode cX3_usedShare 16 = .ok (.athrow, 1) := by decide +kernel
theorem dX3_usedShare_17 : decode cX3_usedShare 17 = .ok (.aload_n 0, 1) := by decide +kernel
theorem dX3_usedShare_18 : decode cX3_usedShare 18 = .ok (.getfield 21, 3) := by decide +kernel
theorem dX3_usedShare_21 : decode cX3_usedShare 21 = .ok (.getfield 98, 3) := by decide +kernel
theorem dX3_usedShare_24 : decode cX3_usedShare 24 = .ok (.i2f, 1) := by decide +kernel
theorem dX3_usedShare_25 : decode cX3_usedShare 25 = .ok (.aload_n 0, 1) := by decide +kernel
theorem dX3_usedShare_26 : decode cX3_usedShare 26 = .ok (.getfield 40, 3) := by decide +kernel
theorem dX3_usedShare_29 : decode cX3_usedShare 29 = .ok (.i2f, 1) := by decide +kernel
theorem dX3_usedShare_30 : decode cX3_usedShare 30 = .ok (.fdiv, 1) := by decide +kernel
theorem dX3_usedShare_31 : decode cX3_usedShare 31 = .ok (.freturn, 1) := by decide +kernel
theorem dX3_meanStops_0 : decode cX3_meanStops 0 = .ok (.iconst 0, 1) := by decide +kernel
theorem dX3_meanStops_1 : decode cX3_meanStops 1 = .ok (.istore_n 1, 1) := by decide +kernel
theorem dX3_meanStops_2 : decode cX3_meanStops 2 = .ok (.iconst 0, 1) := by decide +kernel
theorem dX3_meanStops_3 : decode cX3_meanStops 3 = .ok (.istore_n 2, 1) := by decide +kernel
theorem dX3_meanStops_4 : decode cX3_meanStops 4 = .ok (.iconst 0, 1) := by decide +kernel
theorem dX3_meanStops_5 : decode cX3_meanStops 5 = .ok (.istore_n 3, 1) := by decide +kernel
theorem dX3_meanStops_6 : decode cX3_meanStops 6 = .ok (.iload_n 3, 1) := by decide +kernel
theorem dX3_meanStops_7 : decode cX3_meanStops 7 = .ok (.aload_n 0, 1) := by decide +kernel
theorem dX3_meanStops_8 : decode cX3_meanStops 8 = .ok (.getfield 25, 3) := by decide +kernel
theorem dX3_meanStops_11 : decode cX3_meanStops 11 = .ok (.invokevirtual 65, 3) := by decide +kernel
theorem dX3_meanStops_14 : decode cX3_meanStops 14 = .ok (.if_icmp .ge 43, 3) := by decide +kernel
theorem dX3_meanStops_17 : decode cX3_meanStops 17 = .ok (.aload_n 0, 1) := by decide +kernel
theorem dX3_meanStops_18 : decode cX3_meanStops 18 = .ok (.getfield 25, 3) := by decide +kernel
theorem dX3_meanStops_21 : decode cX3_meanStops 21 = .ok (.iload_n 3, 1) := by decide +kernel
theorem dX3_meanStops_22 : decode cX3_meanStops 22 = .ok (.invokevirtual 169, 3) := by decide +kernel
theorem dX3_meanStops_25 : decode cX3_meanStops 25 = .ok (.checkcast 112, 3) := by decide +kernel
theorem dX3_meanStops_28 : decode cX3_meanStops 28 = .ok (.astore 4, 2) := by decide +kernel
theorem dX3_meanStops_30 : decode cX3_meanStops 30 = .ok (.aload 4, 2) := by decide +kernel
theorem dX3_meanStops_32 : decode cX3_meanStops 32 = .ok (.getfield 122, 3) := by decide +kernel
theorem dX3_meanStops_35 : decode cX3_meanStops 35 = .ok (.bipush 101, 2) := by decide +kernel
theorem dX3_meanStops_37 : decode cX3_meanStops 37 = .ok (.if_icmp .ne 14, 3) := by decide +kernel
theorem dX3_meanStops_40 : decode cX3_meanStops 40 = .ok (.iinc 1 1, 3) := by decide +kernel
theorem dX3_meanStops_43 : decode cX3_meanStops 43 = .ok (.iload_n 2, 1) := by decide +kernel
theorem dX3_meanStops_44 : decode cX3_meanStops 44 = .ok (.aload 4, 2) := by decide +kernel
theorem dX3_meanStops_46 : decode cX3_meanStops 46 = .ok (.getfield 149, 3) := by decide +kernel
theorem dX3_meanStops_49 : decode cX3_meanStops 49 = .ok (.iadd, 1) := by decide +kernel
theorem dX3_meanStops_50 : decode cX3_meanStops 50 = .ok (.istore_n 2, 1) := by decide +kernel
theorem dX3_meanStops_51 : decode cX3_meanStops 51 = .ok (.iinc 3 1, 3) := by decide +kernel
theorem dX3_meanStops_54 : decode cX3_meanStops 54 = .ok (.goto (-48), 3) := by decide +kernel
theorem dX3_meanStops_57 : decode cX3_meanStops 57 = .ok (.iload_n 1, 1) := by decide +kernel
theorem dX3_meanStops_58 : decode cX3_meanStops 58 = .ok (.ifCond .ne 13, 3) := by decide +kernel
theorem dX3_meanStops_61 : decode cX3_meanStops 61 = .ok (.new 234, 3) := by decide +kernel
theorem dX3_meanStops_64 : decode cX3_meanStops 64 = .ok (.dup, 1) := by decide +kernel
theorem dX3_meanStops_65 : decode cX3_meanStops 65 = .ok (.ldc 239, 2) := by decide +kernel
theorem dX3_meanStops_67 : decode cX3_meanStops 67 = .ok (.invokespecial 238, 3) := by decide +kernel
theorem dX3_meanStops_70 : decode cX3_meanStops 70 = .ok (.athrow, 1) := by decide +kernel
theorem dX3_meanStops_71 : decode cX3_meanStops 71 = .ok (.iload_n 2, 1) := by decide +kernel
theorem dX3_meanStops_72 : decode cX3_meanStops 72 = .ok (.i2d, 1) := by decide +kernel
theorem dX3_meanStops_73 : decode cX3_meanStops 73 = .ok (.iload_n 1, 1) := by decide +kernel
theorem dX3_meanStops_74 : decode cX3_meanStops 74 = .ok (.i2d, 1) := by decide +kernel
theorem dX3_meanStops_75 : decode cX3_meanStops 75 = .ok (.ddiv, 1) := by decide +kernel
theorem dX3_meanStops_76 : decode cX3_meanStops 76 = .ok (.dreturn, 1) := by decide +kernel
theorem dX3_isFair_0 : decode cX3_isFair 0 = .ok (.aload_n 0, 1) := by decide +kernel
theorem dX3_isFair_1 : decode cX3_isFair 1 = .ok (.invokevirtual 220, 3) := by decide +kernel
theorem dX3_isFair_4 : decode cX3_isFair 4 = .ok (.aload_n 0, 1) := by decide +kernel
theorem dX3_isFair_5 : decode cX3_isFair 5 = .ok (.invokevirtual 214, 3) := by decide +kernel
theorem dX3_isFair_8 : decode cX3_isFair 8 = .ok (.aload_n 0, 1) := by decide +kernel
theorem dX3_isFair_9 : decode cX3_isFair 9 = .ok (.getfield 21, 3) := by decide +kernel
theorem dX3_isFair_12 : decode cX3_isFair 12 = .ok (.getfield 98, 3) := by decide +kernel
theorem dX3_isFair_15 : decode cX3_isFair 15 = .ok (.aload_n 0, 1) := by decide +kernel
theorem dX3_isFair_16 : decode cX3_isFair 16 = .ok (.getfield 40, 3) := by decide +kernel
theorem dX3_isFair_19 : decode cX3_isFair 19 = .ok (.if_icmp .gt 21, 3) := by decide +kernel
theorem dX3_isFair_22 : decode cX3_isFair 22 = .ok (.aload_n 0, 1) := by decide +kernel
theorem dX3_isFair_23 : decode cX3_isFair 23 = .ok (.invokevirtual 241, 3) := by decide +kernel
theorem dX3_isFair_26 : decode cX3_isFair 26 = .ok (.ifCond .eq 14, 3) := by decide +kernel
theorem dX3_isFair_29 : decode cX3_isFair 29 = .ok (.aload_n 0, 1) := by decide +kernel
theorem dX3_isFair_30 : decode cX3_isFair 30 = .ok (.invokevirtual 245, 3) := by decide +kernel
theorem dX3_isFair_33 : decode cX3_isFair 33 = .ok (.ifCond .ne 7, 3) := by decide +kernel
theorem dX3_isFair_36 : decode cX3_isFair 36 = .ok (.iconst 1, 1) := by decide +kernel
theorem dX3_isFair_37 : decode cX3_isFair 37 = .ok (.goto 4, 3) := by decide +kernel
theorem dX3_isFair_40 : decode cX3_isFair 40 = .ok (.iconst 0, 1) := by decide +kernel
theorem dX3_isFair_41 : decode cX3_isFair 41 = .ok (.ireturn, 1) := by decide +kernel
theorem dX3_teamAt_0 : decode cX3_teamAt 0 = .ok (.iload_n 1, 1) := by decide +kernel
theorem dX3_teamAt_1 : decode cX3_teamAt 1 = .ok (.ifCond .lt 14, 3) := by decide +kernel
theorem dX3_teamAt_4 : decode cX3_teamAt 4 = .ok (.iload_n 1, 1) := by decide +kernel
theorem dX3_teamAt_5 : decode cX3_teamAt 5 = .ok (.aload_n 0, 1) := by decide +kernel
theorem dX3_teamAt_6 : decode cX3_teamAt 6 = .ok (.getfield 10, 3) := by decide +kernel
theorem dX3_teamAt_9 : decode cX3_teamAt 9 = .ok (.invokevirtual 65, 3) := by decide +kernel
theorem dX3_teamAt_12 : decode cX3_teamAt 12 = .ok (.if_icmp .lt 13, 3) := by decide +kernel
theorem dX3_teamAt_15 : decode cX3_teamAt 15 = .ok (.new 248, 3) := by decide +kernel
theorem dX3_teamAt_18 : decode cX3_teamAt 18 = .ok (.dup, 1) := by decide +kernel
theorem dX3_teamAt_19 : decode cX3_teamAt 19 = .ok (.ldc 250, 2) := by decide +kernel
theorem dX3_teamAt_21 : decode cX3_teamAt 21 = .ok (.invokespecial 252, 3) := by decide +kernel
theorem dX3_teamAt_24 : decode cX3_teamAt 24 = .ok (.athrow, 1) := by decide +kernel
theorem dX3_teamAt_25 : decode cX3_teamAt 25 = .ok (.aload_n 0, 1) := by decide +kernel
theorem dX3_teamAt_26 : decode cX3_teamAt 26 = .ok (.getfield 10, 3) := by decide +kernel
theorem dX3_teamAt_29 : decode cX3_teamAt 29 = .ok (.iload_n 1, 1) := by decide +kernel
theorem dX3_teamAt_30 : decode cX3_teamAt 30 = .ok (.invokevirtual 169, 3) := by decide +kernel
theorem dX3_teamAt_33 : decode cX3_teamAt 33 = .ok (.checkcast 16, 3) := by decide +kernel
theorem dX3_teamAt_36 : decode cX3_teamAt 36 = .ok (.areturn, 1) := by decide +kernel
theorem dX3_teamBelowRoot_0 : decode cX3_teamBelowRoot 0 = .ok (.aload_n 0, 1) := by decide +kernel
theorem dX3_teamBelowRoot_1 : decode cX3_teamBelowRoot 1 = .ok (.iload_n 1, 1) := by decide +kernel
theorem dX3_teamBelowRoot_2 : decode cX3_teamBelowRoot 2 = .ok (.invokevirtual 57, 3) := by decide +kernel
theorem dX3_teamBelowRoot_5 : decode cX3_teamBelowRoot 5 = .ok (.astore_n 2, 1) := by decide +kernel
theorem dX3_teamBelowRoot_6 : decode cX3_teamBelowRoot 6 = .ok (.aload_n 2, 1) := by decide +kernel
theorem dX3_teamBelowRoot_7 : decode cX3_teamBelowRoot 7 = .ok (.aload_n 0, 1) := by decide +kernel
theorem dX3_teamBelowRoot_8 : decode cX3_teamBelowRoot 8 = .ok (.getfield 21, 3) := by decide +kernel
theorem dX3_teamBelowRoot_11 : decode cX3_teamBelowRoot 11 = .ok (.if_acmp .ne 13, 3) := by decide +kernel
theorem dX3_teamBelowRoot_14 : decode cX3_teamBelowRoot 14 = .ok (.new 253, 3) := by decide +kernel
theorem dX3_teamBelowRoot_17 : decode cX3_teamBelowRoot 17 = .ok (.dup, 1) := by decide +kernel
theorem dX3_teamBelowRoot_18 : decode cX3_teamBelowRoot 18 = .ok (.ldc 255, 2) := by decide +kernel
theorem dX3_teamBelowRoot_20 : decode cX3_teamBelowRoot 20 = .ok (.invokespecial 257, 3) := by decide +kernel
theorem dX3_teamBelowRoot_23 : decode cX3_teamBelowRoot 23 = .ok (.athrow, 1) := by decide +kernel
theorem dX3_teamBelowRoot_24 : decode cX3_teamBelowRoot 24 = .ok (.aload_n 2, 1) := by decide +kernel
theorem dX3_teamBelowRoot_25 : decode cX3_teamBelowRoot 25 = .ok (.areturn, 1) := by decide +kernel
theorem dX3_leafAt_0 : decode cX3_leafAt 0 = .ok (.aload_n 0, 1) := by decide +kernel
theorem dX3_leafAt_1 : decode cX3_leafAt 1 = .ok (.iload_n 1, 1) := by decide +kernel
theorem dX3_leafAt_2 : decode cX3_leafAt 2 = .ok (.invokevirtual 57, 3) := by decide +kernel
theorem dX3_leafAt_5 : decode cX3_leafAt 5 = .ok (.astore_n 2, 1) := by decide +kernel
theorem dX3_leafAt_6 : decode cX3_leafAt 6 = .ok (.aload_n 2, 1) := by decide +kernel
theorem dX3_leafAt_7 : decode cX3_leafAt 7 = .ok (.invokestatic 106, 3) := by decide +kernel
theorem dX3_leafAt_10 : decode cX3_leafAt 10 = .ok (.aload_n 2, 1) := by decide +kernel
theorem dX3_leafAt_11 : decode cX3_leafAt 11 = .ok (.areturn, 1) := by decide +kernel
theorem dX3_requireLeaf_0 : decode cX3_requireLeaf 0 = .ok (.aload_n 0, 1) := by decide +kernel
theorem dX3_requireLeaf_1 : decode cX3_requireLeaf 1 = .ok (.invokevirtual 258, 3) := by decide +kernel
theorem dX3_requireLeaf_4 : decode cX3_requireLeaf 4 = .ok (.ifCond .ne 14, 3) := by decide +kernel
theorem dX3_requireLeaf_7 : decode cX3_requireLeaf 7 = .ok (.new 253, 3) := by decide +kernel
theorem dX3_requireLeaf_10 : decode cX3_requireLeaf 10 = .ok (.dup, 1) := by decide +kernel
theorem dX3_requireLeaf_11 : decode cX3_requireLeaf 11 = .ok (.ldc_w 261, 3) := by decide +kernel
theorem dX3_requireLeaf_14 : decode cX3_requireLeaf 14 = .ok (.invokespecial 257, 3) := by decide +kernel
theorem dX3_requireLeaf_17 : decode cX3_requireLeaf 17 = .ok (.athrow, 1) := by decide +kernel
theorem dX3_requireLeaf_18 : decode cX3_requireLeaf 18 = .ok (.return_, 1) := by decide +kernel
theorem dX3_requireRange_0 : decode cX3_requireRange 0 = .ok (.iload_n 0, 1) := by decide +kernel
theorem dX3_requireRange_1 : decode cX3_requireRange 1 = .ok (.iload_n 1, 1) := by decide +kernel
theorem dX3_requireRange_2 : decode cX3_requireRange 2 = .ok (.if_icmp .lt 8, 3) := by decide +kernel
theorem dX3_requireRange_5 : decode cX3_requireRange 5 = .ok (.iload_n 0, 1) := by decide +kernel
theorem dX3_requireRange_6 : decode cX3_requireRange 6 = .ok (.iload_n 2, 1) := by decide +kernel
theorem dX3_requireRange_7 : decode cX3_requireRange 7 = .ok (.if_icmp .le 14, 3) := by decide +kernel
theorem dX3_requireRange_10 : decode cX3_requireRange 10 = .ok (.new 263, 3) := by decide +kernel
theorem dX3_requireRange_13 : decode cX3_requireRange 13 = .ok (.dup, 1) := by decide +kernel
theorem dX3_requireRange_14 : decode cX3_requireRange 14 = .ok (.ldc_w 265, 3) := by decide +kernel
theorem dX3_requireRange_17 : decode cX3_requireRange 17 = .ok (.invokespecial 267, 3) := by decide +kernel
theorem dX3_requireRange_20 : decode cX3_requireRange 20 = .ok (.athrow, 1) := by decide +kernel
theorem dX3_requireRange_21 : decode cX3_requireRange 21 = .ok (.return_, 1) := by decide +kernel
theorem dX3_jobAt_0 : decode cX3_jobAt 0 = .ok (.iload_n 1, 1) := by decide +kernel
theorem dX3_jobAt_1 : decode cX3_jobAt 1 = .ok (.ifCond .lt 14, 3) := by decide +kernel
theorem dX3_jobAt_4 : decode cX3_jobAt 4 = .ok (.iload_n 1, 1) := by decide +kernel
theorem dX3_jobAt_5 : decode cX3_jobAt 5 = .ok (.aload_n 0, 1) := by decide +kernel
theorem dX3_jobAt_6 : decode cX3_jobAt 6 = .ok (.getfield 25, 3) := by decide +kernel
theorem dX3_jobAt_9 : decode cX3_jobAt 9 = .ok (.invokevirtual 65, 3) := by decide +kernel
theorem dX3_jobAt_12 : decode cX3_jobAt 12 = .ok (.if_icmp .lt 14, 3) := by decide +kernel
theorem dX3_jobAt_15 : decode cX3_jobAt 15 = .ok (.new 159, 3) := by decide +kernel
theorem dX3_jobAt_18 : decode cX3_jobAt 18 = .ok (.dup, 1) := by decide +kernel
theorem dX3_jobAt_19 : decode cX3_jobAt 19 = .ok (.ldc_w 268, 3) := by decide +kernel
theorem dX3_jobAt_22 : decode cX3_jobAt 22 = .ok (.invokespecial 163, 3) := by decide +kernel
theorem dX3_jobAt_25 : decode cX3_jobAt 25 = .ok (.athrow, 1) := by decide +kernel
theorem dX3_jobAt_26 : decode cX3_jobAt 26 = .ok (.aload_n 0, 1) := by decide +kernel
theorem dX3_jobAt_27 : decode cX3_jobAt 27 = .ok (.getfield 25, 3) := by decide +kernel
theorem dX3_jobAt_30 : decode cX3_jobAt 30 = .ok (.iload_n 1, 1) := by decide +kernel
theorem dX3_jobAt_31 : decode cX3_jobAt 31 = .ok (.invokevirtual 169, 3) := by decide +kernel
theorem dX3_jobAt_34 : decode cX3_jobAt 34 = .ok (.checkcast 112, 3) := by decide +kernel
theorem dX3_jobAt_37 : decode cX3_jobAt 37 = .ok (.areturn, 1) := by decide +kernel
theorem dX3_aliveJobAt_0 : decode cX3_aliveJobAt 0 = .ok (.aload_n 0, 1) := by decide +kernel
theorem dX3_aliveJobAt_1 : decode cX3_aliveJobAt 1 = .ok (.iload_n 1, 1) := by decide +kernel
theorem dX3_aliveJobAt_2 : decode cX3_aliveJobAt 2 = .ok (.invokevirtual 140, 3) := by decide +kernel
theorem dX3_aliveJobAt_5 : decode cX3_aliveJobAt 5 = .ok (.astore_n 2, 1) := by decide +kernel
theorem dX3_aliveJobAt_6 : decode cX3_aliveJobAt 6 = .ok (.aload_n 2, 1) := by decide +kernel
theorem dX3_aliveJobAt_7 : decode cX3_aliveJobAt 7 = .ok (.invokevirtual 270, 3) := by decide +kernel
theorem dX3_aliveJobAt_10 : decode cX3_aliveJobAt 10 = .ok (.ifCond .ne 14, 3) := by decide +kernel
theorem dX3_aliveJobAt_13 : decode cX3_aliveJobAt 13 = .ok (.new 73, 3) := by decide +kernel
theorem dX3_aliveJobAt_16 : decode cX3_aliveJobAt 16 = .ok (.dup, 1) := by decide +kernel
theorem dX3_aliveJobAt_17 : decode cX3_aliveJobAt 17 = .ok (.ldc_w 273, 3) := by decide +kernel
theorem dX3_aliveJobAt_20 : decode cX3_aliveJobAt 20 = .ok (.invokespecial 77, 3) := by decide +kernel
theorem dX3_aliveJobAt_23 : decode cX3_aliveJobAt 23 = .ok (.athrow, 1) := by decide +kernel
theorem dX3_aliveJobAt_24 : decode cX3_aliveJobAt 24 = .ok (.aload_n 2, 1) := by decide +kernel
theorem dX3_aliveJobAt_25 : decode cX3_aliveJobAt 25 = .ok (.areturn, 1) := by decide +kernel
theorem dX3_endJobs_0 : decode cX3_endJobs 0 = .ok (.iconst 0, 1) := by decide +kernel
theorem dX3_endJobs_1 : decode cX3_endJobs 1 = .ok (.istore_n 1, 1) := by decide +kernel
theorem dX3_endJobs_2 : decode cX3_endJobs 2 = .ok (.iconst 0, 1) := by decide +kernel
theorem dX3_endJobs_3 : decode cX3_endJobs 3 = .ok (.istore_n 2, 1) := by decide +kernel
theorem dX3_endJobs_4 : decode cX3_endJobs 4 = .ok (.iload_n 2, 1) := by decide +kernel
theorem dX3_endJobs_5 : decode cX3_endJobs 5 = .ok (.aload_n 0, 1) := by decide +kernel
theorem dX3_endJobs_6 : decode cX3_endJobs 6 = .ok (.getfield 28, 3) := by decide +kernel
theorem dX3_endJobs_9 : decode cX3_endJobs 9 = .ok (.invokevirtual 65, 3) := by decide +kernel
theorem dX3_endJobs_12 : decode cX3_endJobs 12 = .ok (.if_icmp .ge 60, 3) := by decide +kernel
theorem dX3_endJobs_15 : decode cX3_endJobs 15 = .ok (.aload_n 0, 1) := by decide +kernel
theorem dX3_endJobs_16 : decode cX3_endJobs 16 = .ok (.getfield 28, 3) := by decide +kernel
theorem dX3_endJobs_19 : decode cX3_endJobs 19 = .ok (.iload_n 2, 1) := by decide +kernel
theorem dX3_endJobs_20 : decode cX3_endJobs 20 = .ok (.invokevirtual 169, 3) := by decide +kernel
theorem dX3_endJobs_23 : decode cX3_endJobs 23 = .ok (.checkcast 112, 3) := by decide +kernel
theorem dX3_endJobs_26 : decode cX3_endJobs 26 = .ok (.astore_n 3, 1) := by decide +kernel
theorem dX3_endJobs_27 : decode cX3_endJobs 27 = .ok (.aload_n 3, 1) := by decide +kernel
theorem dX3_endJobs_28 : decode cX3_endJobs 28 = .ok (.getfield 122, 3) := by decide +kernel
theorem dX3_endJobs_31 : decode cX3_endJobs 31 = .ok (.bipush 114, 2) := by decide +kernel
theorem dX3_endJobs_33 : decode cX3_endJobs 33 = .ok (.if_icmp .ne 33, 3) := by decide +kernel
theorem dX3_endJobs_36 : decode cX3_endJobs 36 = .ok (.aload_n 3, 1) := by decide +kernel
theorem dX3_endJobs_37 : decode cX3_endJobs 37 = .ok (.dup, 1) := by decide +kernel
theorem dX3_endJobs_38 : decode cX3_endJobs 38 = .ok (.getfield 143, 3) := by decide +kernel
theorem dX3_endJobs_41 : decode cX3_endJobs 41 = .ok (.iconst 1, 1) := by decide +kernel
theorem dX3_endJobs_42 : decode cX3_endJobs 42 = .ok (.isub, 1) := by decide +kernel
theorem dX3_endJobs_43 : decode cX3_endJobs 43 = .ok (.putfield 143, 3) := by decide +kernel
theorem dX3_endJobs_46 : decode cX3_endJobs 46 = .ok (.aload_n 3, 1) := by decide +kernel
theorem dX3_endJobs_47 : decode cX3_endJobs 47 = .ok (.getfield 143, 3) := by decide +kernel
theorem dX3_endJobs_50 : decode cX3_endJobs 50 = .ok (.ifCond .gt 16, 3) := by decide +kernel
theorem dX3_endJobs_53 : decode cX3_endJobs 53 = .ok (.aload_n 3, 1) := by decide +kernel
theorem dX3_endJobs_54 : decode cX3_endJobs 54 = .ok (.invokevirtual 128, 3) := by decide +kernel
theorem dX3_endJobs_57 : decode cX3_endJobs 57 = .ok (.aload_n 3, 1) := by decide +kernel
theorem dX3_endJobs_58 : decode cX3_endJobs 58 = .ok (.bipush 101, 2) := by decide +kernel
theorem dX3_endJobs_60 : decode cX3_endJobs 60 = .ok (.putfield 122, 3) := by decide +kernel
theorem dX3_endJobs_63 : decode cX3_endJobs 63 = .ok (.iinc 1 1, 3) := by decide +kernel
theorem dX3_endJobs_66 : decode cX3_endJobs 66 = .ok (.iinc 2 1, 3) := by decide +kernel
theorem dX3_endJobs_69 : decode cX3_endJobs 69 = .ok (.goto (-65), 3) := by decide +kernel
theorem dX3_endJobs_72 : decode cX3_endJobs 72 = .ok (.aload_n 0, 1) := by decide +kernel
theorem dX3_endJobs_73 : decode cX3_endJobs 73 = .ok (.invokevirtual 131, 3) := by decide +kernel
theorem dX3_endJobs_76 : decode cX3_endJobs 76 = .ok (.iload_n 1, 1) := by decide +kernel
theorem dX3_endJobs_77 : decode cX3_endJobs 77 = .ok (.ireturn, 1) := by decide +kernel
theorem dX3_changeUse_0 : decode cX3_changeUse 0 = .ok (.aload_n 0, 1) := by decide +kernel
theorem dX3_changeUse_1 : decode cX3_changeUse 1 = .ok (.getfield 44, 3) := by decide +kernel
theorem dX3_changeUse_4 : decode cX3_changeUse 4 = .ok (.ifCond .le 19, 3) := by decide +kernel
theorem dX3_changeUse_7 : decode cX3_changeUse 7 = .ok (.aload_n 0, 1) := by decide +kernel
theorem dX3_changeUse_8 : decode cX3_changeUse 8 = .ok (.getfield 47, 3) := by decide +kernel
theorem dX3_changeUse_11 : decode cX3_changeUse 11 = .ok (.aload_n 0, 1) := by decide +kernel
theorem dX3_changeUse_12 : decode cX3_changeUse 12 = .ok (.getfield 44, 3) := by decide +kernel
theorem dX3_changeUse_15 : decode cX3_changeUse 15 = .ok (.irem, 1) := by decide +kernel
theorem dX3_changeUse_16 : decode cX3_changeUse 16 = .ok (.ifCond .ne 7, 3) := by decide +kernel
theorem dX3_changeUse_19 : decode cX3_changeUse 19 = .ok (.iconst 1, 1) := by decide +kernel
theorem dX3_changeUse_20 : decode cX3_changeUse 20 = .ok (.goto 4, 3) := by decide +kernel
theorem dX3_changeUse_23 : decode cX3_changeUse 23 = .ok (.iconst 0, 1) := by decide +kernel
theorem dX3_changeUse_24 : decode cX3_changeUse 24 = .ok (.istore_n 1, 1) := by decide +kernel
theorem dX3_changeUse_25 : decode cX3_changeUse 25 = .ok (.iconst 0, 1) := by decide +kernel
theorem dX3_changeUse_26 : decode cX3_changeUse 26 = .ok (.istore_n 2, 1) := by decide +kernel
theorem dX3_changeUse_27 : decode cX3_changeUse 27 = .ok (.iload_n 2, 1) := by decide +kernel
theorem dX3_changeUse_28 : decode cX3_changeUse 28 = .ok (.aload_n 0, 1) := by decide +kernel
theorem dX3_changeUse_29 : decode cX3_changeUse 29 = .ok (.getfield 10, 3) := by decide +kernel
theorem dX3_changeUse_32 : decode cX3_changeUse 32 = .ok (.invokevirtual 65, 3) := by decide +kernel
theorem dX3_changeUse_35 : decode cX3_changeUse 35 = .ok (.if_icmp .ge 58, 3) := by decide +kernel
theorem dX3_changeUse_38 : decode cX3_changeUse 38 = .ok (.aload_n 0, 1) := by decide +kernel
theorem dX3_changeUse_39 : decode cX3_changeUse 39 = .ok (.getfield 10, 3) := by decide +kernel
theorem dX3_changeUse_42 : decode cX3_changeUse 42 = .ok (.iload_n 2, 1) := by decide +kernel
theorem dX3_changeUse_43 : decode cX3_changeUse 43 = .ok (.invokevirtual 169, 3) := by decide +kernel
theorem dX3_changeUse_46 : decode cX3_changeUse 46 = .ok (.checkcast 16, 3) := by decide +kernel
theorem dX3_changeUse_49 : decode cX3_changeUse 49 = .ok (.astore_n 3, 1) := by decide +kernel
theorem dX3_changeUse_50 : decode cX3_changeUse 50 = .ok (.aload_n 3, 1) := by decide +kernel
theorem dX3_changeUse_51 : decode cX3_changeUse 51 = .ok (.invokevirtual 258, 3) := by decide +kernel
theorem dX3_changeUse_54 : decode cX3_changeUse 54 = .ok (.ifCond .eq 33, 3) := by decide +kernel
theorem dX3_changeUse_57 : decode cX3_changeUse 57 = .ok (.aload_n 3, 1) := by decide +kernel
theorem dX3_changeUse_58 : decode cX3_changeUse 58 = .ok (.dup, 1) := by decide +kernel
theorem dX3_changeUse_59 : decode cX3_changeUse 59 = .ok (.getfield 230, 3) := by decide +kernel
theorem dX3_changeUse_62 : decode cX3_changeUse 62 = .ok (.aload_n 3, 1) := by decide +kernel
theorem dX3_changeUse_63 : decode cX3_changeUse 63 = .ok (.getfield 98, 3) := by decide +kernel
theorem dX3_changeUse_66 : decode cX3_changeUse 66 = .ok (.i2l, 1) := by decide +kernel
theorem dX3_changeUse_67 : decode cX3_changeUse 67 = .ok (.ladd, 1) := by decide +kernel
theorem dX3_changeUse_68 : decode cX3_changeUse 68 = .ok (.putfield 230, 3) := by decide +kernel
theorem dX3_changeUse_71 : decode cX3_changeUse 71 = .ok (.iload_n 1, 1) := by decide +kernel
theorem dX3_changeUse_72 : decode cX3_changeUse 72 = .ok (.ifCond .eq 15, 3) := by decide +kernel
theorem dX3_changeUse_75 : decode cX3_changeUse 75 = .ok (.aload_n 3, 1) := by decide +kernel
theorem dX3_changeUse_76 : decode cX3_changeUse 76 = .ok (.dup, 1) := by decide +kernel
theorem dX3_changeUse_77 : decode cX3_changeUse 77 = .ok (.getfield 230, 3) := by decide +kernel
theorem dX3_changeUse_80 : decode cX3_changeUse 80 = .ok (.ldc2_w 275, 3) := by decide +kernel
theorem dX3_changeUse_83 : decode cX3_changeUse 83 = .ok (.ldiv, 1) := by decide +kernel
theorem dX3_changeUse_84 : decode cX3_changeUse 84 = .ok (.putfield 230, 3) := by decide +kernel
theorem dX3_changeUse_87 : decode cX3_changeUse 87 = .ok (.iinc 2 1, 3) := by decide +kernel
theorem dX3_changeUse_90 : decode cX3_changeUse 90 = .ok (.goto (-63), 3) := by decide +kernel
theorem dX3_changeUse_93 : decode cX3_changeUse 93 = .ok (.return_, 1) := by decide +kernel
theorem dX3_forgetDeadJobs_0 : decode cX3_forgetDeadJobs 0 = .ok (.aload_n 0, 1) := by decide +kernel
theorem dX3_forgetDeadJobs_1 : decode cX3_forgetDeadJobs 1 = .ok (.getfield 28, 3) := by decide +kernel
theorem dX3_forgetDeadJobs_4 : decode cX3_forgetDeadJobs 4 = .ok (.invokevirtual 65, 3) := by decide +kernel
theorem dX3_forgetDeadJobs_7 : decode cX3_forgetDeadJobs 7 = .ok (.iconst 1, 1) := by decide +kernel
theorem dX3_forgetDeadJobs_8 : decode cX3_forgetDeadJobs 8 = .ok (.isub, 1) := by decide +kernel
theorem dX3_forgetDeadJobs_9 : decode cX3_forgetDeadJobs 9 = .ok (.istore_n 1, 1) := by decide +kernel
theorem dX3_forgetDeadJobs_10 : decode cX3_forgetDeadJobs 10 = .ok (.iload_n 1, 1) := by decide +kernel
theorem dX3_forgetDeadJobs_11 : decode cX3_forgetDeadJobs 11 = .ok (.ifCond .lt 35, 3) := by decide +kernel
theorem dX3_forgetDeadJobs_14 : decode cX3_forgetDeadJobs 14 = .ok (.aload_n 0, 1) := by decide +kernel
theorem dX3_forgetDeadJobs_15 : decode cX3_forgetDeadJobs 15 = .ok (.getfield 28, 3) := by decide +kernel
theorem dX3_forgetDeadJobs_18 : decode cX3_forgetDeadJobs 18 = .ok (.iload_n 1, 1) := by decide +kernel
theorem dX3_forgetDeadJobs_19 : decode cX3_forgetDeadJobs 19 = .ok (.invokevirtual 169, 3) := by decide +kernel
theorem dX3_forgetDeadJobs_22 : decode cX3_forgetDeadJobs 22 = .ok (.checkcast 112, 3) := by decide +kernel
theorem dX3_forgetDeadJobs_25 : decode cX3_forgetDeadJobs 25 = .ok (.invokevirtual 270, 3) := by decide +kernel
theorem dX3_forgetDeadJobs_28 : decode cX3_forgetDeadJobs 28 = .ok (.ifCond .ne 12, 3) := by decide +kernel
theorem dX3_forgetDeadJobs_31 : decode cX3_forgetDeadJobs 31 = .ok (.aload_n 0, 1) := by decide +kernel
theorem dX3_forgetDeadJobs_32 : decode cX3_forgetDeadJobs 32 = .ok (.getfield 28, 3) := by decide +kernel
theorem dX3_forgetDeadJobs_35 : decode cX3_forgetDeadJobs 35 = .ok (.iload_n 1, 1) := by decide +kernel
theorem dX3_forgetDeadJobs_36 : decode cX3_forgetDeadJobs 36 = .ok (.invokevirtual 277, 3) := by decide +kernel
theorem dX3_forgetDeadJobs_39 : decode cX3_forgetDeadJobs 39 = .ok (.pop, 1) := by decide +kernel
theorem dX3_forgetDeadJobs_40 : decode cX3_forgetDeadJobs 40 = .ok (.iinc 1 (-1), 3) := by decide +kernel
theorem dX3_forgetDeadJobs_43 : decode cX3_forgetDeadJobs 43 = .ok (.goto (-33), 3) := by decide +kernel
theorem dX3_forgetDeadJobs_46 : decode cX3_forgetDeadJobs 46 = .ok (.return_, 1) := by decide +kernel
theorem dX3_serve_0 : decode cX3_serve 0 = .ok (.aload_n 0, 1) := by decide +kernel
theorem dX3_serve_1 : decode cX3_serve 1 = .ok (.invokevirtual 220, 3) := by decide +kernel
theorem dX3_serve_4 : decode cX3_serve 4 = .ok (.iconst 1, 1) := by decide +kernel
theorem dX3_serve_5 : decode cX3_serve 5 = .ok (.istore_n 1, 1) := by decide +kernel
theorem dX3_serve_6 : decode cX3_serve 6 = .ok (.iconst 0, 1) := by decide +kernel
theorem dX3_serve_7 : decode cX3_serve 7 = .ok (.istore_n 2, 1) := by decide +kernel
theorem dX3_serve_8 : decode cX3_serve 8 = .ok (.iload_n 1, 1) := by decide +kernel
theorem dX3_serve_9 : decode cX3_serve 9 = .ok (.ifCond .eq 21, 3) := by decide +kernel
theorem dX3_serve_12 : decode cX3_serve 12 = .ok (.iload_n 2, 1) := by decide +kernel
theorem dX3_serve_13 : decode cX3_serve 13 = .ok (.ldc_w 280, 3) := by decide +kernel
theorem dX3_serve_16 : decode cX3_serve 16 = .ok (.if_icmp .ge 14, 3) := by decide +kernel
theorem dX3_serve_19 : decode cX3_serve 19 = .ok (.aload_n 0, 1) := by decide +kernel
theorem dX3_serve_20 : decode cX3_serve 20 = .ok (.invokevirtual 281, 3) := by decide +kernel
theorem dX3_serve_23 : decode cX3_serve 23 = .ok (.istore_n 1, 1) := by decide +kernel
theorem dX3_serve_24 : decode cX3_serve 24 = .ok (.iinc 2 1, 3) := by decide +kernel
theorem dX3_serve_27 : decode cX3_serve 27 = .ok (.goto (-19), 3) := by decide +kernel
theorem dX3_serve_30 : decode cX3_serve 30 = .ok (.return_, 1) := by decide +kernel
theorem dX3_serveNext_0 : decode cX3_serveNext 0 = .ok (.aload_n 0, 1) := by decide +kernel
theorem dX3_serveNext_1 : decode cX3_serveNext 1 = .ok (.invokevirtual 164, 3) := by decide +kernel
theorem dX3_serveNext_4 : decode cX3_serveNext 4 = .ok (.iconst 0, 1) := by decide +kernel
theorem dX3_serveNext_5 : decode cX3_serveNext 5 = .ok (.istore_n 1, 1) := by decide +kernel
theorem dX3_serveNext_6 : decode cX3_serveNext 6 = .ok (.iload_n 1, 1) := by decide +kernel
theorem dX3_serveNext_7 : decode cX3_serveNext 7 = .ok (.aload_n 0, 1) := by decide +kernel
theorem dX3_serveNext_8 : decode cX3_serveNext 8 = .ok (.getfield 34, 3) := by decide +kernel
theorem dX3_serveNext_11 : decode cX3_serveNext 11 = .ok (.invokevirtual 65, 3) := by decide +kernel
theorem dX3_serveNext_14 : decode cX3_serveNext 14 = .ok (.if_icmp .ge 40, 3) := by decide +kernel
theorem dX3_serveNext_17 : decode cX3_serveNext 17 = .ok (.aload_n 0, 1) := by decide +kernel
theorem dX3_serveNext_18 : decode cX3_serveNext 18 = .ok (.getfield 34, 3) := by decide +kernel
theorem dX3_serveNext_21 : decode cX3_serveNext 21 = .ok (.iload_n 1, 1) := by decide +kernel
theorem dX3_serveNext_22 : decode cX3_serveNext 22 = .ok (.invokevirtual 169, 3) := by decide +kernel
theorem dX3_serveNext_25 : decode cX3_serveNext 25 = .ok (.checkcast 112, 3) := by decide +kernel
theorem dX3_serveNext_28 : decode cX3_serveNext 28 = .ok (.astore_n 2, 1) := by decide +kernel
theorem dX3_serveNext_29 : decode cX3_serveNext 29 = .ok (.aload_n 0, 1) := by decide +kernel
theorem dX3_serveNext_30 : decode cX3_serveNext 30 = .ok (.aload_n 2, 1) := by decide +kernel
theorem dX3_serveNext_31 : decode cX3_serveNext 31 = .ok (.invokevirtual 284, 3) := by decide +kernel
theorem dX3_serveNext_34 : decode cX3_serveNext 34 = .ok (.ifCond .eq 14, 3) := by decide +kernel
theorem dX3_serveNext_37 : decode cX3_serveNext 37 = .ok (.aload_n 0, 1) := by decide +kernel
theorem dX3_serveNext_38 : decode cX3_serveNext 38 = .ok (.invokevirtual 288, 3) := by decide +kernel
theorem dX3_serveNext_41 : decode cX3_serveNext 41 = .ok (.aload_n 0, 1) := by decide +kernel
theorem dX3_serveNext_42 : decode cX3_serveNext 42 = .ok (.aload_n 2, 1) := by decide +kernel
theorem dX3_serveNext_43 : decode cX3_serveNext 43 = .ok (.invokevirtual 291, 3) := by decide +kernel
theorem dX3_serveNext_46 : decode cX3_serveNext 46 = .ok (.iconst 1, 1) := by decide +kernel
theorem dX3_serveNext_47 : decode cX3_serveNext 47 = .ok (.ireturn, 1) := by decide +kernel
theorem dX3_serveNext_48 : decode cX3_serveNext 48 = .ok (.iinc 1 1, 3) := by decide +kernel
theorem dX3_serveNext_51 : decode cX3_serveNext 51 = .ok (.goto (-45), 3) := by decide +kernel
theorem dX3_serveNext_54 : decode cX3_serveNext 54 = .ok (.iconst 0, 1) := by decide +kernel
theorem dX3_serveNext_55 : decode cX3_serveNext 55 = .ok (.ireturn, 1) := by decide +kernel
theorem dX3_stopVictims_0 : decode cX3_stopVictims 0 = .ok (.iconst 0, 1) := by decide +kernel
theorem dX3_stopVictims_1 : decode cX3_stopVictims 1 = .ok (.istore_n 1, 1) := by decide +kernel
theorem dX3_stopVictims_2 : decode cX3_stopVictims 2 = .ok (.iload_n 1, 1) := by decide +kernel
theorem dX3_stopVictims_3 : decode cX3_stopVictims 3 = .ok (.aload_n 0, 1) := by decide +kernel
theorem dX3_stopVictims_4 : decode cX3_stopVictims 4 = .ok (.getfield 37, 3) := by decide +kernel
theorem dX3_stopVictims_7 : decode cX3_stopVictims 7 = .ok (.invokevirtual 65, 3) := by decide +kernel
theorem dX3_stopVictims_10 : decode cX3_stopVictims 10 = .ok (.if_icmp .ge 35, 3) := by decide +kernel
theorem dX3_stopVictims_13 : decode cX3_stopVictims 13 = .ok (.aload_n 0, 1) := by decide +kernel
theorem dX3_stopVictims_14 : decode cX3_stopVictims 14 = .ok (.getfield 37, 3) := by decide +kernel
theorem dX3_stopVictims_17 : decode cX3_stopVictims 17 = .ok (.iload_n 1, 1) := by decide +kernel
theorem dX3_stopVictims_18 : decode cX3_stopVictims 18 = .ok (.invokevirtual 169, 3) := by decide +kernel
theorem dX3_stopVictims_21 : decode cX3_stopVictims 21 = .ok (.checkcast 112, 3) := by decide +kernel
theorem dX3_stopVictims_24 : decode cX3_stopVictims 24 = .ok (.astore_n 2, 1) := by decide +kernel
theorem dX3_stopVictims_25 : decode cX3_stopVictims 25 = .ok (.aload_n 2, 1) := by decide +kernel
theorem dX3_stopVictims_26 : decode cX3_stopVictims 26 = .ok (.invokevirtual 128, 3) := by decide +kernel
theorem dX3_stopVictims_29 : decode cX3_stopVictims 29 = .ok (.aload_n 2, 1) := by decide +kernel
theorem dX3_stopVictims_30 : decode cX3_stopVictims 30 = .ok (.dup, 1) := by decide +kernel
theorem dX3_stopVictims_31 : decode cX3_stopVictims 31 = .ok (.getfield 149, 3) := by decide +kernel
theorem dX3_stopVictims_34 : decode cX3_stopVictims 34 = .ok (.iconst 1, 1) := by decide +kernel
theorem dX3_stopVictims_35 : decode cX3_stopVictims 35 = .ok (.iadd, 1) := by decide +kernel
theorem dX3_stopVictims_36 : decode cX3_stopVictims 36 = .ok (.putfield 149, 3) := by decide +kernel
theorem dX3_stopVictims_39 : decode cX3_stopVictims 39 = .ok (.iinc 1 1, 3) := by decide +kernel
theorem dX3_stopVictims_42 : decode cX3_stopVictims 42 = .ok (.goto (-40), 3) := by decide +kernel
theorem dX3_stopVictims_45 : decode cX3_stopVictims 45 = .ok (.return_, 1) := by decide +kernel
theorem dX3_start_0 : decode cX3_start 0 = .ok (.aload_n 1, 1) := by decide +kernel
theorem dX3_start_1 : decode cX3_start 1 = .ok (.invokevirtual 295, 3) := by decide +kernel
theorem dX3_start_4 : decode cX3_start 4 = .ok (.aload_n 1, 1) := by decide +kernel
theorem dX3_start_5 : decode cX3_start 5 = .ok (.aload_n 1, 1) := by decide +kernel
theorem dX3_start_6 : decode cX3_start 6 = .ok (.getfield 146, 3) := by decide +kernel
theorem dX3_start_9 : decode cX3_start 9 = .ok (.putfield 143, 3) := by decide +kernel
theorem dX3_start_12 : decode cX3_start 12 = .ok (.aload_n 0, 1) := by decide +kernel
theorem dX3_start_13 : decode cX3_start 13 = .ok (.dup, 1) := by decide +kernel
theorem dX3_start_14 : decode cX3_start 14 = .ok (.getfield 50, 3) := by decide +kernel
theorem dX3_start_17 : decode cX3_start 17 = .ok (.iconst 1, 1) := by decide +kernel
theorem dX3_start_18 : decode cX3_start 18 = .ok (.iadd, 1) := by decide +kernel
theorem dX3_start_19 : decode cX3_start 19 = .ok (.putfield 50, 3) := by decide +kernel
theorem dX3_start_22 : decode cX3_start 22 = .ok (.aload_n 1, 1) := by decide +kernel
theorem dX3_start_23 : decode cX3_start 23 = .ok (.aload_n 0, 1) := by decide +kernel
theorem dX3_start_24 : decode cX3_start 24 = .ok (.getfield 50, 3) := by decide +kernel
theorem dX3_start_27 : decode cX3_start 27 = .ok (.putfield 298, 3) := by decide +kernel
theorem dX3_start_30 : decode cX3_start 30 = .ok (.return_, 1) := by decide +kernel
theorem dX3_formLine_0 : decode cX3_formLine 0 = .ok (.aload_n 0, 1) := by decide +kernel
theorem dX3_formLine_1 : decode cX3_formLine 1 = .ok (.getfield 34, 3) := by decide +kernel
theorem dX3_formLine_4 : decode cX3_formLine 4 = .ok (.invokevirtual 301, 3) := by decide +kernel
theorem dX3_formLine_7 : decode cX3_formLine 7 = .ok (.iconst 0, 1) := by decide +kernel
theorem dX3_formLine_8 : decode cX3_formLine 8 = .ok (.istore_n 1, 1) := by decide +kernel
theorem dX3_formLine_9 : decode cX3_formLine 9 = .ok (.iload_n 1, 1) := by decide +kernel
theorem dX3_formLine_10 : decode cX3_formLine 10 = .ok (.aload_n 0, 1) := by decide +kernel
theorem dX3_formLine_11 : decode cX3_formLine 11 = .ok (.getfield 10, 3) := by decide +kernel
theorem dX3_formLine_14 : decode cX3_formLine 14 = .ok (.invokevirtual 65, 3) := by decide +kernel
theorem dX3_formLine_17 : decode cX3_formLine 17 = .ok (.if_icmp .ge 45, 3) := by decide +kernel
theorem dX3_formLine_20 : decode cX3_formLine 20 = .ok (.aload_n 0, 1) := by decide +kernel
theorem dX3_formLine_21 : decode cX3_formLine 21 = .ok (.aload_n 0, 1) := by decide +kernel
theorem dX3_formLine_22 : decode cX3_formLine 22 = .ok (.getfield 10, 3) := by decide +kernel
theorem dX3_formLine_25 : decode cX3_formLine 25 = .ok (.iload_n 1, 1) := by decide +kernel
theorem dX3_formLine_26 : decode cX3_formLine 26 = .ok (.invokevirtual 169, 3) := by decide +kernel
theorem dX3_formLine_29 : decode cX3_formLine 29 = .ok (.checkcast 16, 3) := by decide +kernel
theorem dX3_formLine_32 : decode cX3_formLine 32 = .ok (.invokevirtual 155, 3) := by decide +kernel
theorem dX3_formLine_35 : decode cX3_formLine 35 = .ok (.astore_n 2, 1) := by decide +kernel
theorem dX3_formLine_36 : decode cX3_formLine 36 = .ok (.aload_n 2, 1) := by decide +kernel
theorem dX3_formLine_37 : decode cX3_formLine 37 = .ok (.ifnull 19, 3) := by decide +kernel
theorem dX3_formLine_40 : decode cX3_formLine 40 = .ok (.aload_n 0, 1) := by decide +kernel
theorem dX3_formLine_41 : decode cX3_formLine 41 = .ok (.getfield 34, 3) := by decide +kernel
theorem dX3_formLine_44 : decode cX3_formLine 44 = .ok (.aload_n 0, 1) := by decide +kernel
theorem dX3_formLine_45 : decode cX3_formLine 45 = .ok (.aload_n 2, 1) := by decide +kernel
theorem dX3_formLine_46 : decode cX3_formLine 46 = .ok (.getfield 173, 3) := by decide +kernel
theorem dX3_formLine_49 : decode cX3_formLine 49 = .ok (.invokevirtual 304, 3) := by decide +kernel
theorem dX3_formLine_52 : decode cX3_formLine 52 = .ok (.aload_n 2, 1) := by decide +kernel
theorem dX3_formLine_53 : decode cX3_formLine 53 = .ok (.invokevirtual 307, 3) := by decide +kernel
theorem dX3_formLine_56 : decode cX3_formLine 56 = .ok (.iinc 1 1, 3) := by decide +kernel
theorem dX3_formLine_59 : decode cX3_formLine 59 = .ok (.goto (-50), 3) := by decide +kernel
theorem dX3_formLine_62 : decode cX3_formLine 62 = .ok (.return_, 1) := by decide +kernel
theorem dX3_placeInLine_0 : decode cX3_placeInLine 0 = .ok (.iconst 0, 1) := by decide +kernel
theorem dX3_placeInLine_1 : decode cX3_placeInLine 1 = .ok (.istore_n 2, 1) := by decide +kernel
theorem dX3_placeInLine_2 : decode cX3_placeInLine 2 = .ok (.iload_n 2, 1) := by decide +kernel
theorem dX3_placeInLine_3 : decode cX3_placeInLine 3 = .ok (.aload_n 0, 1) := by decide +kernel
theorem dX3_placeInLine_4 : decode cX3_placeInLine 4 = .ok (.getfield 34, 3) := by decide +kernel
theorem dX3_placeInLine_7 : decode cX3_placeInLine 7 = .ok (.invokevirtual 65, 3) := by decide +kernel
theorem dX3_placeInLine_10 : decode cX3_placeInLine 10 = .ok (.if_icmp .ge 30, 3) := by decide +kernel
theorem dX3_placeInLine_13 : decode cX3_placeInLine 13 = .ok (.aload_n 1, 1) := by decide +kernel
theorem dX3_placeInLine_14 : decode cX3_placeInLine 14 = .ok (.aload_n 0, 1) := by decide +kernel
theorem dX3_placeInLine_15 : decode cX3_placeInLine 15 = .ok (.getfield 34, 3) := by decide +kernel
theorem dX3_placeInLine_18 : decode cX3_placeInLine 18 = .ok (.iload_n 2, 1) := by decide +kernel
theorem dX3_placeInLine_19 : decode cX3_placeInLine 19 = .ok (.invokevirtual 169, 3) := by decide +kernel
theorem dX3_placeInLine_22 : decode cX3_placeInLine 22 = .ok (.checkcast 112, 3) := by decide +kernel
theorem dX3_placeInLine_25 : decode cX3_placeInLine 25 = .ok (.getfield 173, 3) := by decide +kernel
theorem dX3_placeInLine_28 : decode cX3_placeInLine 28 = .ok (.invokevirtual 310, 3) := by decide +kernel
theorem dX3_placeInLine_31 : decode cX3_placeInLine 31 = .ok (.ifCond .ne 9, 3) := by decide +kernel
theorem dX3_placeInLine_34 : decode cX3_placeInLine 34 = .ok (.iinc 2 1, 3) := by decide +kernel
theorem dX3_placeInLine_37 : decode cX3_placeInLine 37 = .ok (.goto (-35), 3) := by decide +kernel
theorem dX3_placeInLine_40 : decode cX3_placeInLine 40 = .ok (.iload_n 2, 1) := by decide +kernel
theorem dX3_placeInLine_41 : decode cX3_placeInLine 41 = .ok (.ireturn, 1) := by decide +kernel
theorem dX3_firstJob_0 : decode cX3_firstJob 0 = .ok (.iconst 0, 1) := by decide +kernel
theorem dX3_firstJob_1 : decode cX3_firstJob 1 = .ok (.istore_n 2, 1) := by decide +kernel
theorem dX3_firstJob_2 : decode cX3_firstJob 2 = .ok (.iload_n 2, 1) := by decide +kernel
theorem dX3_firstJob_3 : decode cX3_firstJob 3 = .ok (.aload_n 0, 1) := by decide +kernel
theorem dX3_firstJob_4 : decode cX3_firstJob 4 = .ok (.getfield 28, 3) := by decide +kernel
theorem dX3_firstJob_7 : decode cX3_firstJob 7 = .ok (.invokevirtual 65, 3) := by decide +kernel
theorem dX3_firstJob_10 : decode cX3_firstJob 10 = .ok (.if_icmp .ge 40, 3) := by decide +kernel
theorem dX3_firstJob_13 : decode cX3_firstJob 13 = .ok (.aload_n 0, 1) := by decide +kernel
theorem dX3_firstJob_14 : decode cX3_firstJob 14 = .ok (.getfield 28, 3) := by decide +kernel
theorem dX3_firstJob_17 : decode cX3_firstJob 17 = .ok (.iload_n 2, 1) := by decide +kernel
theorem dX3_firstJob_18 : decode cX3_firstJob 18 = .ok (.invokevirtual 169, 3) := by decide +kernel
theorem dX3_firstJob_21 : decode cX3_firstJob 21 = .ok (.checkcast 112, 3) := by decide +kernel
theorem dX3_firstJob_24 : decode cX3_firstJob 24 = .ok (.astore_n 3, 1) := by decide +kernel
theorem dX3_firstJob_25 : decode cX3_firstJob 25 = .ok (.aload_n 3, 1) := by decide +kernel
theorem dX3_firstJob_26 : decode cX3_firstJob 26 = .ok (.getfield 173, 3) := by decide +kernel
theorem dX3_firstJob_29 : decode cX3_firstJob 29 = .ok (.aload_n 1, 1) := by decide +kernel
theorem dX3_firstJob_30 : decode cX3_firstJob 30 = .ok (.if_acmp .ne 14, 3) := by decide +kernel
theorem dX3_firstJob_33 : decode cX3_firstJob 33 = .ok (.aload_n 3, 1) := by decide +kernel
theorem dX3_firstJob_34 : decode cX3_firstJob 34 = .ok (.getfield 122, 3) := by decide +kernel
theorem dX3_firstJob_37 : decode cX3_firstJob 37 = .ok (.bipush 119, 2) := by decide +kernel
theorem dX3_firstJob_39 : decode cX3_firstJob 39 = .ok (.if_icmp .ne 5, 3) := by decide +kernel
theorem dX3_firstJob_42 : decode cX3_firstJob 42 = .ok (.aload_n 3, 1) := by decide +kernel
theorem dX3_firstJob_43 : decode cX3_firstJob 43 = .ok (.areturn, 1) := by decide +kernel
theorem dX3_firstJob_44 : decode cX3_firstJob 44 = .ok (.iinc 2 1, 3) := by decide +kernel
theorem dX3_firstJob_47 : decode cX3_firstJob 47 = .ok (.goto (-45), 3) := by decide +kernel
theorem dX3_firstJob_50 : decode cX3_firstJob 50 = .ok (.aconst_null, 1) := by decide +kernel
theorem dX3_firstJob_51 : decode cX3_firstJob 51 = .ok (.areturn, 1) := by decide +kernel
theorem dX3_canStartOrReclaim_0 : decode cX3_canStartOrReclaim 0 = .ok (.aload_n 0, 1) := by decide +kernel
theorem dX3_canStartOrReclaim_1 : decode cX3_canStartOrReclaim 1 = .ok (.getfield 37, 3) := by decide +kernel
theorem dX3_canStartOrReclaim_4 : decode cX3_canStartOrReclaim 4 = .ok (.invokevirtual 301, 3) := by decide +kernel
theorem dX3_canStartOrReclaim_7 : decode cX3_canStartOrReclaim 7 = .ok (.aload_n 1, 1) := by decide +kernel
theorem dX3_canStartOrReclaim_8 : decode cX3_canStartOrReclaim 8 = .ok (.getfield 173, 3) := by decide +kernel
theorem dX3_canStartOrReclaim_11 : decode cX3_canStartOrReclaim 11 = .ok (.aload_n 1, 1) := by decide +kernel
theorem dX3_canStartOrReclaim_12 : decode cX3_canStartOrReclaim 12 = .ok (.getfield 126, 3) := by decide +kernel
theorem dX3_canStartOrReclaim_15 : decode cX3_canStartOrReclaim 15 = .ok (.invokevirtual 314, 3) := by decide +kernel
theorem dX3_canStartOrReclaim_18 : decode cX3_canStartOrReclaim 18 = .ok (.ifCond .ne 5, 3) := by decide +kernel
theorem dX3_canStartOrReclaim_21 : decode cX3_canStartOrReclaim 21 = .ok (.iconst 0, 1) := by decide +kernel
theorem dX3_canStartOrReclaim_22 : decode cX3_canStartOrReclaim 22 = .ok (.ireturn, 1) := by decide +kernel
theorem dX3_canStartOrReclaim_23 : decode cX3_canStartOrReclaim 23 = .ok (.aload_n 1, 1) := by decide +kernel
theorem dX3_canStartOrReclaim_24 : decode cX3_canStartOrReclaim 24 = .ok (.getfield 126, 3) := by decide +kernel
theorem dX3_canStartOrReclaim_27 : decode cX3_canStartOrReclaim 27 = .ok (.aload_n 0, 1) := by decide +kernel
theorem dX3_canStartOrReclaim_28 : decode cX3_canStartOrReclaim 28 = .ok (.aload_n 1, 1) := by decide +kernel
theorem dX3_canStartOrReclaim_29 : decode cX3_canStartOrReclaim 29 = .ok (.getfield 173, 3) := by decide +kernel
theorem dX3_canStartOrReclaim_32 : decode cX3_canStartOrReclaim 32 = .ok (.invokevirtual 226, 3) := by decide +kernel
theorem dX3_canStartOrReclaim_35 : decode cX3_canStartOrReclaim 35 = .ok (.if_icmp .gt 5, 3) := by decide +kernel
theorem dX3_canStartOrReclaim_38 : decode cX3_canStartOrReclaim 38 = .ok (.iconst 1, 1) := by decide +kernel
theorem dX3_canStartOrReclaim_39 : decode cX3_canStartOrReclaim 39 = .ok (.ireturn, 1) := by decide +kernel
theorem dX3_canStartOrReclaim_40 : decode cX3_canStartOrReclaim 40 = .ok (.aload_n 1, 1) := by decide +kernel
theorem dX3_canStartOrReclaim_41 : decode cX3_canStartOrReclaim 41 = .ok (.getfield 173, 3) := by decide +kernel
theorem dX3_canStartOrReclaim_44 : decode cX3_canStartOrReclaim 44 = .ok (.getfield 98, 3) := by decide +kernel
theorem dX3_canStartOrReclaim_47 : decode cX3_canStartOrReclaim 47 = .ok (.aload_n 1, 1) := by decide +kernel
theorem dX3_canStartOrReclaim_48 : decode cX3_canStartOrReclaim 48 = .ok (.getfield 126, 3) := by decide +kernel
theorem dX3_canStartOrReclaim_51 : decode cX3_canStartOrReclaim 51 = .ok (.iadd, 1) := by decide +kernel
theorem dX3_canStartOrReclaim_52 : decode cX3_canStartOrReclaim 52 = .ok (.aload_n 1, 1) := by decide +kernel
theorem dX3_canStartOrReclaim_53 : decode cX3_canStartOrReclaim 53 = .ok (.getfield 173, 3) := by decide +kernel
theorem dX3_canStartOrReclaim_56 : decode cX3_canStartOrReclaim 56 = .ok (.getfield 223, 3) := by decide +kernel
theorem dX3_canStartOrReclaim_59 : decode cX3_canStartOrReclaim 59 = .ok (.if_icmp .gt 15, 3) := by decide +kernel
theorem dX3_canStartOrReclaim_62 : decode cX3_canStartOrReclaim 62 = .ok (.aload_n 0, 1) := by decide +kernel
theorem dX3_canStartOrReclaim_63 : decode cX3_canStartOrReclaim 63 = .ok (.aload_n 1, 1) := by decide +kernel
theorem dX3_canStartOrReclaim_64 : decode cX3_canStartOrReclaim 64 = .ok (.invokevirtual 318, 3) := by decide +kernel
theorem dX3_canStartOrReclaim_67 : decode cX3_canStartOrReclaim 67 = .ok (.ifCond .eq 7, 3) := by decide +kernel
theorem dX3_canStartOrReclaim_70 : decode cX3_canStartOrReclaim 70 = .ok (.iconst 1, 1) := by decide +kernel
theorem dX3_canStartOrReclaim_71 : decode cX3_canStartOrReclaim 71 = .ok (.goto 4, 3) := by decide +kernel
theorem dX3_canStartOrReclaim_74 : decode cX3_canStartOrReclaim 74 = .ok (.iconst 0, 1) := by decide +kernel
theorem dX3_canStartOrReclaim_75 : decode cX3_canStartOrReclaim 75 = .ok (.ireturn, 1) := by decide +kernel
theorem dX3_findVictims_0 : decode cX3_findVictims 0 = .ok (.iconst 0, 1) := by decide +kernel
theorem dX3_findVictims_1 : decode cX3_findVictims 1 = .ok (.istore_n 2, 1) := by decide +kernel
theorem dX3_findVictims_2 : decode cX3_findVictims 2 = .ok (.iload_n 2, 1) := by decide +kernel
theorem dX3_findVictims_3 : decode cX3_findVictims 3 = .ok (.bipush 40, 2) := by decide +kernel
theorem dX3_findVictims_5 : decode cX3_findVictims 5 = .ok (.if_icmp .ge 53, 3) := by decide +kernel
theorem dX3_findVictims_8 : decode cX3_findVictims 8 = .ok (.aload_n 1, 1) := by decide +kernel
theorem dX3_findVictims_9 : decode cX3_findVictims 9 = .ok (.getfield 126, 3) := by decide +kernel
theorem dX3_findVictims_12 : decode cX3_findVictims 12 = .ok (.aload_n 0, 1) := by decide +kernel
theorem dX3_findVictims_13 : decode cX3_findVictims 13 = .ok (.aload_n 1, 1) := by decide +kernel
theorem dX3_findVictims_14 : decode cX3_findVictims 14 = .ok (.getfield 173, 3) := by decide +kernel
theorem dX3_findVictims_17 : decode cX3_findVictims 17 = .ok (.invokevirtual 226, 3) := by decide +kernel
theorem dX3_findVictims_20 : decode cX3_findVictims 20 = .ok (.if_icmp .le 38, 3) := by decide +kernel
theorem dX3_findVictims_23 : decode cX3_findVictims 23 = .ok (.aload_n 0, 1) := by decide +kernel
theorem dX3_findVictims_24 : decode cX3_findVictims 24 = .ok (.aload_n 1, 1) := by decide +kernel
theorem dX3_findVictims_25 : decode cX3_findVictims 25 = .ok (.getfield 173, 3) := by decide +kernel
theorem dX3_findVictims_28 : decode cX3_findVictims 28 = .ok (.invokevirtual 321, 3) := by decide +kernel
theorem dX3_findVictims_31 : decode cX3_findVictims 31 = .ok (.astore_n 3, 1) := by decide +kernel
theorem dX3_findVictims_32 : decode cX3_findVictims 32 = .ok (.aload_n 3, 1) := by decide +kernel
theorem dX3_findVictims_33 : decode cX3_findVictims 33 = .ok (.ifnonnull 6, 3) := by decide +kernel
theorem dX3_findVictims_36 : decode cX3_findVictims 36 = .ok (.goto 22, 3) := by decide +kernel
theorem dX3_findVictims_39 : decode cX3_findVictims 39 = .ok (.aload_n 3, 1) := by decide +kernel
theorem dX3_findVictims_40 : decode cX3_findVictims 40 = .ok (.invokevirtual 128, 3) := by decide +kernel
theorem dX3_findVictims_43 : decode cX3_findVictims 43 = .ok (.aload_n 0, 1) := by decide +kernel
theorem dX3_findVictims_44 : decode cX3_findVictims 44 = .ok (.getfield 37, 3) := by decide +kernel
theorem dX3_findVictims_47 : decode cX3_findVictims 47 = .ok (.aload_n 3, 1) := by decide +kernel
theorem dX3_findVictims_48 : decode cX3_findVictims 48 = .ok (.invokevirtual 53, 3) := by decide +kernel
theorem dX3_findVictims_51 : decode cX3_findVictims 51 = .ok (.pop, 1) := by decide +kernel
theorem dX3_findVictims_52 : decode cX3_findVictims 52 = .ok (.iinc 2 1, 3) := by decide +kernel
theorem dX3_findVictims_55 : decode cX3_findVictims 55 = .ok (.goto (-53), 3) := by decide +kernel
theorem dX3_findVictims_58 : decode cX3_findVictims 58 = .ok (.aload_n 1, 1) := by decide +kernel
theorem dX3_findVictims_59 : decode cX3_findVictims 59 = .ok (.getfield 126, 3) := by decide +kernel
theorem dX3_findVictims_62 : decode cX3_findVictims 62 = .ok (.aload_n 0, 1) := by decide +kernel
theorem dX3_findVictims_63 : decode cX3_findVictims 63 = .ok (.aload_n 1, 1) := by decide +kernel
theorem dX3_findVictims_64 : decode cX3_findVictims 64 = .ok (.getfield 173, 3) := by decide +kernel
theorem dX3_findVictims_67 : decode cX3_findVictims 67 = .ok (.invokevirtual 226, 3) := by decide +kernel
theorem dX3_findVictims_70 : decode cX3_findVictims 70 = .ok (.if_icmp .gt 7, 3) := by decide +kernel
theorem dX3_findVictims_73 : decode cX3_findVictims 73 = .ok (.iconst 1, 1) := by decide +kernel
theorem dX3_findVictims_74 : decode cX3_findVictims 74 = .ok (.goto 4, 3) := by decide +kernel
theorem dX3_findVictims_77 : decode cX3_findVictims 77 = .ok (.iconst 0, 1) := by decide +kernel
theorem dX3_findVictims_78 : decode cX3_findVictims 78 = .ok (.istore_n 2, 1) := by decide +kernel
theorem dX3_findVictims_79 : decode cX3_findVictims 79 = .ok (.iconst 0, 1) := by decide +kernel
theorem dX3_findVictims_80 : decode cX3_findVictims 80 = .ok (.istore_n 3, 1) := by decide +kernel
theorem dX3_findVictims_81 : decode cX3_findVictims 81 = .ok (.iload_n 3, 1) := by decide +kernel
theorem dX3_findVictims_82 : decode cX3_findVictims 82 = .ok (.aload_n 0, 1) := by decide +kernel
theorem dX3_findVictims_83 : decode cX3_findVictims 83 = .ok (.getfield 37, 3) := by decide +kernel
theorem dX3_findVictims_86 : decode cX3_findVictims 86 = .ok (.invokevirtual 65, 3) := by decide +kernel
theorem dX3_findVictims_89 : decode cX3_findVictims 89 = .ok (.if_icmp .ge 23, 3) := by decide +kernel
theorem dX3_findVictims_92 : decode cX3_findVictims 92 = .ok (.aload_n 0, 1) := by decide +kernel
theorem dX3_findVictims_93 : decode cX3_findVictims 93 = .ok (.getfield 37, 3) := by decide +kernel
theorem dX3_findVictims_96 : decode cX3_findVictims 96 = .ok (.iload_n 3, 1) := by decide +kernel
theorem dX3_findVictims_97 : decode cX3_findVictims 97 = .ok (.invokevirtual 169, 3) := by decide +kernel
theorem dX3_findVictims_100 : decode cX3_findVictims 100 = .ok (.checkcast 112, 3) := by decide +kernel
theorem dX3_findVictims_103 : decode cX3_findVictims 103 = .ok (.invokevirtual 295, 3) := by decide +kernel
theorem dX3_findVictims_106 : decode cX3_findVictims 106 = .ok (.iinc 3 1, 3) := by decide +kernel
theorem dX3_findVictims_109 : decode cX3_findVictims 109 = .ok (.goto (-28), 3) := by decide +kernel
theorem dX3_findVictims_112 : decode cX3_findVictims 112 = .ok (.iload_n 2, 1) := by decide +kernel
theorem dX3_findVictims_113 : decode cX3_findVictims 113 = .ok (.ireturn, 1) := by decide +kernel
theorem dX3_youngestBorrower_0 : decode cX3_youngestBorrower 0 = .ok (.aconst_null, 1) := by decide +kernel
theorem dX3_youngestBorrower_1 : decode cX3_youngestBorrower 1 = .ok (.astore_n 2, 1) := by decide +kernel
theorem dX3_youngestBorrower_2 : decode cX3_youngestBorrower 2 = .ok (.iconst 0, 1) := by decide +kernel
theorem dX3_youngestBorrower_3 : decode cX3_youngestBorrower 3 = .ok (.istore_n 3, 1) := by decide +kernel
theorem dX3_youngestBorrower_4 : decode cX3_youngestBorrower 4 = .ok (.iload_n 3, 1) := by decide +kernel
theorem dX3_youngestBorrower_5 : decode cX3_youngestBorrower 5 = .ok (.aload_n 0, 1) := by decide +kernel
theorem dX3_youngestBorrower_6 : decode cX3_youngestBorrower 6 = .ok (.getfield 28, 3) := by decide +kernel
theorem dX3_youngestBorrower_9 : decode cX3_youngestBorrower 9 = .ok (.invokevirtual 65, 3) := by decide +kernel
theorem dX3_youngestBorrower_12 : decode cX3_youngestBorrower 12 = .ok (.if_icmp .ge 79, 3) := by decide +kernel
theorem dX3_youngestBorrower_15 : decode cX3_youngestBorrower 15 = .ok (.aload_n 0, 1) := by decide +kernel
theorem dX3_youngestBorrower_16 : decode cX3_youngestBorrower 16 = .ok (.getfield 28, 3) := by decide +kernel
theorem dX3_youngestBorrower_19 : decode cX3_youngestBorrower 19 = .ok (.iload_n 3, 1) := by decide +kernel
theorem dX3_youngestBorrower_20 : decode cX3_youngestBorrower 20 = .ok (.invokevirtual 169, 3) := by decide +kernel
theorem dX3_youngestBorrower_23 : decode cX3_youngestBorrower 23 = .ok (.checkcast 112, 3) := by decide +kernel
theorem dX3_youngestBorrower_26 : decode cX3_youngestBorrower 26 = .ok (.astore 4, 2) := by decide +kernel
theorem dX3_youngestBorrower_28 : decode cX3_youngestBorrower 28 = .ok (.aload 4, 2) := by decide +kernel
theorem dX3_youngestBorrower_30 : decode cX3_youngestBorrower 30 = .ok (.getfield 122, 3) := by decide +kernel
theorem dX3_youngestBorrower_33 : decode cX3_youngestBorrower 33 = .ok (.bipush 114, 2) := by decide +kernel
theorem dX3_youngestBorrower_35 : decode cX3_youngestBorrower 35 = .ok (.if_icmp .ne 50, 3) := by decide +kernel
theorem dX3_youngestBorrower_38 : decode cX3_youngestBorrower 38 = .ok (.aload 4, 2) := by decide +kernel
theorem dX3_youngestBorrower_40 : decode cX3_youngestBorrower 40 = .ok (.getfield 173, 3) := by decide +kernel
theorem dX3_youngestBorrower_43 : decode cX3_youngestBorrower 43 = .ok (.aload_n 1, 1) := by decide +kernel
theorem dX3_youngestBorrower_44 : decode cX3_youngestBorrower 44 = .ok (.if_acmp .eq 41, 3) := by decide +kernel
theorem dX3_youngestBorrower_47 : decode cX3_youngestBorrower 47 = .ok (.aload 4, 2) := by decide +kernel
theorem dX3_youngestBorrower_49 : decode cX3_youngestBorrower 49 = .ok (.getfield 173, 3) := by decide +kernel
theorem dX3_youngestBorrower_52 : decode cX3_youngestBorrower 52 = .ok (.getfield 98, 3) := by decide +kernel
theorem dX3_youngestBorrower_55 : decode cX3_youngestBorrower 55 = .ok (.aload 4, 2) := by decide +kernel
theorem dX3_youngestBorrower_57 : decode cX3_youngestBorrower 57 = .ok (.getfield 173, 3) := by decide +kernel
theorem dX3_youngestBorrower_60 : decode cX3_youngestBorrower 60 = .ok (.getfield 223, 3) := by decide +kernel
theorem dX3_youngestBorrower_63 : decode cX3_youngestBorrower 63 = .ok (.if_icmp .le 22, 3) := by decide +kernel
theorem dX3_youngestBorrower_66 : decode cX3_youngestBorrower 66 = .ok (.aload_n 2, 1) := by decide +kernel
theorem dX3_youngestBorrower_67 : decode cX3_youngestBorrower 67 = .ok (.ifnull 15, 3) := by decide +kernel
theorem dX3_youngestBorrower_70 : decode cX3_youngestBorrower 70 = .ok (.aload 4, 2) := by decide +kernel
theorem dX3_youngestBorrower_72 : decode cX3_youngestBorrower 72 = .ok (.getfield 298, 3) := by decide +kernel
theorem dX3_youngestBorrower_75 : decode cX3_youngestBorrower 75 = .ok (.aload_n 2, 1) := by decide +kernel
theorem dX3_youngestBorrower_76 : decode cX3_youngestBorrower 76 = .ok (.getfield 298, 3) := by decide +kernel
theorem dX3_youngestBorrower_79 : decode cX3_youngestBorrower 79 = .ok (.if_icmp .le 6, 3) := by decide +kernel
theorem dX3_youngestBorrower_82 : decode cX3_youngestBorrower 82 = .ok (.aload 4, 2) := by decide +kernel
theorem dX3_youngestBorrower_84 : decode cX3_youngestBorrower 84 = .ok (.astore_n 2, 1) := by decide +kernel
theorem dX3_youngestBorrower_85 : decode cX3_youngestBorrower 85 = .ok (.iinc 3 1, 3) := by decide +kernel
theorem dX3_youngestBorrower_88 : decode cX3_youngestBorrower 88 = .ok (.goto (-84), 3) := by decide +kernel
theorem dX3_youngestBorrower_91 : decode cX3_youngestBorrower 91 = .ok (.aload_n 2, 1) := by decide +kernel
theorem dX3_youngestBorrower_92 : decode cX3_youngestBorrower 92 = .ok (.areturn, 1) := by decide +kernel
theorem dX3_freeUnits_0 : decode cX3_freeUnits 0 = .ok (.aload_n 0, 1) := by decide +kernel
theorem dX3_freeUnits_1 : decode cX3_freeUnits 1 = .ok (.getfield 40, 3) := by decide +kernel
theorem dX3_freeUnits_4 : decode cX3_freeUnits 4 = .ok (.aload_n 0, 1) := by decide +kernel
theorem dX3_freeUnits_5 : decode cX3_freeUnits 5 = .ok (.getfield 21, 3) := by decide +kernel
theorem dX3_freeUnits_8 : decode cX3_freeUnits 8 = .ok (.getfield 98, 3) := by decide +kernel
theorem dX3_freeUnits_11 : decode cX3_freeUnits 11 = .ok (.isub, 1) := by decide +kernel
theorem dX3_freeUnits_12 : decode cX3_freeUnits 12 = .ok (.istore_n 2, 1) := by decide +kernel
theorem dX3_freeUnits_13 : decode cX3_freeUnits 13 = .ok (.iconst 0, 1) := by decide +kernel
theorem dX3_freeUnits_14 : decode cX3_freeUnits 14 = .ok (.istore_n 3, 1) := by decide +kernel
theorem dX3_freeUnits_15 : decode cX3_freeUnits 15 = .ok (.iload_n 3, 1) := by decide +kernel
theorem dX3_freeUnits_16 : decode cX3_freeUnits 16 = .ok (.aload_n 0, 1) := by decide +kernel
theorem dX3_freeUnits_17 : decode cX3_freeUnits 17 = .ok (.getfield 10, 3) := by decide +kernel
theorem dX3_freeUnits_20 : decode cX3_freeUnits 20 = .ok (.invokevirtual 65, 3) := by decide +kernel
theorem dX3_freeUnits_23 : decode cX3_freeUnits 23 = .ok (.if_icmp .ge 55, 3) := by decide +kernel
theorem dX3_freeUnits_26 : decode cX3_freeUnits 26 = .ok (.aload_n 0, 1) := by decide +kernel
theorem dX3_freeUnits_27 : decode cX3_freeUnits 27 = .ok (.getfield 10, 3) := by decide +kernel
theorem dX3_freeUnits_30 : decode cX3_freeUnits 30 = .ok (.iload_n 3, 1) := by decide +kernel
theorem dX3_freeUnits_31 : decode cX3_freeUnits 31 = .ok (.invokevirtual 169, 3) := by decide +kernel
theorem dX3_freeUnits_34 : decode cX3_freeUnits 34 = .ok (.checkcast 16, 3) := by decide +kernel
theorem dX3_freeUnits_37 : decode cX3_freeUnits 37 = .ok (.astore 4, 2) := by decide +kernel
theorem dX3_freeUnits_39 : decode cX3_freeUnits 39 = .ok (.aload 4, 2) := by decide +kernel
theorem dX3_freeUnits_41 : decode cX3_freeUnits 41 = .ok (.aload_n 1, 1) := by decide +kernel
theorem dX3_freeUnits_42 : decode cX3_freeUnits 42 = .ok (.if_acmp .eq 30, 3) := by decide +kernel
theorem dX3_freeUnits_45 : decode cX3_freeUnits 45 = .ok (.aload 4, 2) := by decide +kernel
theorem dX3_freeUnits_47 : decode cX3_freeUnits 47 = .ok (.getfield 199, 3) := by decide +kernel
theorem dX3_freeUnits_50 : decode cX3_freeUnits 50 = .ok (.aload 4, 2) := by decide +kernel
theorem dX3_freeUnits_52 : decode cX3_freeUnits 52 = .ok (.getfield 98, 3) := by decide +kernel
theorem dX3_freeUnits_55 : decode cX3_freeUnits 55 = .ok (.if_icmp .le 17, 3) := by decide +kernel
theorem dX3_freeUnits_58 : decode cX3_freeUnits 58 = .ok (.iload_n 2, 1) := by decide +kernel
theorem dX3_freeUnits_59 : decode cX3_freeUnits 59 = .ok (.aload 4, 2) := by decide +kernel
theorem dX3_freeUnits_61 : decode cX3_freeUnits 61 = .ok (.getfield 199, 3) := by decide +kernel
theorem dX3_freeUnits_64 : decode cX3_freeUnits 64 = .ok (.aload 4, 2) := by decide +kernel
theorem dX3_freeUnits_66 : decode cX3_freeUnits 66 = .ok (.getfield 98, 3) := by decide +kernel
theorem dX3_freeUnits_69 : decode cX3_freeUnits 69 = .ok (.isub, 1) := by decide +kernel
theorem dX3_freeUnits_70 : decode cX3_freeUnits 70 = .ok (.isub, 1) := by decide +kernel
theorem dX3_freeUnits_71 : decode cX3_freeUnits 71 = .ok (.istore_n 2, 1) := by decide +kernel
theorem dX3_freeUnits_72 : decode cX3_freeUnits 72 = .ok (.iinc 3 1, 3) := by decide +kernel
theorem dX3_freeUnits_75 : decode cX3_freeUnits 75 = .ok (.goto (-60), 3) := by decide +kernel
theorem dX3_freeUnits_78 : decode cX3_freeUnits 78 = .ok (.iload_n 2, 1) := by decide +kernel
theorem dX3_freeUnits_79 : decode cX3_freeUnits 79 = .ok (.ireturn, 1) := by decide +kernel
theorem dX3_reservationFor_0 : decode cX3_reservationFor 0 = .ok (.iconst 0, 1) := by decide +kernel
theorem dX3_reservationFor_1 : decode cX3_reservationFor 1 = .ok (.istore 4, 2) := by decide +kernel
theorem dX3_reservationFor_3 : decode cX3_reservationFor 3 = .ok (.iload 4, 2) := by decide +kernel
theorem dX3_reservationFor_5 : decode cX3_reservationFor 5 = .ok (.aload_n 0, 1) := by decide +kernel
theorem dX3_reservationFor_6 : decode cX3_reservationFor 6 = .ok (.getfield 31, 3) := by decide +kernel
theorem dX3_reservationFor_9 : decode cX3_reservationFor 9 = .ok (.invokevirtual 65, 3) := by decide +kernel
theorem dX3_reservationFor_12 : decode cX3_reservationFor 12 = .ok (.if_icmp .ge 56, 3) := by decide +kernel
theorem dX3_reservationFor_15 : decode cX3_reservationFor 15 = .ok (.aload_n 0, 1) := by decide +kernel
theorem dX3_reservationFor_16 : decode cX3_reservationFor 16 = .ok (.getfield 31, 3) := by decide +kernel
theorem dX3_reservationFor_19 : decode cX3_reservationFor 19 = .ok (.iload 4, 2) := by decide +kernel
theorem dX3_reservationFor_21 : decode cX3_reservationFor 21 = .ok (.invokevirtual 169, 3) := by decide +kernel
theorem dX3_reservationFor_24 : decode cX3_reservationFor 24 = .ok (.checkcast 181, 3) := by decide +kernel
theorem dX3_reservationFor_27 : decode cX3_reservationFor 27 = .ok (.astore 5, 2) := by decide +kernel
theorem dX3_reservationFor_29 : decode cX3_reservationFor 29 = .ok (.aload 5, 2) := by decide +kernel
theorem dX3_reservationFor_31 : decode cX3_reservationFor 31 = .ok (.getfield 324, 3) := by decide +kernel
theorem dX3_reservationFor_34 : decode cX3_reservationFor 34 = .ok (.getfield 86, 3) := by decide +kernel
theorem dX3_reservationFor_37 : decode cX3_reservationFor 37 = .ok (.iload_n 1, 1) := by decide +kernel
theorem dX3_reservationFor_38 : decode cX3_reservationFor 38 = .ok (.if_icmp .ne 24, 3) := by decide +kernel
theorem dX3_reservationFor_41 : decode cX3_reservationFor 41 = .ok (.aload 5, 2) := by decide +kernel
theorem dX3_reservationFor_43 : decode cX3_reservationFor 43 = .ok (.getfield 325, 3) := by decide +kernel
theorem dX3_reservationFor_46 : decode cX3_reservationFor 46 = .ok (.iload_n 2, 1) := by decide +kernel
theorem dX3_reservationFor_47 : decode cX3_reservationFor 47 = .ok (.if_icmp .ne 15, 3) := by decide +kernel
theorem dX3_reservationFor_50 : decode cX3_reservationFor 50 = .ok (.aload 5, 2) := by decide +kernel
theorem dX3_reservationFor_52 : decode cX3_reservationFor 52 = .ok (.getfield 328, 3) := by decide +kernel
theorem dX3_reservationFor_55 : decode cX3_reservationFor 55 = .ok (.iload_n 3, 1) := by decide +kernel
theorem dX3_reservationFor_56 : decode cX3_reservationFor 56 = .ok (.if_icmp .ne 6, 3) := by decide +kernel
theorem dX3_reservationFor_59 : decode cX3_reservationFor 59 = .ok (.aload 5, 2) := by decide +kernel
theorem dX3_reservationFor_61 : decode cX3_reservationFor 61 = .ok (.areturn, 1) := by decide +kernel
theorem dX3_reservationFor_62 : decode cX3_reservationFor 62 = .ok (.iinc 4 1, 3) := by decide +kernel
theorem dX3_reservationFor_65 : decode cX3_reservationFor 65 = .ok (.goto (-62), 3) := by decide +kernel
theorem dX3_reservationFor_68 : decode cX3_reservationFor 68 = .ok (.aconst_null, 1) := by decide +kernel
theorem dX3_reservationFor_69 : decode cX3_reservationFor 69 = .ok (.areturn, 1) := by decide +kernel
theorem dX3_forgetReservation_0 : decode cX3_forgetReservation 0 = .ok (.aload_n 0, 1) := by decide +kernel
theorem dX3_forgetReservation_1 : decode cX3_forgetReservation 1 = .ok (.getfield 31, 3) := by decide +kernel
theorem dX3_forgetReservation_4 : decode cX3_forgetReservation 4 = .ok (.invokevirtual 65, 3) := by decide +kernel
theorem dX3_forgetReservation_7 : decode cX3_forgetReservation 7 = .ok (.iconst 1, 1) := by decide +kernel
theorem dX3_forgetReservation_8 : decode cX3_forgetReservation 8 = .ok (.isub, 1) := by decide +kernel
theorem dX3_forgetReservation_9 : decode cX3_forgetReservation 9 = .ok (.istore_n 2, 1) := by decide +kernel
theorem dX3_forgetReservation_10 : decode cX3_forgetReservation 10 = .ok (.iload_n 2, 1) := by decide +kernel
theorem dX3_forgetReservation_11 : decode cX3_forgetReservation 11 = .ok (.ifCond .lt 30, 3) := by decide +kernel
theorem dX3_forgetReservation_14 : decode cX3_forgetReservation 14 = .ok (.aload_n 0, 1) := by decide +kernel
theorem dX3_forgetReservation_15 : decode cX3_forgetReservation 15 = .ok (.getfield 31, 3) := by decide +kernel
theorem dX3_forgetReservation_18 : decode cX3_forgetReservation 18 = .ok (.iload_n 2, 1) := by decide +kernel
theorem dX3_forgetReservation_19 : decode cX3_forgetReservation 19 = .ok (.invokevirtual 169, 3) := by decide +kernel
theorem dX3_forgetReservation_22 : decode cX3_forgetReservation 22 = .ok (.aload_n 1, 1) := by decide +kernel
theorem dX3_forgetReservation_23 : decode cX3_forgetReservation 23 = .ok (.if_acmp .ne 12, 3) := by decide +kernel
theorem dX3_forgetReservation_26 : decode cX3_forgetReservation 26 = .ok (.aload_n 0, 1) := by decide +kernel
theorem dX3_forgetReservation_27 : decode cX3_forgetReservation 27 = .ok (.getfield 31, 3) := by decide +kernel
theorem dX3_forgetReservation_30 : decode cX3_forgetReservation 30 = .ok (.iload_n 2, 1) := by decide +kernel
theorem dX3_forgetReservation_31 : decode cX3_forgetReservation 31 = .ok (.invokevirtual 277, 3) := by decide +kernel
theorem dX3_forgetReservation_34 : decode cX3_forgetReservation 34 = .ok (.pop, 1) := by decide +kernel
theorem dX3_forgetReservation_35 : decode cX3_forgetReservation 35 = .ok (.iinc 2 (-1), 3) := by decide +kernel
theorem dX3_forgetReservation_38 : decode cX3_forgetReservation 38 = .ok (.goto (-28), 3) := by decide +kernel
theorem dX3_forgetReservation_41 : decode cX3_forgetReservation 41 = .ok (.return_, 1) := by decide +kernel
theorem dX3_reckonHeldUnits_0 : decode cX3_reckonHeldUnits 0 = .ok (.iconst 0, 1) := by decide +kernel
theorem dX3_reckonHeldUnits_1 : decode cX3_reckonHeldUnits 1 = .ok (.istore_n 1, 1) := by decide +kernel
theorem dX3_reckonHeldUnits_2 : decode cX3_reckonHeldUnits 2 = .ok (.iload_n 1, 1) := by decide +kernel
theorem dX3_reckonHeldUnits_3 : decode cX3_reckonHeldUnits 3 = .ok (.aload_n 0, 1) := by decide +kernel
theorem dX3_reckonHeldUnits_4 : decode cX3_reckonHeldUnits 4 = .ok (.getfield 10, 3) := by decide +kernel
theorem dX3_reckonHeldUnits_7 : decode cX3_reckonHeldUnits 7 = .ok (.invokevirtual 65, 3) := by decide +kernel
theorem dX3_reckonHeldUnits_10 : decode cX3_reckonHeldUnits 10 = .ok (.if_icmp .ge 24, 3) := by decide +kernel
theorem dX3_reckonHeldUnits_13 : decode cX3_reckonHeldUnits 13 = .ok (.aload_n 0, 1) := by decide +kernel
theorem dX3_reckonHeldUnits_14 : decode cX3_reckonHeldUnits 14 = .ok (.getfield 10, 3) := by decide +kernel
theorem dX3_reckonHeldUnits_17 : decode cX3_reckonHeldUnits 17 = .ok (.iload_n 1, 1) := by decide +kernel
theorem dX3_reckonHeldUnits_18 : decode cX3_reckonHeldUnits 18 = .ok (.invokevirtual 169, 3) := by decide +kernel
theorem dX3_reckonHeldUnits_21 : decode cX3_reckonHeldUnits 21 = .ok (.checkcast 16, 3) := by decide +kernel
theorem dX3_reckonHeldUnits_24 : decode cX3_reckonHeldUnits 24 = .ok (.iconst 0, 1) := by decide +kernel
theorem dX3_reckonHeldUnits_25 : decode cX3_reckonHeldUnits 25 = .ok (.putfield 199, 3) := by decide +kernel
theorem dX3_reckonHeldUnits_28 : decode cX3_reckonHeldUnits 28 = .ok (.iinc 1 1, 3) := by decide +kernel
theorem dX3_reckonHeldUnits_31 : decode cX3_reckonHeldUnits 31 = .ok (.goto (-29), 3) := by decide +kernel
theorem dX3_reckonHeldUnits_34 : decode cX3_reckonHeldUnits 34 = .ok (.iconst 0, 1) := by decide +kernel
theorem dX3_reckonHeldUnits_35 : decode cX3_reckonHeldUnits 35 = .ok (.istore_n 1, 1) := by decide +kernel
theorem dX3_reckonHeldUnits_36 : decode cX3_reckonHeldUnits 36 = .ok (.iload_n 1, 1) := by decide +kernel
theorem dX3_reckonHeldUnits_37 : decode cX3_reckonHeldUnits 37 = .ok (.aload_n 0, 1) := by decide +kernel
theorem dX3_reckonHeldUnits_38 : decode cX3_reckonHeldUnits 38 = .ok (.getfield 31, 3) := by decide +kernel
theorem dX3_reckonHeldUnits_41 : decode cX3_reckonHeldUnits 41 = .ok (.invokevirtual 65, 3) := by decide +kernel
theorem dX3_reckonHeldUnits_44 : decode cX3_reckonHeldUnits 44 = .ok (.if_icmp .ge 59, 3) := by decide +kernel
theorem dX3_reckonHeldUnits_47 : decode cX3_reckonHeldUnits 47 = .ok (.aload_n 0, 1) := by decide +kernel
theorem dX3_reckonHeldUnits_48 : decode cX3_reckonHeldUnits 48 = .ok (.getfield 31, 3) := by decide +kernel
theorem dX3_reckonHeldUnits_51 : decode cX3_reckonHeldUnits 51 = .ok (.iload_n 1, 1) := by decide +kernel
theorem dX3_reckonHeldUnits_52 : decode cX3_reckonHeldUnits 52 = .ok (.invokevirtual 169, 3) := by decide +kernel
theorem dX3_reckonHeldUnits_55 : decode cX3_reckonHeldUnits 55 = .ok (.checkcast 181, 3) := by decide +kernel
theorem dX3_reckonHeldUnits_58 : decode cX3_reckonHeldUnits 58 = .ok (.astore_n 2, 1) := by decide +kernel
theorem dX3_reckonHeldUnits_59 : decode cX3_reckonHeldUnits 59 = .ok (.aload_n 2, 1) := by decide +kernel
theorem dX3_reckonHeldUnits_60 : decode cX3_reckonHeldUnits 60 = .ok (.getfield 325, 3) := by decide +kernel
theorem dX3_reckonHeldUnits_63 : decode cX3_reckonHeldUnits 63 = .ok (.aload_n 0, 1) := by decide +kernel
theorem dX3_reckonHeldUnits_64 : decode cX3_reckonHeldUnits 64 = .ok (.getfield 47, 3) := by decide +kernel
theorem dX3_reckonHeldUnits_67 : decode cX3_reckonHeldUnits 67 = .ok (.if_icmp .gt 30, 3) := by decide +kernel
theorem dX3_reckonHeldUnits_70 : decode cX3_reckonHeldUnits 70 = .ok (.aload_n 0, 1) := by decide +kernel
theorem dX3_reckonHeldUnits_71 : decode cX3_reckonHeldUnits 71 = .ok (.getfield 47, 3) := by decide +kernel
theorem dX3_reckonHeldUnits_74 : decode cX3_reckonHeldUnits 74 = .ok (.aload_n 2, 1) := by decide +kernel
theorem dX3_reckonHeldUnits_75 : decode cX3_reckonHeldUnits 75 = .ok (.getfield 328, 3) := by decide +kernel
theorem dX3_reckonHeldUnits_78 : decode cX3_reckonHeldUnits 78 = .ok (.if_icmp .ge 19, 3) := by decide +kernel
theorem dX3_reckonHeldUnits_81 : decode cX3_reckonHeldUnits 81 = .ok (.aload_n 2, 1) := by decide +kernel
theorem dX3_reckonHeldUnits_82 : decode cX3_reckonHeldUnits 82 = .ok (.getfield 324, 3) := by decide +kernel
theorem dX3_reckonHeldUnits_85 : decode cX3_reckonHeldUnits 85 = .ok (.dup, 1) := by decide +kernel
theorem dX3_reckonHeldUnits_86 : decode cX3_reckonHeldUnits 86 = .ok (.getfield 199, 3) := by decide +kernel
theorem dX3_reckonHeldUnits_89 : decode cX3_reckonHeldUnits 89 = .ok (.aload_n 2, 1) := by decide +kernel
theorem dX3_reckonHeldUnits_90 : decode cX3_reckonHeldUnits 90 = .ok (.getfield 180, 3) := by decide +kernel
theorem dX3_reckonHeldUnits_93 : decode cX3_reckonHeldUnits 93 = .ok (.iadd, 1) := by decide +kernel
theorem dX3_reckonHeldUnits_94 : decode cX3_reckonHeldUnits 94 = .ok (.putfield 199, 3) := by decide +kernel
theorem dX3_reckonHeldUnits_97 : decode cX3_reckonHeldUnits 97 = .ok (.iinc 1 1, 3) := by decide +kernel
theorem dX3_reckonHeldUnits_100 : decode cX3_reckonHeldUnits 100 = .ok (.goto (-64), 3) := by decide +kernel
theorem dX3_reckonHeldUnits_103 : decode cX3_reckonHeldUnits 103 = .ok (.return_, 1) := by decide +kernel
theorem dX3_reckonDues_0 : decode cX3_reckonDues 0 = .ok (.aload_n 0, 1) := by decide +kernel
theorem dX3_reckonDues_1 : decode cX3_reckonDues 1 = .ok (.invokevirtual 202, 3) := by decide +kernel
theorem dX3_reckonDues_4 : decode cX3_reckonDues 4 = .ok (.aload_n 0, 1) := by decide +kernel
theorem dX3_reckonDues_5 : decode cX3_reckonDues 5 = .ok (.invokevirtual 208, 3) := by decide +kernel
theorem dX3_reckonDues_8 : decode cX3_reckonDues 8 = .ok (.aload_n 0, 1) := by decide +kernel
theorem dX3_reckonDues_9 : decode cX3_reckonDues 9 = .ok (.invokevirtual 196, 3) := by decide +kernel
theorem dX3_reckonDues_12 : decode cX3_reckonDues 12 = .ok (.iconst 0, 1) := by decide +kernel
theorem dX3_reckonDues_13 : decode cX3_reckonDues 13 = .ok (.istore_n 1, 1) := by decide +kernel
theorem dX3_reckonDues_14 : decode cX3_reckonDues 14 = .ok (.iload_n 1, 1) := by decide +kernel
theorem dX3_reckonDues_15 : decode cX3_reckonDues 15 = .ok (.aload_n 0, 1) := by decide +kernel
theorem dX3_reckonDues_16 : decode cX3_reckonDues 16 = .ok (.getfield 10, 3) := by decide +kernel
theorem dX3_reckonDues_19 : decode cX3_reckonDues 19 = .ok (.invokevirtual 65, 3) := by decide +kernel
theorem dX3_reckonDues_22 : decode cX3_reckonDues 22 = .ok (.if_icmp .ge 36, 3) := by decide +kernel
theorem dX3_reckonDues_25 : decode cX3_reckonDues 25 = .ok (.aload_n 0, 1) := by decide +kernel
theorem dX3_reckonDues_26 : decode cX3_reckonDues 26 = .ok (.getfield 10, 3) := by decide +kernel
theorem dX3_reckonDues_29 : decode cX3_reckonDues 29 = .ok (.iload_n 1, 1) := by decide +kernel
theorem dX3_reckonDues_30 : decode cX3_reckonDues 30 = .ok (.invokevirtual 169, 3) := by decide +kernel
theorem dX3_reckonDues_33 : decode cX3_reckonDues 33 = .ok (.checkcast 16, 3) := by decide +kernel
theorem dX3_reckonDues_36 : decode cX3_reckonDues 36 = .ok (.astore_n 2, 1) := by decide +kernel
theorem dX3_reckonDues_37 : decode cX3_reckonDues 37 = .ok (.aload_n 2, 1) := by decide +kernel
theorem dX3_reckonDues_38 : decode cX3_reckonDues 38 = .ok (.aload_n 2, 1) := by decide +kernel
theorem dX3_reckonDues_39 : decode cX3_reckonDues 39 = .ok (.getfield 211, 3) := by decide +kernel
theorem dX3_reckonDues_42 : decode cX3_reckonDues 42 = .ok (.aload_n 2, 1) := by decide +kernel
theorem dX3_reckonDues_43 : decode cX3_reckonDues 43 = .ok (.getfield 199, 3) := by decide +kernel
theorem dX3_reckonDues_46 : decode cX3_reckonDues 46 = .ok (.invokestatic 331, 3) := by decide +kernel
theorem dX3_reckonDues_49 : decode cX3_reckonDues 49 = .ok (.putfield 223, 3) := by decide +kernel
theorem dX3_reckonDues_52 : decode cX3_reckonDues 52 = .ok (.iinc 1 1, 3) := by decide +kernel
theorem dX3_reckonDues_55 : decode cX3_reckonDues 55 = .ok (.goto (-41), 3) := by decide +kernel
theorem dX3_reckonDues_58 : decode cX3_reckonDues 58 = .ok (.return_, 1) := by decide +kernel
theorem dX3_reckonDemands_0 : decode cX3_reckonDemands 0 = .ok (.iconst 0, 1) := by decide +kernel
theorem dX3_reckonDemands_1 : decode cX3_reckonDemands 1 = .ok (.istore_n 1, 1) := by decide +kernel
theorem dX3_reckonDemands_2 : decode cX3_reckonDemands 2 = .ok (.iload_n 1, 1) := by decide +kernel
theorem dX3_reckonDemands_3 : decode cX3_reckonDemands 3 = .ok (.aload_n 0, 1) := by decide +kernel
theorem dX3_reckonDemands_4 : decode cX3_reckonDemands 4 = .ok (.getfield 10, 3) := by decide +kernel
theorem dX3_reckonDemands_7 : decode cX3_reckonDemands 7 = .ok (.invokevirtual 65, 3) := by decide +kernel
theorem dX3_reckonDemands_10 : decode cX3_reckonDemands 10 = .ok (.if_icmp .ge 24, 3) := by decide +kernel
theorem dX3_reckonDemands_13 : decode cX3_reckonDemands 13 = .ok (.aload_n 0, 1) := by decide +kernel
theorem dX3_reckonDemands_14 : decode cX3_reckonDemands 14 = .ok (.getfield 10, 3) := by decide +kernel
theorem dX3_reckonDemands_17 : decode cX3_reckonDemands 17 = .ok (.iload_n 1, 1) := by decide +kernel
theorem dX3_reckonDemands_18 : decode cX3_reckonDemands 18 = .ok (.invokevirtual 169, 3) := by decide +kernel
theorem dX3_reckonDemands_21 : decode cX3_reckonDemands 21 = .ok (.checkcast 16, 3) := by decide +kernel
theorem dX3_reckonDemands_24 : decode cX3_reckonDemands 24 = .ok (.iconst 0, 1) := by decide +kernel
theorem dX3_reckonDemands_25 : decode cX3_reckonDemands 25 = .ok (.putfield 205, 3) := by decide +kernel
theorem dX3_reckonDemands_28 : decode cX3_reckonDemands 28 = .ok (.iinc 1 1, 3) := by decide +kernel
theorem dX3_reckonDemands_31 : decode cX3_reckonDemands 31 = .ok (.goto (-29), 3) := by decide +kernel
theorem dX3_reckonDemands_34 : decode cX3_reckonDemands 34 = .ok (.iconst 0, 1) := by decide +kernel
theorem dX3_reckonDemands_35 : decode cX3_reckonDemands 35 = .ok (.istore_n 1, 1) := by decide +kernel
theorem dX3_reckonDemands_36 : decode cX3_reckonDemands 36 = .ok (.iload_n 1, 1) := by decide +kernel
theorem dX3_reckonDemands_37 : decode cX3_reckonDemands 37 = .ok (.aload_n 0, 1) := by decide +kernel
theorem dX3_reckonDemands_38 : decode cX3_reckonDemands 38 = .ok (.getfield 28, 3) := by decide +kernel
theorem dX3_reckonDemands_41 : decode cX3_reckonDemands 41 = .ok (.invokevirtual 65, 3) := by decide +kernel
theorem dX3_reckonDemands_44 : decode cX3_reckonDemands 44 = .ok (.if_icmp .ge 37, 3) := by decide +kernel
theorem dX3_reckonDemands_47 : decode cX3_reckonDemands 47 = .ok (.aload_n 0, 1) := by decide +kernel
theorem dX3_reckonDemands_48 : decode cX3_reckonDemands 48 = .ok (.getfield 28, 3) := by decide +kernel
theorem dX3_reckonDemands_51 : decode cX3_reckonDemands 51 = .ok (.iload_n 1, 1) := by decide +kernel
theorem dX3_reckonDemands_52 : decode cX3_reckonDemands 52 = .ok (.invokevirtual 169, 3) := by decide +kernel
theorem dX3_reckonDemands_55 : decode cX3_reckonDemands 55 = .ok (.checkcast 112, 3) := by decide +kernel
theorem dX3_reckonDemands_58 : decode cX3_reckonDemands 58 = .ok (.astore_n 2, 1) := by decide +kernel
theorem dX3_reckonDemands_59 : decode cX3_reckonDemands 59 = .ok (.aload_n 2, 1) := by decide +kernel
theorem dX3_reckonDemands_60 : decode cX3_reckonDemands 60 = .ok (.getfield 173, 3) := by decide +kernel
theorem dX3_reckonDemands_63 : decode cX3_reckonDemands 63 = .ok (.dup, 1) := by decide +kernel
theorem dX3_reckonDemands_64 : decode cX3_reckonDemands 64 = .ok (.getfield 205, 3) := by decide +kernel
theorem dX3_reckonDemands_67 : decode cX3_reckonDemands 67 = .ok (.aload_n 2, 1) := by decide +kernel
theorem dX3_reckonDemands_68 : decode cX3_reckonDemands 68 = .ok (.getfield 126, 3) := by decide +kernel
theorem dX3_reckonDemands_71 : decode cX3_reckonDemands 71 = .ok (.iadd, 1) := by decide +kernel
theorem dX3_reckonDemands_72 : decode cX3_reckonDemands 72 = .ok (.putfield 205, 3) := by decide +kernel
theorem dX3_reckonDemands_75 : decode cX3_reckonDemands 75 = .ok (.iinc 1 1, 3) := by decide +kernel
theorem dX3_reckonDemands_78 : decode cX3_reckonDemands 78 = .ok (.goto (-42), 3) := by decide +kernel
theorem dX3_reckonDemands_81 : decode cX3_reckonDemands 81 = .ok (.aload_n 0, 1) := by decide +kernel
theorem dX3_reckonDemands_82 : decode cX3_reckonDemands 82 = .ok (.getfield 10, 3) := by decide +kernel
theorem dX3_reckonDemands_85 : decode cX3_reckonDemands 85 = .ok (.invokevirtual 65, 3) := by decide +kernel
theorem dX3_reckonDemands_88 : decode cX3_reckonDemands 88 = .ok (.iconst 1, 1) := by decide +kernel
theorem dX3_reckonDemands_89 : decode cX3_reckonDemands 89 = .ok (.isub, 1) := by decide +kernel
theorem dX3_reckonDemands_90 : decode cX3_reckonDemands 90 = .ok (.istore_n 1, 1) := by decide +kernel
theorem dX3_reckonDemands_91 : decode cX3_reckonDemands 91 = .ok (.iload_n 1, 1) := by decide +kernel
theorem dX3_reckonDemands_92 : decode cX3_reckonDemands 92 = .ok (.ifCond .lt 23, 3) := by decide +kernel
theorem dX3_reckonDemands_95 : decode cX3_reckonDemands 95 = .ok (.aload_n 0, 1) := by decide +kernel
theorem dX3_reckonDemands_96 : decode cX3_reckonDemands 96 = .ok (.getfield 10, 3) := by decide +kernel
theorem dX3_reckonDemands_99 : decode cX3_reckonDemands 99 = .ok (.iload_n 1, 1) := by decide +kernel
theorem dX3_reckonDemands_100 : decode cX3_reckonDemands 100 = .ok (.invokevirtual 169, 3) := by decide +kernel
theorem dX3_reckonDemands_103 : decode cX3_reckonDemands 103 = .ok (.checkcast 16, 3) := by decide +kernel
theorem dX3_reckonDemands_106 : decode cX3_reckonDemands 106 = .ok (.invokevirtual 337, 3) := by decide +kernel
theorem dX3_reckonDemands_109 : decode cX3_reckonDemands 109 = .ok (.iinc 1 (-1), 3) := by decide +kernel
theorem dX3_reckonDemands_112 : decode cX3_reckonDemands 112 = .ok (.goto (-21), 3) := by decide +kernel
theorem dX3_reckonDemands_115 : decode cX3_reckonDemands 115 = .ok (.return_, 1) := by decide +kernel
theorem dX3_dealShares_0 : decode cX3_dealShares 0 = .ok (.aload_n 0, 1) := by decide +kernel
theorem dX3_dealShares_1 : decode cX3_dealShares 1 = .ok (.getfield 21, 3) := by decide +kernel
theorem dX3_dealShares_4 : decode cX3_dealShares 4 = .ok (.aload_n 0, 1) := by decide +kernel
theorem dX3_dealShares_5 : decode cX3_dealShares 5 = .ok (.invokevirtual 340, 3) := by decide +kernel
theorem dX3_dealShares_8 : decode cX3_dealShares 8 = .ok (.putfield 211, 3) := by decide +kernel
theorem dX3_dealShares_11 : decode cX3_dealShares 11 = .ok (.iconst 0, 1) := by decide +kernel
theorem dX3_dealShares_12 : decode cX3_dealShares 12 = .ok (.istore_n 1, 1) := by decide +kernel
theorem dX3_dealShares_13 : decode cX3_dealShares 13 = .ok (.iload_n 1, 1) := by decide +kernel
theorem dX3_dealShares_14 : decode cX3_dealShares 14 = .ok (.aload_n 0, 1) := by decide +kernel
theorem dX3_dealShares_15 : decode cX3_dealShares 15 = .ok (.getfield 10, 3) := by decide +kernel
theorem dX3_dealShares_18 : decode cX3_dealShares 18 = .ok (.invokevirtual 65, 3) := by decide +kernel
theorem dX3_dealShares_21 : decode cX3_dealShares 21 = .ok (.if_icmp .ge 23, 3) := by decide +kernel
theorem dX3_dealShares_24 : decode cX3_dealShares 24 = .ok (.aload_n 0, 1) := by decide +kernel
theorem dX3_dealShares_25 : decode cX3_dealShares 25 = .ok (.getfield 10, 3) := by decide +kernel
theorem dX3_dealShares_28 : decode cX3_dealShares 28 = .ok (.iload_n 1, 1) := by decide +kernel
theorem dX3_dealShares_29 : decode cX3_dealShares 29 = .ok (.invokevirtual 169, 3) := by decide +kernel
theorem dX3_dealShares_32 : decode cX3_dealShares 32 = .ok (.checkcast 16, 3) := by decide +kernel
theorem dX3_dealShares_35 : decode cX3_dealShares 35 = .ok (.invokevirtual 343, 3) := by decide +kernel
theorem dX3_dealShares_38 : decode cX3_dealShares 38 = .ok (.iinc 1 1, 3) := by decide +kernel
theorem dX3_dealShares_41 : decode cX3_dealShares 41 = .ok (.goto (-28), 3) := by decide +kernel
theorem dX3_dealShares_44 : decode cX3_dealShares 44 = .ok (.return_, 1) := by decide +kernel
theorem dX3_fillShares_0 : decode cX3_fillShares 0 = .ok (.aload_n 0, 1) := by decide +kernel
theorem dX3_fillShares_1 : decode cX3_fillShares 1 = .ok (.getfield 21, 3) := by decide +kernel
theorem dX3_fillShares_4 : decode cX3_fillShares 4 = .ok (.aload_n 0, 1) := by decide +kernel
theorem dX3_fillShares_5 : decode cX3_fillShares 5 = .ok (.invokevirtual 340, 3) := by decide +kernel
theorem dX3_fillShares_8 : decode cX3_fillShares 8 = .ok (.putfield 217, 3) := by decide +kernel
theorem dX3_fillShares_11 : decode cX3_fillShares 11 = .ok (.iconst 0, 1) := by decide +kernel
theorem dX3_fillShares_12 : decode cX3_fillShares 12 = .ok (.istore_n 1, 1) := by decide +kernel
theorem dX3_fillShares_13 : decode cX3_fillShares 13 = .ok (.iload_n 1, 1) := by decide +kernel
theorem dX3_fillShares_14 : decode cX3_fillShares 14 = .ok (.aload_n 0, 1) := by decide +kernel
theorem dX3_fillShares_15 : decode cX3_fillShares 15 = .ok (.getfield 10, 3) := by decide +kernel
theorem dX3_fillShares_18 : decode cX3_fillShares 18 = .ok (.invokevirtual 65, 3) := by decide +kernel
theorem dX3_fillShares_21 : decode cX3_fillShares 21 = .ok (.if_icmp .ge 23, 3) := by decide +kernel
theorem dX3_fillShares_24 : decode cX3_fillShares 24 = .ok (.aload_n 0, 1) := by decide +kernel
theorem dX3_fillShares_25 : decode cX3_fillShares 25 = .ok (.getfield 10, 3) := by decide +kernel
theorem dX3_fillShares_28 : decode cX3_fillShares 28 = .ok (.iload_n 1, 1) := by decide +kernel
theorem dX3_fillShares_29 : decode cX3_fillShares 29 = .ok (.invokevirtual 169, 3) := by decide +kernel
theorem dX3_fillShares_32 : decode cX3_fillShares 32 = .ok (.checkcast 16, 3) := by decide +kernel
theorem dX3_fillShares_35 : decode cX3_fillShares 35 = .ok (.invokevirtual 346, 3) := by decide +kernel
theorem dX3_fillShares_38 : decode cX3_fillShares 38 = .ok (.iinc 1 1, 3) := by decide +kernel
theorem dX3_fillShares_41 : decode cX3_fillShares 41 = .ok (.goto (-28), 3) := by decide +kernel
theorem dX3_fillShares_44 : decode cX3_fillShares 44 = .ok (.return_, 1) := by decide +kernel
theorem dX3_rootShare_0 : decode cX3_rootShare 0 = .ok (.aload_n 0, 1) := by decide +kernel
theorem dX3_rootShare_1 : decode cX3_rootShare 1 = .ok (.getfield 40, 3) := by decide +kernel
theorem dX3_rootShare_4 : decode cX3_rootShare 4 = .ok (.aload_n 0, 1) := by decide +kernel
theorem dX3_rootShare_5 : decode cX3_rootShare 5 = .ok (.getfield 21, 3) := by decide +kernel
theorem dX3_rootShare_8 : decode cX3_rootShare 8 = .ok (.getfield 205, 3) := by decide +kernel
theorem dX3_rootShare_11 : decode cX3_rootShare 11 = .ok (.invokestatic 349, 3) := by decide +kernel
theorem dX3_rootShare_14 : decode cX3_rootShare 14 = .ok (.ireturn, 1) := by decide +kernel
theorem dX3_sharesAreFair_0 : decode cX3_sharesAreFair 0 = .ok (.iconst 0, 1) := by decide +kernel
theorem dX3_sharesAreFair_1 : decode cX3_sharesAreFair 1 = .ok (.istore_n 1, 1) := by decide +kernel
theorem dX3_sharesAreFair_2 : decode cX3_sharesAreFair 2 = .ok (.iload_n 1, 1) := by decide +kernel
theorem dX3_sharesAreFair_3 : decode cX3_sharesAreFair 3 = .ok (.aload_n 0, 1) := by decide +kernel
theorem dX3_sharesAreFair_4 : decode cX3_sharesAreFair 4 = .ok (.getfield 10, 3) := by decide +kernel
theorem dX3_sharesAreFair_7 : decode cX3_sharesAreFair 7 = .ok (.invokevirtual 65, 3) := by decide +kernel
theorem dX3_sharesAreFair_10 : decode cX3_sharesAreFair 10 = .ok (.if_icmp .ge 45, 3) := by decide +kernel
theorem dX3_sharesAreFair_13 : decode cX3_sharesAreFair 13 = .ok (.aload_n 0, 1) := by decide +kernel
theorem dX3_sharesAreFair_14 : decode cX3_sharesAreFair 14 = .ok (.getfield 10, 3) := by decide +kernel
theorem dX3_sharesAreFair_17 : decode cX3_sharesAreFair 17 = .ok (.iload_n 1, 1) := by decide +kernel
theorem dX3_sharesAreFair_18 : decode cX3_sharesAreFair 18 = .ok (.invokevirtual 169, 3) := by decide +kernel
theorem dX3_sharesAreFair_21 : decode cX3_sharesAreFair 21 = .ok (.checkcast 16, 3) := by decide +kernel
theorem dX3_sharesAreFair_24 : decode cX3_sharesAreFair 24 = .ok (.astore_n 2, 1) := by decide +kernel
theorem dX3_sharesAreFair_25 : decode cX3_sharesAreFair 25 = .ok (.aload_n 2, 1) := by decide +kernel
theorem dX3_sharesAreFair_26 : decode cX3_sharesAreFair 26 = .ok (.getfield 211, 3) := by decide +kernel
theorem dX3_sharesAreFair_29 : decode cX3_sharesAreFair 29 = .ok (.aload_n 2, 1) := by decide +kernel
theorem dX3_sharesAreFair_30 : decode cX3_sharesAreFair 30 = .ok (.getfield 217, 3) := by decide +kernel
theorem dX3_sharesAreFair_33 : decode cX3_sharesAreFair 33 = .ok (.if_icmp .ne 14, 3) := by decide +kernel
theorem dX3_sharesAreFair_36 : decode cX3_sharesAreFair 36 = .ok (.aload_n 2, 1) := by decide +kernel
theorem dX3_sharesAreFair_37 : decode cX3_sharesAreFair 37 = .ok (.invokevirtual 352, 3) := by decide +kernel
theorem dX3_sharesAreFair_40 : decode cX3_sharesAreFair 40 = .ok (.aload_n 2, 1) := by decide +kernel
theorem dX3_sharesAreFair_41 : decode cX3_sharesAreFair 41 = .ok (.getfield 211, 3) := by decide +kernel
theorem dX3_sharesAreFair_44 : decode cX3_sharesAreFair 44 = .ok (.if_icmp .le 5, 3) := by decide +kernel
theorem dX3_sharesAreFair_47 : decode cX3_sharesAreFair 47 = .ok (.iconst 0, 1) := by decide +kernel
theorem dX3_sharesAreFair_48 : decode cX3_sharesAreFair 48 = .ok (.ireturn, 1) := by decide +kernel
theorem dX3_sharesAreFair_49 : decode cX3_sharesAreFair 49 = .ok (.iinc 1 1, 3) := by decide +kernel
theorem dX3_sharesAreFair_52 : decode cX3_sharesAreFair 52 = .ok (.goto (-50), 3) := by decide +kernel
theorem dX3_sharesAreFair_55 : decode cX3_sharesAreFair 55 = .ok (.iconst 1, 1) := by decide +kernel
theorem dX3_sharesAreFair_56 : decode cX3_sharesAreFair 56 = .ok (.ireturn, 1) := by decide +kernel
theorem dX3_someFirstJobCanBeServed_0 : decode cX3_someFirstJobCanBeServed 0 = .ok (.aload_n 0, 1) := by decide +kernel
theorem dX3_someFirstJobCanBeServed_1 : decode cX3_someFirstJobCanBeServed 1 = .ok (.invokevirtual 164, 3) := by decide +kernel
theorem dX3_someFirstJobCanBeServed_4 : decode cX3_someFirstJobCanBeServed 4 = .ok (.iconst 0, 1) := by decide +kernel
theorem dX3_someFirstJobCanBeServed_5 : decode cX3_someFirstJobCanBeServed 5 = .ok (.istore_n 1, 1) := by decide +kernel
theorem dX3_someFirstJobCanBeServed_6 : decode cX3_someFirstJobCanBeServed 6 = .ok (.iload_n 1, 1) := by decide +kernel
theorem dX3_someFirstJobCanBeServed_7 : decode cX3_someFirstJobCanBeServed 7 = .ok (.aload_n 0, 1) := by decide +kernel
theorem dX3_someFirstJobCanBeServed_8 : decode cX3_someFirstJobCanBeServed 8 = .ok (.getfield 34, 3) := by decide +kernel
theorem dX3_someFirstJobCanBeServed_11 : decode cX3_someFirstJobCanBeServed 11 = .ok (.invokevirtual 65, 3) := by decide +kernel
theorem dX3_someFirstJobCanBeServed_14 : decode cX3_someFirstJobCanBeServed 14 = .ok (.if_icmp .ge 29, 3) := by decide +kernel
theorem dX3_someFirstJobCanBeServed_17 : decode cX3_someFirstJobCanBeServed 17 = .ok (.aload_n 0, 1) := by decide +kernel
theorem dX3_someFirstJobCanBeServed_18 : decode cX3_someFirstJobCanBeServed 18 = .ok (.aload_n 0, 1) := by decide +kernel
theorem dX3_someFirstJobCanBeServed_19 : decode cX3_someFirstJobCanBeServed 19 = .ok (.getfield 34, 3) := by decide +kernel
theorem dX3_someFirstJobCanBeServed_22 : decode cX3_someFirstJobCanBeServed 22 = .ok (.iload_n 1, 1) := by decide +kernel
theorem dX3_someFirstJobCanBeServed_23 : decode cX3_someFirstJobCanBeServed 23 = .ok (.invokevirtual 169, 3) := by decide +kernel
theorem dX3_someFirstJobCanBeServed_26 : decode cX3_someFirstJobCanBeServed 26 = .ok (.checkcast 112, 3) := by decide +kernel
theorem dX3_someFirstJobCanBeServed_29 : decode cX3_someFirstJobCanBeServed 29 = .ok (.invokevirtual 284, 3) := by decide +kernel
theorem dX3_someFirstJobCanBeServed_32 : decode cX3_someFirstJobCanBeServed 32 = .ok (.ifCond .eq 5, 3) := by decide +kernel
theorem dX3_someFirstJobCanBeServed_35 : decode cX3_someFirstJobCanBeServed 35 = .ok (.iconst 1, 1) := by decide +kernel
theorem dX3_someFirstJobCanBeServed_36 : decode cX3_someFirstJobCanBeServed 36 = .ok (.ireturn, 1) := by decide +kernel
theorem dX3_someFirstJobCanBeServed_37 : decode cX3_someFirstJobCanBeServed 37 = .ok (.iinc 1 1, 3) := by decide +kernel
theorem dX3_someFirstJobCanBeServed_40 : decode cX3_someFirstJobCanBeServed 40 = .ok (.goto (-34), 3) := by decide +kernel
theorem dX3_someFirstJobCanBeServed_43 : decode cX3_someFirstJobCanBeServed 43 = .ok (.iconst 0, 1) := by decide +kernel
theorem dX3_someFirstJobCanBeServed_44 : decode cX3_someFirstJobCanBeServed 44 = .ok (.ireturn, 1) := by decide +kernel
theorem dX4_init_0 : decode cX4_init 0 = .ok (.aload_n 0, 1) := by decide +kernel
theorem dX4_init_1 : decode cX4_init 1 = .ok (.invokespecial 1, 3) := by decide +kernel
theorem dX4_init_4 : decode cX4_init 4 = .ok (.aload_n 0, 1) := by decide +kernel
theorem dX4_init_5 : decode cX4_init 5 = .ok (.bipush 20, 2) := by decide +kernel
theorem dX4_init_7 : decode cX4_init 7 = .ok (.putfield 7, 3) := by decide +kernel
theorem dX4_init_10 : decode cX4_init 10 = .ok (.aload_n 0, 1) := by decide +kernel
theorem dX4_init_11 : decode cX4_init 11 = .ok (.bipush 10, 2) := by decide +kernel
theorem dX4_init_13 : decode cX4_init 13 = .ok (.putfield 13, 3) := by decide +kernel
theorem dX4_init_16 : decode cX4_init 16 = .ok (.aload_n 0, 1) := by decide +kernel
theorem dX4_init_17 : decode cX4_init 17 = .ok (.iconst 1, 1) := by decide +kernel
theorem dX4_init_18 : decode cX4_init 18 = .ok (.putfield 16, 3) := by decide +kernel
theorem dX4_init_21 : decode cX4_init 21 = .ok (.aload_n 0, 1) := by decide +kernel
theorem dX4_init_22 : decode cX4_init 22 = .ok (.bipush 10, 2) := by decide +kernel
theorem dX4_init_24 : decode cX4_init 24 = .ok (.newarray .int, 2) := by decide +kernel
theorem dX4_init_26 : decode cX4_init 26 = .ok (.putfield 19, 3) := by decide +kernel
theorem dX4_init_29 : decode cX4_init 29 = .ok (.aload_n 0, 1) := by decide +kernel
theorem dX4_init_30 : decode cX4_init 30 = .ok (.bipush 10, 2) := by decide +kernel
theorem dX4_init_32 : decode cX4_init 32 = .ok (.newarray .int, 2) := by decide +kernel
theorem dX4_init_34 : decode cX4_init 34 = .ok (.putfield 23, 3) := by decide +kernel
theorem dX4_init_37 : decode cX4_init 37 = .ok (.aload_n 0, 1) := by decide +kernel
theorem dX4_init_38 : decode cX4_init 38 = .ok (.bipush 10, 2) := by decide +kernel
theorem dX4_init_40 : decode cX4_init 40 = .ok (.newarray .int, 2) := by decide +kernel
theorem dX4_init_42 : decode cX4_init 42 = .ok (.putfield 26, 3) := by decide +kernel
theorem dX4_init_45 : decode cX4_init 45 = .ok (.aload_n 0, 1) := by decide +kernel
theorem dX4_init_46 : decode cX4_init 46 = .ok (.bipush 10, 2) := by decide +kernel
theorem dX4_init_48 : decode cX4_init 48 = .ok (.newarray .long, 2) := by decide +kernel
theorem dX4_init_50 : decode cX4_init 50 = .ok (.putfield 29, 3) := by decide +kernel
theorem dX4_init_53 : decode cX4_init 53 = .ok (.aload_n 0, 1) := by decide +kernel
theorem dX4_init_54 : decode cX4_init 54 = .ok (.bipush 10, 2) := by decide +kernel
theorem dX4_init_56 : decode cX4_init 56 = .ok (.newarray .boolean, 2) := by decide +kernel
theorem dX4_init_58 : decode cX4_init 58 = .ok (.putfield 33, 3) := by decide +kernel
theorem dX4_init_61 : decode cX4_init 61 = .ok (.aload_n 0, 1) := by decide +kernel
theorem dX4_init_62 : decode cX4_init 62 = .ok (.bipush 10, 2) := by decide +kernel
theorem dX4_init_64 : decode cX4_init 64 = .ok (.newarray .int, 2) := by decide +kernel
theorem dX4_init_66 : decode cX4_init 66 = .ok (.putfield 37, 3) := by decide +kernel
theorem dX4_init_69 : decode cX4_init 69 = .ok (.aload_n 0, 1) := by decide +kernel
theorem dX4_init_70 : decode cX4_init 70 = .ok (.bipush 10, 2) := by decide +kernel
theorem dX4_init_72 : decode cX4_init 72 = .ok (.newarray .int, 2) := by decide +kernel
theorem dX4_init_74 : decode cX4_init 74 = .ok (.putfield 40, 3) := by decide +kernel
theorem dX4_init_77 : decode cX4_init 77 = .ok (.aload_n 0, 1) := by decide +kernel
theorem dX4_init_78 : decode cX4_init 78 = .ok (.sipush 640, 3) := by decide +kernel
theorem dX4_init_81 : decode cX4_init 81 = .ok (.newarray .int, 2) := by decide +kernel
theorem dX4_init_83 : decode cX4_init 83 = .ok (.putfield 43, 3) := by decide +kernel
theorem dX4_init_86 : decode cX4_init 86 = .ok (.aload_n 0, 1) := by decide +kernel
theorem dX4_init_87 : decode cX4_init 87 = .ok (.sipush 640, 3) := by decide +kernel
theorem dX4_init_90 : decode cX4_init 90 = .ok (.newarray .int, 2) := by decide +kernel
theorem dX4_init_92 : decode cX4_init 92 = .ok (.putfield 46, 3) := by decide +kernel
theorem dX4_init_95 : decode cX4_init 95 = .ok (.aload_n 0, 1) := by decide +kernel
theorem dX4_init_96 : decode cX4_init 96 = .ok (.sipush 640, 3) := by decide +kernel
theorem dX4_init_99 : decode cX4_init 99 = .ok (.newarray .int, 2) := by decide +kernel
theorem dX4_init_101 : decode cX4_init 101 = .ok (.putfield 49, 3) := by decide +kernel
theorem dX4_init_104 : decode cX4_init 104 = .ok (.aload_n 0, 1) := by decide +kernel
theorem dX4_init_105 : decode cX4_init 105 = .ok (.sipush 640, 3) := by decide +kernel
theorem dX4_init_108 : decode cX4_init 108 = .ok (.newarray .int, 2) := by decide +kernel
theorem dX4_init_110 : decode cX4_init 110 = .ok (.putfield 52, 3) := by decide +kernel
theorem dX4_init_113 : decode cX4_init 113 = .ok (.aload_n 0, 1) := by decide +kernel
theorem dX4_init_114 : decode cX4_init 114 = .ok (.sipush 640, 3) := by decide +kernel
theorem dX4_init_117 : decode cX4_init 117 = .ok (.newarray .int, 2) := by decide +kernel
theorem dX4_init_119 : decode cX4_init 119 = .ok (.putfield 55, 3) := by decide +kernel
theorem dX4_init_122 : decode cX4_init 122 = .ok (.aload_n 0, 1) := by decide +kernel
theorem dX4_init_123 : decode cX4_init 123 = .ok (.sipush 640, 3) := by decide +kernel
theorem dX4_init_126 : decode cX4_init 126 = .ok (.newarray .int, 2) := by decide +kernel
theorem dX4_init_128 : decode cX4_init 128 = .ok (.putfield 58, 3) := by decide +kernel
theorem dX4_init_131 : decode cX4_init 131 = .ok (.aload_n 0, 1) := by decide +kernel
theorem dX4_init_132 : decode cX4_init 132 = .ok (.sipush 640, 3) := by decide +kernel
theorem dX4_init_135 : decode cX4_init 135 = .ok (.newarray .int, 2) := by decide +kernel
theorem dX4_init_137 : decode cX4_init 137 = .ok (.putfield 61, 3) := by decide +kernel
theorem dX4_init_140 : decode cX4_init 140 = .ok (.aload_n 0, 1) := by decide +kernel
theorem dX4_init_141 : decode cX4_init 141 = .ok (.bipush 8, 2) := by decide +kernel
theorem dX4_init_143 : decode cX4_init 143 = .ok (.newarray .int, 2) := by decide +kernel
theorem dX4_init_145 : decode cX4_init 145 = .ok (.putfield 64, 3) := by decide +kernel
theorem dX4_init_148 : decode cX4_init 148 = .ok (.aload_n 0, 1) := by decide +kernel
theorem dX4_init_149 : decode cX4_init 149 = .ok (.bipush 8, 2) := by decide +kernel
theorem dX4_init_151 : decode cX4_init 151 = .ok (.newarray .int, 2) := by decide +kernel
theorem dX4_init_153 : decode cX4_init 153 = .ok (.putfield 67, 3) := by decide +kernel
theorem dX4_init_156 : decode cX4_init 156 = .ok (.aload_n 0, 1) := by decide +kernel
theorem dX4_init_157 : decode cX4_init 157 = .ok (.bipush 8, 2) := by decide +kernel
theorem dX4_init_159 : decode cX4_init 159 = .ok (.newarray .int, 2) := by decide +kernel
theorem dX4_init_161 : decode cX4_init 161 = .ok (.putfield 70, 3) := by decide +kernel
theorem dX4_init_164 : decode cX4_init 164 = .ok (.aload_n 0, 1) := by decide +kernel
theorem dX4_init_165 : decode cX4_init 165 = .ok (.bipush 8, 2) := by decide +kernel
theorem dX4_init_167 : decode cX4_init 167 = .ok (.newarray .int, 2) := by decide +kernel
theorem dX4_init_169 : decode cX4_init 169 = .ok (.putfield 73, 3) := by decide +kernel
theorem dX4_init_172 : decode cX4_init 172 = .ok (.aload_n 0, 1) := by decide +kernel
theorem dX4_init_173 : decode cX4_init 173 = .ok (.bipush 10, 2) := by decide +kernel
theorem dX4_init_175 : decode cX4_init 175 = .ok (.newarray .int, 2) := by decide +kernel
theorem dX4_init_177 : decode cX4_init 177 = .ok (.putfield 76, 3) := by decide +kernel
theorem dX4_init_180 : decode cX4_init 180 = .ok (.aload_n 0, 1) := by decide +kernel
theorem dX4_init_181 : decode cX4_init 181 = .ok (.bipush 10, 2) := by decide +kernel
theorem dX4_init_183 : decode cX4_init 183 = .ok (.newarray .int, 2) := by decide +kernel
theorem dX4_init_185 : decode cX4_init 185 = .ok (.putfield 79, 3) := by decide +kernel
theorem dX4_init_188 : decode cX4_init 188 = .ok (.aload_n 0, 1) := by decide +kernel
theorem dX4_init_189 : decode cX4_init 189 = .ok (.bipush 10, 2) := by decide +kernel
theorem dX4_init_191 : decode cX4_init 191 = .ok (.newarray .int, 2) := by decide +kernel
theorem dX4_init_193 : decode cX4_init 193 = .ok (.putfield 82, 3) := by decide +kernel
theorem dX4_init_196 : decode cX4_init 196 = .ok (.aload_n 0, 1) := by decide +kernel
theorem dX4_init_197 : decode cX4_init 197 = .ok (.bipush 40, 2) := by decide +kernel
theorem dX4_init_199 : decode cX4_init 199 = .ok (.newarray .int, 2) := by decide +kernel
theorem dX4_init_201 : decode cX4_init 201 = .ok (.putfield 85, 3) := by decide +kernel
theorem dX4_init_204 : decode cX4_init 204 = .ok (.aload_n 0, 1) := by decide +kernel
theorem dX4_init_205 : decode cX4_init 205 = .ok (.getfield 23, 3) := by decide +kernel
theorem dX4_init_208 : decode cX4_init 208 = .ok (.iconst 0, 1) := by decide +kernel
theorem dX4_init_209 : decode cX4_init 209 = .ok (.iconst 1, 1) := by decide +kernel
theorem dX4_init_210 : decode cX4_init 210 = .ok (.iastore, 1) := by decide +kernel
theorem dX4_init_211 : decode cX4_init 211 = .ok (.aload_n 0, 1) := by decide +kernel
theorem dX4_init_212 : decode cX4_init 212 = .ok (.getfield 19, 3) := by decide +kernel
theorem dX4_init_215 : decode cX4_init 215 = .ok (.iconst 0, 1) := by decide +kernel
theorem dX4_init_216 : decode cX4_init 216 = .ok (.iconst (-1), 1) := by decide +kernel
theorem dX4_init_217 : decode cX4_init 217 = .ok (.iastore, 1) := by decide +kernel
theorem dX4_init_218 : decode cX4_init 218 = .ok (.aload_n 0, 1) := by decide +kernel
theorem dX4_init_219 : decode cX4_init 219 = .ok (.getfield 26, 3) := by decide +kernel
theorem dX4_init_222 : decode cX4_init 222 = .ok (.iconst 0, 1) := by decide +kernel
theorem dX4_init_223 : decode cX4_init 223 = .ok (.sipush 500, 3) := by decide +kernel
theorem dX4_init_226 : decode cX4_init 226 = .ok (.iastore, 1) := by decide +kernel
theorem dX4_init_227 : decode cX4_init 227 = .ok (.return_, 1) := by decide +kernel
theorem dX4_thrown_0 : decode cX4_thrown 0 = .ok (.aload_n 0, 1) := by decide +kernel
theorem dX4_thrown_1 : decode cX4_thrown 1 = .ok (.getfield 88, 3) := by decide +kernel
theorem dX4_thrown_4 : decode cX4_thrown 4 = .ok (.ireturn, 1) := by decide +kernel
theorem dX4_in_0 : decode cX4_in 0 = .ok (.iload_n 0, 1) := by decide +kernel
theorem dX4_in_1 : decode cX4_in 1 = .ok (.iload_n 1, 1) := by decide +kernel
theorem dX4_in_2 : decode cX4_in 2 = .ok (.if_icmp .lt 12, 3) := by decide +kernel
theorem dX4_in_5 : decode cX4_in 5 = .ok (.iload_n 0, 1) := by decide +kernel
theorem dX4_in_6 : decode cX4_in 6 = .ok (.iload_n 2, 1) := by decide +kernel
theorem dX4_in_7 : decode cX4_in 7 = .ok (.if_icmp .gt 7, 3) := by decide +kernel
theorem dX4_in_10 : decode cX4_in 10 = .ok (.iconst 1, 1) := by decide +kernel
theorem dX4_in_11 : decode cX4_in 11 = .ok (.goto 4, 3) := by decide +kernel
theorem dX4_in_14 : decode cX4_in 14 = .ok (.iconst 0, 1) := by decide +kernel
theorem dX4_in_15 : decode cX4_in 15 = .ok (.ireturn, 1) := by decide +kernel
theorem dX4_goesOn_0 : decode cX4_goesOn 0 = .ok (.aload_n 0, 1) := by decide +kernel
theorem dX4_goesOn_1 : decode cX4_goesOn 1 = .ok (.iload_n 1, 1) := by decide +kernel
theorem dX4_goesOn_2 : decode cX4_goesOn 2 = .ok (.putfield 88, 3) := by decide +kernel
theorem dX4_goesOn_5 : decode cX4_goesOn 5 = .ok (.iload_n 1, 1) := by decide +kernel
theorem dX4_goesOn_6 : decode cX4_goesOn 6 = .ok (.ifCond .ne 7, 3) := by decide +kernel
theorem dX4_goesOn_9 : decode cX4_goesOn 9 = .ok (.iconst 1, 1) := by decide +kernel
theorem dX4_goesOn_10 : decode cX4_goesOn 10 = .ok (.goto 4, 3) := by decide +kernel
theorem dX4_goesOn_13 : decode cX4_goesOn 13 = .ok (.iconst 0, 1) := by decide +kernel
theorem dX4_goesOn_14 : decode cX4_goesOn 14 = .ok (.ireturn, 1) := by decide +kernel
theorem dX4_isTeam_0 : decode cX4_isTeam 0 = .ok (.iload_n 1, 1) := by decide +kernel
theorem dX4_isTeam_1 : decode cX4_isTeam 1 = .ok (.iconst 0, 1) := by decide +kernel
theorem dX4_isTeam_2 : decode cX4_isTeam 2 = .ok (.aload_n 0, 1) := by decide +kernel
theorem dX4_isTeam_3 : decode cX4_isTeam 3 = .ok (.getfield 16, 3) := by decide +kernel
theorem dX4_isTeam_6 : decode cX4_isTeam 6 = .ok (.iconst 1, 1) := by decide +kernel
theorem dX4_isTeam_7 : decode cX4_isTeam 7 = .ok (.isub, 1) := by decide +kernel
theorem dX4_isTeam_8 : decode cX4_isTeam 8 = .ok (.invokestatic 91, 3) := by decide +kernel
theorem dX4_isTeam_11 : decode cX4_isTeam 11 = .ok (.ireturn, 1) := by decide +kernel
theorem dX4_childrenOf_0 : decode cX4_childrenOf 0 = .ok (.iconst 0, 1) := by decide +kernel
theorem dX4_childrenOf_1 : decode cX4_childrenOf 1 = .ok (.istore_n 2, 1) := by decide +kernel
theorem dX4_childrenOf_2 : decode cX4_childrenOf 2 = .ok (.iconst 1, 1) := by decide +kernel
theorem dX4_childrenOf_3 : decode cX4_childrenOf 3 = .ok (.istore_n 3, 1) := by decide +kernel
theorem dX4_childrenOf_4 : decode cX4_childrenOf 4 = .ok (.iload_n 3, 1) := by decide +kernel
theorem dX4_childrenOf_5 : decode cX4_childrenOf 5 = .ok (.aload_n 0, 1) := by decide +kernel
theorem dX4_childrenOf_6 : decode cX4_childrenOf 6 = .ok (.getfield 16, 3) := by decide +kernel
theorem dX4_childrenOf_9 : decode cX4_childrenOf 9 = .ok (.if_icmp .ge 27, 3) := by decide +kernel
theorem dX4_childrenOf_12 : decode cX4_childrenOf 12 = .ok (.iload_n 2, 1) := by decide +kernel
theorem dX4_childrenOf_13 : decode cX4_childrenOf 13 = .ok (.aload_n 0, 1) := by decide +kernel
theorem dX4_childrenOf_14 : decode cX4_childrenOf 14 = .ok (.getfield 19, 3) := by decide +kernel
theorem dX4_childrenOf_17 : decode cX4_childrenOf 17 = .ok (.iload_n 3, 1) := by decide +kernel
theorem dX4_childrenOf_18 : decode cX4_childrenOf 18 = .ok (.iaload, 1) := by decide +kernel
theorem dX4_childrenOf_19 : decode cX4_childrenOf 19 = .ok (.iload_n 1, 1) := by decide +kernel
theorem dX4_childrenOf_20 : decode cX4_childrenOf 20 = .ok (.if_icmp .ne 7, 3) := by decide +kernel
theorem dX4_childrenOf_23 : decode cX4_childrenOf 23 = .ok (.iconst 1, 1) := by decide +kernel
theorem dX4_childrenOf_24 : decode cX4_childrenOf 24 = .ok (.goto 4, 3) := by decide +kernel
theorem dX4_childrenOf_27 : decode cX4_childrenOf 27 = .ok (.iconst 0, 1) := by decide +kernel
theorem dX4_childrenOf_28 : decode cX4_childrenOf 28 = .ok (.iadd, 1) := by decide +kernel
theorem dX4_childrenOf_29 : decode cX4_childrenOf 29 = .ok (.istore_n 2, 1) := by decide +kernel
theorem dX4_childrenOf_30 : decode cX4_childrenOf 30 = .ok (.iinc 3 1, 3) := by decide +kernel
theorem dX4_childrenOf_33 : decode cX4_childrenOf 33 = .ok (.goto (-29), 3) := by decide +kernel
theorem dX4_childrenOf_36 : decode cX4_childrenOf 36 = .ok (.iload_n 2, 1) := by decide +kernel
theorem dX4_childrenOf_37 : decode cX4_childrenOf 37 = .ok (.ireturn, 1) := by decide +kernel
theorem dX4_isLeaf_0 : decode cX4_isLeaf 0 = .ok (.aload_n 0, 1) := by decide +kernel
theorem dX4_isLeaf_1 : decode cX4_isLeaf 1 = .ok (.iload_n 1, 1) := by decide +kernel
theorem dX4_isLeaf_2 : decode cX4_isLeaf 2 = .ok (.invokevirtual 95, 3) := by decide +kernel
theorem dX4_isLeaf_5 : decode cX4_isLeaf 5 = .ok (.ifCond .ne 7, 3) := by decide +kernel
theorem dX4_isLeaf_8 : decode cX4_isLeaf 8 = .ok (.iconst 1, 1) := by decide +kernel
theorem dX4_isLeaf_9 : decode cX4_isLeaf 9 = .ok (.goto 4, 3) := by decide +kernel
theorem dX4_isLeaf_12 : decode cX4_isLeaf 12 = .ok (.iconst 0, 1) := by decide +kernel
theorem dX4_isLeaf_13 : decode cX4_isLeaf 13 = .ok (.ireturn, 1) := by decide +kernel
theorem dX4_leafFault_0 : decode cX4_leafFault 0 = .ok (.aload_n 0, 1) := by decide +kernel
theorem dX4_leafFault_1 : decode cX4_leafFault 1 = .ok (.iload_n 1, 1) := by decide +kernel
theorem dX4_leafFault_2 : decode cX4_leafFault 2 = .ok (.invokevirtual 99, 3) := by decide +kernel
theorem dX4_leafFault_5 : decode cX4_leafFault 5 = .ok (.ifCond .ne 7, 3) := by decide +kernel
theorem dX4_leafFault_8 : decode cX4_leafFault 8 = .ok (.iconst 1, 1) := by decide +kernel
theorem dX4_leafFault_9 : decode cX4_leafFault 9 = .ok (.goto 16, 3) := by decide +kernel
theorem dX4_leafFault_12 : decode cX4_leafFault 12 = .ok (.aload_n 0, 1) := by decide +kernel
theorem dX4_leafFault_13 : decode cX4_leafFault 13 = .ok (.iload_n 1, 1) := by decide +kernel
theorem dX4_leafFault_14 : decode cX4_leafFault 14 = .ok (.invokevirtual 103, 3) := by decide +kernel
theorem dX4_leafFault_17 : decode cX4_leafFault 17 = .ok (.ifCond .ne 7, 3) := by decide +kernel
theorem dX4_leafFault_20 : decode cX4_leafFault 20 = .ok (.iconst 2, 1) := by decide +kernel
theorem dX4_leafFault_21 : decode cX4_leafFault 21 = .ok (.goto 4, 3) := by decide +kernel
theorem dX4_leafFault_24 : decode cX4_leafFault 24 = .ok (.iconst 0, 1) := by decide +kernel
theorem dX4_leafFault_25 : decode cX4_leafFault 25 = .ok (.ireturn, 1) := by decide +kernel
theorem dX4_demandOf_0 : decode cX4_demandOf 0 = .ok (.aload_n 0, 1) := by decide +kernel
theorem dX4_demandOf_1 : decode cX4_demandOf 1 = .ok (.iload_n 1, 1) := by decide +kernel
theorem dX4_demandOf_2 : decode cX4_demandOf 2 = .ok (.invokevirtual 103, 3) := by decide +kernel
theorem dX4_demandOf_5 : decode cX4_demandOf 5 = .ok (.ifCond .eq 19, 3) := by decide +kernel
theorem dX4_demandOf_8 : decode cX4_demandOf 8 = .ok (.aload_n 0, 1) := by decide +kernel
theorem dX4_demandOf_9 : decode cX4_demandOf 9 = .ok (.getfield 40, 3) := by decide +kernel
theorem dX4_demandOf_12 : decode cX4_demandOf 12 = .ok (.iload_n 1, 1) := by decide +kernel
theorem dX4_demandOf_13 : decode cX4_demandOf 13 = .ok (.iaload, 1) := by decide +kernel
theorem dX4_demandOf_14 : decode cX4_demandOf 14 = .ok (.aload_n 0, 1) := by decide +kernel
theorem dX4_demandOf_15 : decode cX4_demandOf 15 = .ok (.getfield 37, 3) := by decide +kernel
theorem dX4_demandOf_18 : decode cX4_demandOf 18 = .ok (.iload_n 1, 1) := by decide +kernel
theorem dX4_demandOf_19 : decode cX4_demandOf 19 = .ok (.iaload, 1) := by decide +kernel
theorem dX4_demandOf_20 : decode cX4_demandOf 20 = .ok (.iadd, 1) := by decide +kernel
theorem dX4_demandOf_21 : decode cX4_demandOf 21 = .ok (.goto 4, 3) := by decide +kernel
theorem dX4_demandOf_24 : decode cX4_demandOf 24 = .ok (.iconst 0, 1) := by decide +kernel
theorem dX4_demandOf_25 : decode cX4_demandOf 25 = .ok (.istore_n 2, 1) := by decide +kernel
theorem dX4_demandOf_26 : decode cX4_demandOf 26 = .ok (.iconst 1, 1) := by decide +kernel
theorem dX4_demandOf_27 : decode cX4_demandOf 27 = .ok (.istore_n 3, 1) := by decide +kernel
theorem dX4_demandOf_28 : decode cX4_demandOf 28 = .ok (.iload_n 3, 1) := by decide +kernel
theorem dX4_demandOf_29 : decode cX4_demandOf 29 = .ok (.aload_n 0, 1) := by decide +kernel
theorem dX4_demandOf_30 : decode cX4_demandOf 30 = .ok (.getfield 16, 3) := by decide +kernel
theorem dX4_demandOf_33 : decode cX4_demandOf 33 = .ok (.if_icmp .ge 31, 3) := by decide +kernel
theorem dX4_demandOf_36 : decode cX4_demandOf 36 = .ok (.iload_n 2, 1) := by decide +kernel
theorem dX4_demandOf_37 : decode cX4_demandOf 37 = .ok (.aload_n 0, 1) := by decide +kernel
theorem dX4_demandOf_38 : decode cX4_demandOf 38 = .ok (.getfield 19, 3) := by decide +kernel
theorem dX4_demandOf_41 : decode cX4_demandOf 41 = .ok (.iload_n 3, 1) := by decide +kernel
theorem dX4_demandOf_42 : decode cX4_demandOf 42 = .ok (.iaload, 1) := by decide +kernel
theorem dX4_demandOf_43 : decode cX4_demandOf 43 = .ok (.iload_n 1, 1) := by decide +kernel
theorem dX4_demandOf_44 : decode cX4_demandOf 44 = .ok (.if_icmp .ne 11, 3) := by decide +kernel
theorem dX4_demandOf_47 : decode cX4_demandOf 47 = .ok (.aload_n 0, 1) := by decide +kernel
theorem dX4_demandOf_48 : decode cX4_demandOf 48 = .ok (.iload_n 3, 1) := by decide +kernel
theorem dX4_demandOf_49 : decode cX4_demandOf 49 = .ok (.invokevirtual 106, 3) := by decide +kernel
theorem dX4_demandOf_52 : decode cX4_demandOf 52 = .ok (.goto 4, 3) := by decide +kernel
theorem dX4_demandOf_55 : decode cX4_demandOf 55 = .ok (.iconst 0, 1) := by decide +kernel
theorem dX4_demandOf_56 : decode cX4_demandOf 56 = .ok (.iadd, 1) := by decide +kernel
theorem dX4_demandOf_57 : decode cX4_demandOf 57 = .ok (.istore_n 2, 1) := by decide +kernel
theorem dX4_demandOf_58 : decode cX4_demandOf 58 = .ok (.iinc 3 1, 3) := by decide +kernel
theorem dX4_demandOf_61 : decode cX4_demandOf 61 = .ok (.goto (-33), 3) := by decide +kernel
theorem dX4_demandOf_64 : decode cX4_demandOf 64 = .ok (.iload_n 1, 1) := by decide +kernel
theorem dX4_demandOf_65 : decode cX4_demandOf 65 = .ok (.ifCond .le 22, 3) := by decide +kernel
theorem dX4_demandOf_68 : decode cX4_demandOf 68 = .ok (.iload_n 2, 1) := by decide +kernel
theorem dX4_demandOf_69 : decode cX4_demandOf 69 = .ok (.aload_n 0, 1) := by decide +kernel
theorem dX4_demandOf_70 : decode cX4_demandOf 70 = .ok (.getfield 26, 3) := by decide +kernel
theorem dX4_demandOf_73 : decode cX4_demandOf 73 = .ok (.iload_n 1, 1) := by decide +kernel
theorem dX4_demandOf_74 : decode cX4_demandOf 74 = .ok (.iaload, 1) := by decide +kernel
theorem dX4_demandOf_75 : decode cX4_demandOf 75 = .ok (.if_icmp .le 12, 3) := by decide +kernel
theorem dX4_demandOf_78 : decode cX4_demandOf 78 = .ok (.aload_n 0, 1) := by decide +kernel
theorem dX4_demandOf_79 : decode cX4_demandOf 79 = .ok (.getfield 26, 3) := by decide +kernel
theorem dX4_demandOf_82 : decode cX4_demandOf 82 = .ok (.iload_n 1, 1) := by decide +kernel
theorem dX4_demandOf_83 : decode cX4_demandOf 83 = .ok (.iaload, 1) := by decide +kernel
theorem dX4_demandOf_84 : decode cX4_demandOf 84 = .ok (.goto 4, 3) := by decide +kernel
theorem dX4_demandOf_87 : decode cX4_demandOf 87 = .ok (.iload_n 2, 1) := by decide +kernel
theorem dX4_demandOf_88 : decode cX4_demandOf 88 = .ok (.ireturn, 1) := by decide +kernel
theorem dX4_gives_0 : decode cX4_gives 0 = .ok (.iconst 0, 1) := by decide +kernel
theorem dX4_gives_1 : decode cX4_gives 1 = .ok (.istore_n 2, 1) := by decide +kernel
theorem dX4_gives_2 : decode cX4_gives 2 = .ok (.iload_n 2, 1) := by decide +kernel
theorem dX4_gives_3 : decode cX4_gives 3 = .ok (.aload_n 0, 1) := by decide +kernel
theorem dX4_gives_4 : decode cX4_gives 4 = .ok (.getfield 79, 3) := by decide +kernel
theorem dX4_gives_7 : decode cX4_gives 7 = .ok (.iload_n 1, 1) := by decide +kernel
theorem dX4_gives_8 : decode cX4_gives 8 = .ok (.iaload, 1) := by decide +kernel
theorem dX4_gives_9 : decode cX4_gives 9 = .ok (.if_icmp .ge 111, 3) := by decide +kernel
theorem dX4_gives_12 : decode cX4_gives 12 = .ok (.iconst (-1), 1) := by decide +kernel
theorem dX4_gives_13 : decode cX4_gives 13 = .ok (.istore_n 3, 1) := by decide +kernel
theorem dX4_gives_14 : decode cX4_gives 14 = .ok (.iconst 1, 1) := by decide +kernel
theorem dX4_gives_15 : decode cX4_gives 15 = .ok (.istore 4, 2) := by decide +kernel
theorem dX4_gives_17 : decode cX4_gives 17 = .ok (.iload 4, 2) := by decide +kernel
theorem dX4_gives_19 : decode cX4_gives 19 = .ok (.aload_n 0, 1) := by decide +kernel
theorem dX4_gives_20 : decode cX4_gives 20 = .ok (.getfield 16, 3) := by decide +kernel
theorem dX4_gives_23 : decode cX4_gives 23 = .ok (.if_icmp .ge 76, 3) := by decide +kernel
theorem dX4_gives_26 : decode cX4_gives 26 = .ok (.aload_n 0, 1) := by decide +kernel
theorem dX4_gives_27 : decode cX4_gives 27 = .ok (.getfield 19, 3) := by decide +kernel
theorem dX4_gives_30 : decode cX4_gives 30 = .ok (.iload 4, 2) := by decide +kernel
theorem dX4_gives_32 : decode cX4_gives 32 = .ok (.iaload, 1) := by decide +kernel
theorem dX4_gives_33 : decode cX4_gives 33 = .ok (.iload_n 1, 1) := by decide +kernel
theorem dX4_gives_34 : decode cX4_gives 34 = .ok (.if_icmp .ne 59, 3) := by decide +kernel
theorem dX4_gives_37 : decode cX4_gives 37 = .ok (.aload_n 0, 1) := by decide +kernel
theorem dX4_gives_38 : decode cX4_gives 38 = .ok (.getfield 79, 3) := by decide +kernel
theorem dX4_gives_41 : decode cX4_gives 41 = .ok (.iload 4, 2) := by decide +kernel
theorem dX4_gives_43 : decode cX4_gives 43 = .ok (.iaload, 1) := by decide +kernel
theorem dX4_gives_44 : decode cX4_gives 44 = .ok (.aload_n 0, 1) := by decide +kernel
theorem dX4_gives_45 : decode cX4_gives 45 = .ok (.getfield 76, 3) := by decide +kernel
theorem dX4_gives_48 : decode cX4_gives 48 = .ok (.iload 4, 2) := by decide +kernel
theorem dX4_gives_50 : decode cX4_gives 50 = .ok (.iaload, 1) := by decide +kernel
theorem dX4_gives_51 : decode cX4_gives 51 = .ok (.if_icmp .ge 42, 3) := by decide +kernel
theorem dX4_gives_54 : decode cX4_gives 54 = .ok (.iload_n 3, 1) := by decide +kernel
theorem dX4_gives_55 : decode cX4_gives 55 = .ok (.iconst (-1), 1) := by decide +kernel
theorem dX4_gives_56 : decode cX4_gives 56 = .ok (.if_icmp .eq 34, 3) := by decide +kernel
theorem dX4_gives_59 : decode cX4_gives 59 = .ok (.aload_n 0, 1) := by decide +kernel
theorem dX4_gives_60 : decode cX4_gives 60 = .ok (.getfield 79, 3) := by decide +kernel
theorem dX4_gives_63 : decode cX4_gives 63 = .ok (.iload 4, 2) := by decide +kernel
theorem dX4_gives_65 : decode cX4_gives 65 = .ok (.iaload, 1) := by decide +kernel
theorem dX4_gives_66 : decode cX4_gives 66 = .ok (.aload_n 0, 1) := by decide +kernel
theorem dX4_gives_67 : decode cX4_gives 67 = .ok (.getfield 23, 3) := by decide +kernel
theorem dX4_gives_70 : decode cX4_gives 70 = .ok (.iload_n 3, 1) := by decide +kernel
theorem dX4_gives_71 : decode cX4_gives 71 = .ok (.iaload, 1) := by decide +kernel
theorem dX4_gives_72 : decode cX4_gives 72 = .ok (.imul, 1) := by decide +kernel
theorem dX4_gives_73 : decode cX4_gives 73 = .ok (.aload_n 0, 1) := by decide +kernel
theorem dX4_gives_74 : decode cX4_gives 74 = .ok (.getfield 79, 3) := by decide +kernel
theorem dX4_gives_77 : decode cX4_gives 77 = .ok (.iload_n 3, 1) := by decide +kernel
theorem dX4_gives_78 : decode cX4_gives 78 = .ok (.iaload, 1) := by decide +kernel
theorem dX4_gives_79 : decode cX4_gives 79 = .ok (.aload_n 0, 1) := by decide +kernel
theorem dX4_gives_80 : decode cX4_gives 80 = .ok (.getfield 23, 3) := by decide +kernel
theorem dX4_gives_83 : decode cX4_gives 83 = .ok (.iload 4, 2) := by decide +kernel
theorem dX4_gives_85 : decode cX4_gives 85 = .ok (.iaload, 1) := by decide +kernel
theorem dX4_gives_86 : decode cX4_gives 86 = .ok (.imul, 1) := by decide +kernel
theorem dX4_gives_87 : decode cX4_gives 87 = .ok (.if_icmp .ge 6, 3) := by decide +kernel
theorem dX4_gives_90 : decode cX4_gives 90 = .ok (.iload 4, 2) := by decide +kernel
theorem dX4_gives_92 : decode cX4_gives 92 = .ok (.istore_n 3, 1) := by decide +kernel
theorem dX4_gives_93 : decode cX4_gives 93 = .ok (.iinc 4 1, 3) := by decide +kernel
theorem dX4_gives_96 : decode cX4_gives 96 = .ok (.goto (-79), 3) := by decide +kernel
theorem dX4_gives_99 : decode cX4_gives 99 = .ok (.iload_n 3, 1) := by decide +kernel
theorem dX4_gives_100 : decode cX4_gives 100 = .ok (.iconst (-1), 1) := by decide +kernel
theorem dX4_gives_101 : decode cX4_gives 101 = .ok (.if_icmp .eq 13, 3) := by decide +kernel
theorem dX4_gives_104 : decode cX4_gives 104 = .ok (.aload_n 0, 1) := by decide +kernel
theorem dX4_gives_105 : decode cX4_gives 105 = .ok (.getfield 79, 3) := by decide +kernel
theorem dX4_gives_108 : decode cX4_gives 108 = .ok (.iload_n 3, 1) := by decide +kernel
theorem dX4_gives_109 : decode cX4_gives 109 = .ok (.dup2, 1) := by decide +kernel
theorem dX4_gives_110 : decode cX4_gives 110 = .ok (.iaload, 1) := by decide +kernel
theorem dX4_gives_111 : decode cX4_gives 111 = .ok (.iconst 1, 1) := by decide +kernel
theorem dX4_gives_112 : decode cX4_gives 112 = .ok (.iadd, 1) := by decide +kernel
theorem dX4_gives_113 : decode cX4_gives 113 = .ok (.iastore, 1) := by decide +kernel
theorem dX4_gives_114 : decode cX4_gives 114 = .ok (.iinc 2 1, 3) := by decide +kernel
theorem dX4_gives_117 : decode cX4_gives 117 = .ok (.goto (-115), 3) := by decide +kernel
theorem dX4_gives_120 : decode cX4_gives 120 = .ok (.return_, 1) := by decide +kernel
theorem dX4_laysShares_0 : decode cX4_laysShares 0 = .ok (.iconst 0, 1) := by decide +kernel
theorem dX4_laysShares_1 : decode cX4_laysShares 1 = .ok (.istore_n 1, 1) := by decide +kernel
theorem dX4_laysShares_2 : decode cX4_laysShares 2 = .ok (.iload_n 1, 1) := by decide +kernel
theorem dX4_laysShares_3 : decode cX4_laysShares 3 = .ok (.aload_n 0, 1) := by decide +kernel
theorem dX4_laysShares_4 : decode cX4_laysShares 4 = .ok (.getfield 16, 3) := by decide +kernel
theorem dX4_laysShares_7 : decode cX4_laysShares 7 = .ok (.if_icmp .ge 27, 3) := by decide +kernel
theorem dX4_laysShares_10 : decode cX4_laysShares 10 = .ok (.aload_n 0, 1) := by decide +kernel
theorem dX4_laysShares_11 : decode cX4_laysShares 11 = .ok (.getfield 76, 3) := by decide +kernel
theorem dX4_laysShares_14 : decode cX4_laysShares 14 = .ok (.iload_n 1, 1) := by decide +kernel
theorem dX4_laysShares_15 : decode cX4_laysShares 15 = .ok (.aload_n 0, 1) := by decide +kernel
theorem dX4_laysShares_16 : decode cX4_laysShares 16 = .ok (.iload_n 1, 1) := by decide +kernel
theorem dX4_laysShares_17 : decode cX4_laysShares 17 = .ok (.invokevirtual 106, 3) := by decide +kernel
theorem dX4_laysShares_20 : decode cX4_laysShares 20 = .ok (.iastore, 1) := by decide +kernel
theorem dX4_laysShares_21 : decode cX4_laysShares 21 = .ok (.aload_n 0, 1) := by decide +kernel
theorem dX4_laysShares_22 : decode cX4_laysShares 22 = .ok (.getfield 79, 3) := by decide +kernel
theorem dX4_laysShares_25 : decode cX4_laysShares 25 = .ok (.iload_n 1, 1) := by decide +kernel
theorem dX4_laysShares_26 : decode cX4_laysShares 26 = .ok (.iconst 0, 1) := by decide +kernel
theorem dX4_laysShares_27 : decode cX4_laysShares 27 = .ok (.iastore, 1) := by decide +kernel
theorem dX4_laysShares_28 : decode cX4_laysShares 28 = .ok (.iinc 1 1, 3) := by decide +kernel
theorem dX4_laysShares_31 : decode cX4_laysShares 31 = .ok (.goto (-29), 3) := by decide +kernel
theorem dX4_laysShares_34 : decode cX4_laysShares 34 = .ok (.aload_n 0, 1) := by decide +kernel
theorem dX4_laysShares_35 : decode cX4_laysShares 35 = .ok (.getfield 79, 3) := by decide +kernel
theorem dX4_laysShares_38 : decode cX4_laysShares 38 = .ok (.iconst 0, 1) := by decide +kernel
theorem dX4_laysShares_39 : decode cX4_laysShares 39 = .ok (.aload_n 0, 1) := by decide +kernel
theorem dX4_laysShares_40 : decode cX4_laysShares 40 = .ok (.getfield 76, 3) := by decide +kernel
theorem dX4_laysShares_43 : decode cX4_laysShares 43 = .ok (.iconst 0, 1) := by decide +kernel
theorem dX4_laysShares_44 : decode cX4_laysShares 44 = .ok (.iaload, 1) := by decide +kernel
theorem dX4_laysShares_45 : decode cX4_laysShares 45 = .ok (.aload_n 0, 1) := by decide +kernel
theorem dX4_laysShares_46 : decode cX4_laysShares 46 = .ok (.getfield 7, 3) := by decide +kernel
theorem dX4_laysShares_49 : decode cX4_laysShares 49 = .ok (.if_icmp .ge 12, 3) := by decide +kernel
theorem dX4_laysShares_52 : decode cX4_laysShares 52 = .ok (.aload_n 0, 1) := by decide +kernel
theorem dX4_laysShares_53 : decode cX4_laysShares 53 = .ok (.getfield 76, 3) := by decide +kernel
theorem dX4_laysShares_56 : decode cX4_laysShares 56 = .ok (.iconst 0, 1) := by decide +kernel
theorem dX4_laysShares_57 : decode cX4_laysShares 57 = .ok (.iaload, 1) := by decide +kernel
theorem dX4_laysShares_58 : decode cX4_laysShares 58 = .ok (.goto 7, 3) := by decide +kernel
theorem dX4_laysShares_61 : decode cX4_laysShares 61 = .ok (.aload_n 0, 1) := by decide +kernel
theorem dX4_laysShares_62 : decode cX4_laysShares 62 = .ok (.getfield 7, 3) := by decide +kernel
theorem dX4_laysShares_65 : decode cX4_laysShares 65 = .ok (.iastore, 1) := by decide +kernel
theorem dX4_laysShares_66 : decode cX4_laysShares 66 = .ok (.iconst 0, 1) := by decide +kernel
theorem dX4_laysShares_67 : decode cX4_laysShares 67 = .ok (.istore_n 1, 1) := by decide +kernel
theorem dX4_laysShares_68 : decode cX4_laysShares 68 = .ok (.iload_n 1, 1) := by decide +kernel
theorem dX4_laysShares_69 : decode cX4_laysShares 69 = .ok (.aload_n 0, 1) := by decide +kernel
theorem dX4_laysShares_70 : decode cX4_laysShares 70 = .ok (.getfield 16, 3) := by decide +kernel
theorem dX4_laysShares_73 : decode cX4_laysShares 73 = .ok (.if_icmp .ge 14, 3) := by decide +kernel
theorem dX4_laysShares_76 : decode cX4_laysShares 76 = .ok (.aload_n 0, 1) := by decide +kernel
theorem dX4_laysShares_77 : decode cX4_laysShares 77 = .ok (.iload_n 1, 1) := by decide +kernel
theorem dX4_laysShares_78 : decode cX4_laysShares 78 = .ok (.invokevirtual 109, 3) := by decide +kernel
theorem dX4_laysShares_81 : decode cX4_laysShares 81 = .ok (.iinc 1 1, 3) := by decide +kernel
theorem dX4_laysShares_84 : decode cX4_laysShares 84 = .ok (.goto (-16), 3) := by decide +kernel
theorem dX4_laysShares_87 : decode cX4_laysShares 87 = .ok (.return_, 1) := by decide +kernel
theorem dX4_reservedFor_0 : decode cX4_reservedFor 0 = .ok (.iconst 0, 1) := by decide +kernel
theorem dX4_reservedFor_1 : decode cX4_reservedFor 1 = .ok (.istore_n 2, 1) := by decide +kernel
theorem dX4_reservedFor_2 : decode cX4_reservedFor 2 = .ok (.iconst 0, 1) := by decide +kernel
theorem dX4_reservedFor_3 : decode cX4_reservedFor 3 = .ok (.istore_n 3, 1) := by decide +kernel
theorem dX4_reservedFor_4 : decode cX4_reservedFor 4 = .ok (.iload_n 3, 1) := by decide +kernel
theorem dX4_reservedFor_5 : decode cX4_reservedFor 5 = .ok (.aload_n 0, 1) := by decide +kernel
theorem dX4_reservedFor_6 : decode cX4_reservedFor 6 = .ok (.getfield 113, 3) := by decide +kernel
theorem dX4_reservedFor_9 : decode cX4_reservedFor 9 = .ok (.if_icmp .ge 58, 3) := by decide +kernel
theorem dX4_reservedFor_12 : decode cX4_reservedFor 12 = .ok (.iload_n 2, 1) := by decide +kernel
theorem dX4_reservedFor_13 : decode cX4_reservedFor 13 = .ok (.aload_n 0, 1) := by decide +kernel
theorem dX4_reservedFor_14 : decode cX4_reservedFor 14 = .ok (.getfield 64, 3) := by decide +kernel
theorem dX4_reservedFor_17 : decode cX4_reservedFor 17 = .ok (.iload_n 3, 1) := by decide +kernel
theorem dX4_reservedFor_18 : decode cX4_reservedFor 18 = .ok (.iaload, 1) := by decide +kernel
theorem dX4_reservedFor_19 : decode cX4_reservedFor 19 = .ok (.iload_n 1, 1) := by decide +kernel
theorem dX4_reservedFor_20 : decode cX4_reservedFor 20 = .ok (.if_icmp .ne 38, 3) := by decide +kernel
theorem dX4_reservedFor_23 : decode cX4_reservedFor 23 = .ok (.aload_n 0, 1) := by decide +kernel
theorem dX4_reservedFor_24 : decode cX4_reservedFor 24 = .ok (.getfield 116, 3) := by decide +kernel
theorem dX4_reservedFor_27 : decode cX4_reservedFor 27 = .ok (.aload_n 0, 1) := by decide +kernel
theorem dX4_reservedFor_28 : decode cX4_reservedFor 28 = .ok (.getfield 70, 3) := by decide +kernel
theorem dX4_reservedFor_31 : decode cX4_reservedFor 31 = .ok (.iload_n 3, 1) := by decide +kernel
theorem dX4_reservedFor_32 : decode cX4_reservedFor 32 = .ok (.iaload, 1) := by decide +kernel
theorem dX4_reservedFor_33 : decode cX4_reservedFor 33 = .ok (.if_icmp .lt 25, 3) := by decide +kernel
theorem dX4_reservedFor_36 : decode cX4_reservedFor 36 = .ok (.aload_n 0, 1) := by decide +kernel
theorem dX4_reservedFor_37 : decode cX4_reservedFor 37 = .ok (.getfield 116, 3) := by decide +kernel
theorem dX4_reservedFor_40 : decode cX4_reservedFor 40 = .ok (.aload_n 0, 1) := by decide +kernel
theorem dX4_reservedFor_41 : decode cX4_reservedFor 41 = .ok (.getfield 73, 3) := by decide +kernel
theorem dX4_reservedFor_44 : decode cX4_reservedFor 44 = .ok (.iload_n 3, 1) := by decide +kernel
theorem dX4_reservedFor_45 : decode cX4_reservedFor 45 = .ok (.iaload, 1) := by decide +kernel
theorem dX4_reservedFor_46 : decode cX4_reservedFor 46 = .ok (.if_icmp .ge 12, 3) := by decide +kernel
theorem dX4_reservedFor_49 : decode cX4_reservedFor 49 = .ok (.aload_n 0, 1) := by decide +kernel
theorem dX4_reservedFor_50 : decode cX4_reservedFor 50 = .ok (.getfield 67, 3) := by decide +kernel
theorem dX4_reservedFor_53 : decode cX4_reservedFor 53 = .ok (.iload_n 3, 1) := by decide +kernel
theorem dX4_reservedFor_54 : decode cX4_reservedFor 54 = .ok (.iaload, 1) := by decide +kernel
theorem dX4_reservedFor_55 : decode cX4_reservedFor 55 = .ok (.goto 4, 3) := by decide +kernel
theorem dX4_reservedFor_58 : decode cX4_reservedFor 58 = .ok (.iconst 0, 1) := by decide +kernel
theorem dX4_reservedFor_59 : decode cX4_reservedFor 59 = .ok (.iadd, 1) := by decide +kernel
theorem dX4_reservedFor_60 : decode cX4_reservedFor 60 = .ok (.istore_n 2, 1) := by decide +kernel
theorem dX4_reservedFor_61 : decode cX4_reservedFor 61 = .ok (.iinc 3 1, 3) := by decide +kernel
theorem dX4_reservedFor_64 : decode cX4_reservedFor 64 = .ok (.goto (-60), 3) := by decide +kernel
theorem dX4_reservedFor_67 : decode cX4_reservedFor 67 = .ok (.iload_n 2, 1) := by decide +kernel
theorem dX4_reservedFor_68 : decode cX4_reservedFor 68 = .ok (.ireturn, 1) := by decide +kernel
theorem dX4_dueOf_0 : decode cX4_dueOf 0 = .ok (.aload_n 0, 1) := by decide +kernel
theorem dX4_dueOf_1 : decode cX4_dueOf 1 = .ok (.iload_n 1, 1) := by decide +kernel
theorem dX4_dueOf_2 : decode cX4_dueOf 2 = .ok (.invokevirtual 119, 3) := by decide +kernel
theorem dX4_dueOf_5 : decode cX4_dueOf 5 = .ok (.istore_n 2, 1) := by decide +kernel
theorem dX4_dueOf_6 : decode cX4_dueOf 6 = .ok (.iload_n 2, 1) := by decide +kernel
theorem dX4_dueOf_7 : decode cX4_dueOf 7 = .ok (.aload_n 0, 1) := by decide +kernel
theorem dX4_dueOf_8 : decode cX4_dueOf 8 = .ok (.getfield 79, 3) := by decide +kernel
theorem dX4_dueOf_11 : decode cX4_dueOf 11 = .ok (.iload_n 1, 1) := by decide +kernel
theorem dX4_dueOf_12 : decode cX4_dueOf 12 = .ok (.iaload, 1) := by decide +kernel
theorem dX4_dueOf_13 : decode cX4_dueOf 13 = .ok (.if_icmp .le 7, 3) := by decide +kernel
theorem dX4_dueOf_16 : decode cX4_dueOf 16 = .ok (.iload_n 2, 1) := by decide +kernel
theorem dX4_dueOf_17 : decode cX4_dueOf 17 = .ok (.goto 9, 3) := by decide +kernel
theorem dX4_dueOf_20 : decode cX4_dueOf 20 = .ok (.aload_n 0, 1) := by decide +kernel
theorem dX4_dueOf_21 : decode cX4_dueOf 21 = .ok (.getfield 79, 3) := by decide +kernel
theorem dX4_dueOf_24 : decode cX4_dueOf 24 = .ok (.iload_n 1, 1) := by decide +kernel
theorem dX4_dueOf_25 : decode cX4_dueOf 25 = .ok (.iaload, 1) := by decide +kernel
theorem dX4_dueOf_26 : decode cX4_dueOf 26 = .ok (.ireturn, 1) := by decide +kernel
theorem dX4_freeOf_0 : decode cX4_freeOf 0 = .ok (.aload_n 0, 1) := by decide +kernel
theorem dX4_freeOf_1 : decode cX4_freeOf 1 = .ok (.getfield 7, 3) := by decide +kernel
theorem dX4_freeOf_4 : decode cX4_freeOf 4 = .ok (.aload_n 0, 1) := by decide +kernel
theorem dX4_freeOf_5 : decode cX4_freeOf 5 = .ok (.getfield 37, 3) := by decide +kernel
theorem dX4_freeOf_8 : decode cX4_freeOf 8 = .ok (.iconst 0, 1) := by decide +kernel
theorem dX4_freeOf_9 : decode cX4_freeOf 9 = .ok (.iaload, 1) := by decide +kernel
theorem dX4_freeOf_10 : decode cX4_freeOf 10 = .ok (.isub, 1) := by decide +kernel
theorem dX4_freeOf_11 : decode cX4_freeOf 11 = .ok (.istore_n 2, 1) := by decide +kernel
theorem dX4_freeOf_12 : decode cX4_freeOf 12 = .ok (.iconst 0, 1) := by decide +kernel
theorem dX4_freeOf_13 : decode cX4_freeOf 13 = .ok (.istore_n 3, 1) := by decide +kernel
theorem dX4_freeOf_14 : decode cX4_freeOf 14 = .ok (.iload_n 3, 1) := by decide +kernel
theorem dX4_freeOf_15 : decode cX4_freeOf 15 = .ok (.aload_n 0, 1) := by decide +kernel
theorem dX4_freeOf_16 : decode cX4_freeOf 16 = .ok (.getfield 16, 3) := by decide +kernel
theorem dX4_freeOf_19 : decode cX4_freeOf 19 = .ok (.if_icmp .ge 54, 3) := by decide +kernel
theorem dX4_freeOf_22 : decode cX4_freeOf 22 = .ok (.iload_n 3, 1) := by decide +kernel
theorem dX4_freeOf_23 : decode cX4_freeOf 23 = .ok (.iload_n 1, 1) := by decide +kernel
theorem dX4_freeOf_24 : decode cX4_freeOf 24 = .ok (.if_icmp .eq 11, 3) := by decide +kernel
theorem dX4_freeOf_27 : decode cX4_freeOf 27 = .ok (.aload_n 0, 1) := by decide +kernel
theorem dX4_freeOf_28 : decode cX4_freeOf 28 = .ok (.iload_n 3, 1) := by decide +kernel
theorem dX4_freeOf_29 : decode cX4_freeOf 29 = .ok (.invokevirtual 103, 3) := by decide +kernel
theorem dX4_freeOf_32 : decode cX4_freeOf 32 = .ok (.ifCond .ne 7, 3) := by decide +kernel
theorem dX4_freeOf_35 : decode cX4_freeOf 35 = .ok (.iconst 0, 1) := by decide +kernel
theorem dX4_freeOf_36 : decode cX4_freeOf 36 = .ok (.goto 15, 3) := by decide +kernel
theorem dX4_freeOf_39 : decode cX4_freeOf 39 = .ok (.aload_n 0, 1) := by decide +kernel
theorem dX4_freeOf_40 : decode cX4_freeOf 40 = .ok (.iload_n 3, 1) := by decide +kernel
theorem dX4_freeOf_41 : decode cX4_freeOf 41 = .ok (.invokevirtual 119, 3) := by decide +kernel
theorem dX4_freeOf_44 : decode cX4_freeOf 44 = .ok (.aload_n 0, 1) := by decide +kernel
theorem dX4_freeOf_45 : decode cX4_freeOf 45 = .ok (.getfield 37, 3) := by decide +kernel
theorem dX4_freeOf_48 : decode cX4_freeOf 48 = .ok (.iload_n 3, 1) := by decide +kernel
theorem dX4_freeOf_49 : decode cX4_freeOf 49 = .ok (.iaload, 1) := by decide +kernel
theorem dX4_freeOf_50 : decode cX4_freeOf 50 = .ok (.isub, 1) := by decide +kernel
theorem dX4_freeOf_51 : decode cX4_freeOf 51 = .ok (.istore 4, 2) := by decide +kernel
theorem dX4_freeOf_53 : decode cX4_freeOf 53 = .ok (.iload_n 2, 1) := by decide +kernel
theorem dX4_freeOf_54 : decode cX4_freeOf 54 = .ok (.iload 4, 2) := by decide +kernel
theorem dX4_freeOf_56 : decode cX4_freeOf 56 = .ok (.ifCond .le 8, 3) := by decide +kernel
theorem dX4_freeOf_59 : decode cX4_freeOf 59 = .ok (.iload 4, 2) := by decide +kernel
theorem dX4_freeOf_61 : decode cX4_freeOf 61 = .ok (.goto 4, 3) := by decide +kernel
theorem dX4_freeOf_64 : decode cX4_freeOf 64 = .ok (.iconst 0, 1) := by decide +kernel
theorem dX4_freeOf_65 : decode cX4_freeOf 65 = .ok (.isub, 1) := by decide +kernel
theorem dX4_freeOf_66 : decode cX4_freeOf 66 = .ok (.istore_n 2, 1) := by decide +kernel
theorem dX4_freeOf_67 : decode cX4_freeOf 67 = .ok (.iinc 3 1, 3) := by decide +kernel
theorem dX4_freeOf_70 : decode cX4_freeOf 70 = .ok (.goto (-56), 3) := by decide +kernel
theorem dX4_freeOf_73 : decode cX4_freeOf 73 = .ok (.iload_n 2, 1) := by decide +kernel
theorem dX4_freeOf_74 : decode cX4_freeOf 74 = .ok (.ireturn, 1) := by decide +kernel
theorem dX4_firstJob_0 : decode cX4_firstJob 0 = .ok (.iconst 0, 1) := by decide +kernel
theorem dX4_firstJob_1 : decode cX4_firstJob 1 = .ok (.istore_n 2, 1) := by decide +kernel
theorem dX4_firstJob_2 : decode cX4_firstJob 2 = .ok (.iload_n 2, 1) := by decide +kernel
theorem dX4_firstJob_3 : decode cX4_firstJob 3 = .ok (.aload_n 0, 1) := by decide +kernel
theorem dX4_firstJob_4 : decode cX4_firstJob 4 = .ok (.getfield 122, 3) := by decide +kernel
theorem dX4_firstJob_7 : decode cX4_firstJob 7 = .ok (.if_icmp .ge 39, 3) := by decide +kernel
theorem dX4_firstJob_10 : decode cX4_firstJob 10 = .ok (.aload_n 0, 1) := by decide +kernel
theorem dX4_firstJob_11 : decode cX4_firstJob 11 = .ok (.getfield 40, 3) := by decide +kernel
theorem dX4_firstJob_14 : decode cX4_firstJob 14 = .ok (.iload_n 1, 1) := by decide +kernel
theorem dX4_firstJob_15 : decode cX4_firstJob 15 = .ok (.iaload, 1) := by decide +kernel
theorem dX4_firstJob_16 : decode cX4_firstJob 16 = .ok (.ifCond .le 30, 3) := by decide +kernel
theorem dX4_firstJob_19 : decode cX4_firstJob 19 = .ok (.aload_n 0, 1) := by decide +kernel
theorem dX4_firstJob_20 : decode cX4_firstJob 20 = .ok (.getfield 43, 3) := by decide +kernel
theorem dX4_firstJob_23 : decode cX4_firstJob 23 = .ok (.iload_n 2, 1) := by decide +kernel
theorem dX4_firstJob_24 : decode cX4_firstJob 24 = .ok (.iaload, 1) := by decide +kernel
theorem dX4_firstJob_25 : decode cX4_firstJob 25 = .ok (.iload_n 1, 1) := by decide +kernel
theorem dX4_firstJob_26 : decode cX4_firstJob 26 = .ok (.if_icmp .ne 14, 3) := by decide +kernel
theorem dX4_firstJob_29 : decode cX4_firstJob 29 = .ok (.aload_n 0, 1) := by decide +kernel
theorem dX4_firstJob_30 : decode cX4_firstJob 30 = .ok (.getfield 55, 3) := by decide +kernel
theorem dX4_firstJob_33 : decode cX4_firstJob 33 = .ok (.iload_n 2, 1) := by decide +kernel
theorem dX4_firstJob_34 : decode cX4_firstJob 34 = .ok (.iaload, 1) := by decide +kernel
theorem dX4_firstJob_35 : decode cX4_firstJob 35 = .ok (.ifCond .ne 5, 3) := by decide +kernel
theorem dX4_firstJob_38 : decode cX4_firstJob 38 = .ok (.iload_n 2, 1) := by decide +kernel
theorem dX4_firstJob_39 : decode cX4_firstJob 39 = .ok (.ireturn, 1) := by decide +kernel
theorem dX4_firstJob_40 : decode cX4_firstJob 40 = .ok (.iinc 2 1, 3) := by decide +kernel
theorem dX4_firstJob_43 : decode cX4_firstJob 43 = .ok (.goto (-41), 3) := by decide +kernel
theorem dX4_firstJob_46 : decode cX4_firstJob 46 = .ok (.iconst (-1), 1) := by decide +kernel
theorem dX4_firstJob_47 : decode cX4_firstJob 47 = .ok (.ireturn, 1) := by decide +kernel
theorem dX4_isAhead_0 : decode cX4_isAhead 0 = .ok (.aload_n 0, 1) := by decide +kernel
theorem dX4_isAhead_1 : decode cX4_isAhead 1 = .ok (.getfield 29, 3) := by decide +kernel
theorem dX4_isAhead_4 : decode cX4_isAhead 4 = .ok (.iload_n 1, 1) := by decide +kernel
theorem dX4_isAhead_5 : decode cX4_isAhead 5 = .ok (.laload, 1) := by decide +kernel
theorem dX4_isAhead_6 : decode cX4_isAhead 6 = .ok (.aload_n 0, 1) := by decide +kernel
theorem dX4_isAhead_7 : decode cX4_isAhead 7 = .ok (.getfield 23, 3) := by decide +kernel
theorem dX4_isAhead_10 : decode cX4_isAhead 10 = .ok (.iload_n 2, 1) := by decide +kernel
theorem dX4_isAhead_11 : decode cX4_isAhead 11 = .ok (.iaload, 1) := by decide +kernel
theorem dX4_isAhead_12 : decode cX4_isAhead 12 = .ok (.i2l, 1) := by decide +kernel
theorem dX4_isAhead_13 : decode cX4_isAhead 13 = .ok (.lmul, 1) := by decide +kernel
theorem dX4_isAhead_14 : decode cX4_isAhead 14 = .ok (.lstore_n 3, 1) := by decide +kernel
theorem dX4_isAhead_15 : decode cX4_isAhead 15 = .ok (.aload_n 0, 1) := by decide +kernel
theorem dX4_isAhead_16 : decode cX4_isAhead 16 = .ok (.getfield 29, 3) := by decide +kernel
theorem dX4_isAhead_19 : decode cX4_isAhead 19 = .ok (.iload_n 2, 1) := by decide +kernel
theorem dX4_isAhead_20 : decode cX4_isAhead 20 = .ok (.laload, 1) := by decide +kernel
theorem dX4_isAhead_21 : decode cX4_isAhead 21 = .ok (.aload_n 0, 1) := by decide +kernel
theorem dX4_isAhead_22 : decode cX4_isAhead 22 = .ok (.getfield 23, 3) := by decide +kernel
theorem dX4_isAhead_25 : decode cX4_isAhead 25 = .ok (.iload_n 1, 1) := by decide +kernel
theorem dX4_isAhead_26 : decode cX4_isAhead 26 = .ok (.iaload, 1) := by decide +kernel
theorem dX4_isAhead_27 : decode cX4_isAhead 27 = .ok (.i2l, 1) := by decide +kernel
theorem dX4_isAhead_28 : decode cX4_isAhead 28 = .ok (.lmul, 1) := by decide +kernel
theorem dX4_isAhead_29 : decode cX4_isAhead 29 = .ok (.lstore 5, 2) := by decide +kernel
theorem dX4_isAhead_31 : decode cX4_isAhead 31 = .ok (.lload_n 3, 1) := by decide +kernel
theorem dX4_isAhead_32 : decode cX4_isAhead 32 = .ok (.lload 5, 2) := by decide +kernel
theorem dX4_isAhead_34 : decode cX4_isAhead 34 = .ok (.lcmp, 1) := by decide +kernel
theorem dX4_isAhead_35 : decode cX4_isAhead 35 = .ok (.ifCond .eq 18, 3) := by decide +kernel
theorem dX4_isAhead_38 : decode cX4_isAhead 38 = .ok (.lload_n 3, 1) := by decide +kernel
theorem dX4_isAhead_39 : decode cX4_isAhead 39 = .ok (.lload 5, 2) := by decide +kernel
theorem dX4_isAhead_41 : decode cX4_isAhead 41 = .ok (.lcmp, 1) := by decide +kernel
theorem dX4_isAhead_42 : decode cX4_isAhead 42 = .ok (.ifCond .ge 7, 3) := by decide +kernel
theorem dX4_isAhead_45 : decode cX4_isAhead 45 = .ok (.iconst 1, 1) := by decide +kernel
theorem dX4_isAhead_46 : decode cX4_isAhead 46 = .ok (.goto 17, 3) := by decide +kernel
theorem dX4_isAhead_49 : decode cX4_isAhead 49 = .ok (.iconst 0, 1) := by decide +kernel
theorem dX4_isAhead_50 : decode cX4_isAhead 50 = .ok (.goto 13, 3) := by decide +kernel
theorem dX4_isAhead_53 : decode cX4_isAhead 53 = .ok (.iload_n 1, 1) := by decide +kernel
theorem dX4_isAhead_54 : decode cX4_isAhead 54 = .ok (.iload_n 2, 1) := by decide +kernel
theorem dX4_isAhead_55 : decode cX4_isAhead 55 = .ok (.if_icmp .ge 7, 3) := by decide +kernel
theorem dX4_isAhead_58 : decode cX4_isAhead 58 = .ok (.iconst 1, 1) := by decide +kernel
theorem dX4_isAhead_59 : decode cX4_isAhead 59 = .ok (.goto 4, 3) := by decide +kernel
theorem dX4_isAhead_62 : decode cX4_isAhead 62 = .ok (.iconst 0, 1) := by decide +kernel
theorem dX4_isAhead_63 : decode cX4_isAhead 63 = .ok (.ireturn, 1) := by decide +kernel
theorem dX4_laysLine_0 : decode cX4_laysLine 0 = .ok (.aload_n 0, 1) := by decide +kernel
theorem dX4_laysLine_1 : decode cX4_laysLine 1 = .ok (.iconst 0, 1) := by decide +kernel
theorem dX4_laysLine_2 : decode cX4_laysLine 2 = .ok (.putfield 125, 3) := by decide +kernel
theorem dX4_laysLine_5 : decode cX4_laysLine 5 = .ok (.iconst 0, 1) := by decide +kernel
theorem dX4_laysLine_6 : decode cX4_laysLine 6 = .ok (.istore_n 1, 1) := by decide +kernel
theorem dX4_laysLine_7 : decode cX4_laysLine 7 = .ok (.iload_n 1, 1) := by decide +kernel
theorem dX4_laysLine_8 : decode cX4_laysLine 8 = .ok (.aload_n 0, 1) := by decide +kernel
theorem dX4_laysLine_9 : decode cX4_laysLine 9 = .ok (.getfield 16, 3) := by decide +kernel
theorem dX4_laysLine_12 : decode cX4_laysLine 12 = .ok (.if_icmp .ge 91, 3) := by decide +kernel
theorem dX4_laysLine_15 : decode cX4_laysLine 15 = .ok (.aload_n 0, 1) := by decide +kernel
theorem dX4_laysLine_16 : decode cX4_laysLine 16 = .ok (.iload_n 1, 1) := by decide +kernel
theorem dX4_laysLine_17 : decode cX4_laysLine 17 = .ok (.invokevirtual 103, 3) := by decide +kernel
theorem dX4_laysLine_20 : decode cX4_laysLine 20 = .ok (.ifCond .eq 77, 3) := by decide +kernel
theorem dX4_laysLine_23 : decode cX4_laysLine 23 = .ok (.aload_n 0, 1) := by decide +kernel
theorem dX4_laysLine_24 : decode cX4_laysLine 24 = .ok (.iload_n 1, 1) := by decide +kernel
theorem dX4_laysLine_25 : decode cX4_laysLine 25 = .ok (.invokevirtual 128, 3) := by decide +kernel
theorem dX4_laysLine_28 : decode cX4_laysLine 28 = .ok (.iconst (-1), 1) := by decide +kernel
theorem dX4_laysLine_29 : decode cX4_laysLine 29 = .ok (.if_icmp .ne 6, 3) := by decide +kernel
theorem dX4_laysLine_32 : decode cX4_laysLine 32 = .ok (.goto 65, 3) := by decide +kernel
theorem dX4_laysLine_35 : decode cX4_laysLine 35 = .ok (.aload_n 0, 1) := by decide +kernel
theorem dX4_laysLine_36 : decode cX4_laysLine 36 = .ok (.getfield 125, 3) := by decide +kernel
theorem dX4_laysLine_39 : decode cX4_laysLine 39 = .ok (.istore_n 2, 1) := by decide +kernel
theorem dX4_laysLine_40 : decode cX4_laysLine 40 = .ok (.iload_n 2, 1) := by decide +kernel
theorem dX4_laysLine_41 : decode cX4_laysLine 41 = .ok (.ifCond .le 39, 3) := by decide +kernel
theorem dX4_laysLine_44 : decode cX4_laysLine 44 = .ok (.aload_n 0, 1) := by decide +kernel
theorem dX4_laysLine_45 : decode cX4_laysLine 45 = .ok (.iload_n 1, 1) := by decide +kernel
theorem dX4_laysLine_46 : decode cX4_laysLine 46 = .ok (.aload_n 0, 1) := by decide +kernel
theorem dX4_laysLine_47 : decode cX4_laysLine 47 = .ok (.getfield 82, 3) := by decide +kernel
theorem dX4_laysLine_50 : decode cX4_laysLine 50 = .ok (.iload_n 2, 1) := by decide +kernel
theorem dX4_laysLine_51 : decode cX4_laysLine 51 = .ok (.iconst 1, 1) := by decide +kernel
theorem dX4_laysLine_52 : decode cX4_laysLine 52 = .ok (.isub, 1) := by decide +kernel
theorem dX4_laysLine_53 : decode cX4_laysLine 53 = .ok (.iaload, 1) := by decide +kernel
theorem dX4_laysLine_54 : decode cX4_laysLine 54 = .ok (.invokevirtual 131, 3) := by decide +kernel
theorem dX4_laysLine_57 : decode cX4_laysLine 57 = .ok (.ifCond .eq 23, 3) := by decide +kernel
theorem dX4_laysLine_60 : decode cX4_laysLine 60 = .ok (.aload_n 0, 1) := by decide +kernel
theorem dX4_laysLine_61 : decode cX4_laysLine 61 = .ok (.getfield 82, 3) := by decide +kernel
theorem dX4_laysLine_64 : decode cX4_laysLine 64 = .ok (.iload_n 2, 1) := by decide +kernel
theorem dX4_laysLine_65 : decode cX4_laysLine 65 = .ok (.aload_n 0, 1) := by decide +kernel
theorem dX4_laysLine_66 : decode cX4_laysLine 66 = .ok (.getfield 82, 3) := by decide +kernel
theorem dX4_laysLine_69 : decode cX4_laysLine 69 = .ok (.iload_n 2, 1) := by decide +kernel
theorem dX4_laysLine_70 : decode cX4_laysLine 70 = .ok (.iconst 1, 1) := by decide +kernel
theorem dX4_laysLine_71 : decode cX4_laysLine 71 = .ok (.isub, 1) := by decide +kernel
theorem dX4_laysLine_72 : decode cX4_laysLine 72 = .ok (.iaload, 1) := by decide +kernel
theorem dX4_laysLine_73 : decode cX4_laysLine 73 = .ok (.iastore, 1) := by decide +kernel
theorem dX4_laysLine_74 : decode cX4_laysLine 74 = .ok (.iinc 2 (-1), 3) := by decide +kernel
theorem dX4_laysLine_77 : decode cX4_laysLine 77 = .ok (.goto (-37), 3) := by decide +kernel
theorem dX4_laysLine_80 : decode cX4_laysLine 80 = .ok (.aload_n 0, 1) := by decide +kernel
theorem dX4_laysLine_81 : decode cX4_laysLine 81 = .ok (.getfield 82, 3) := by decide +kernel
theorem dX4_laysLine_84 : decode cX4_laysLine 84 = .ok (.iload_n 2, 1) := by decide +kernel
theorem dX4_laysLine_85 : decode cX4_laysLine 85 = .ok (.iload_n 1, 1) := by decide +kernel
theorem dX4_laysLine_86 : decode cX4_laysLine 86 = .ok (.iastore, 1) := by decide +kernel
theorem dX4_laysLine_87 : decode cX4_laysLine 87 = .ok (.aload_n 0, 1) := by decide +kernel
theorem dX4_laysLine_88 : decode cX4_laysLine 88 = .ok (.dup, 1) := by decide +kernel
theorem dX4_laysLine_89 : decode cX4_laysLine 89 = .ok (.getfield 125, 3) := by decide +kernel
theorem dX4_laysLine_92 : decode cX4_laysLine 92 = .ok (.iconst 1, 1) := by decide +kernel
theorem dX4_laysLine_93 : decode cX4_laysLine 93 = .ok (.iadd, 1) := by decide +kernel
theorem dX4_laysLine_94 : decode cX4_laysLine 94 = .ok (.putfield 125, 3) := by decide +kernel
theorem dX4_laysLine_97 : decode cX4_laysLine 97 = .ok (.iinc 1 1, 3) := by decide +kernel
theorem dX4_laysLine_100 : decode cX4_laysLine 100 = .ok (.goto (-93), 3) := by decide +kernel
theorem dX4_laysLine_103 : decode cX4_laysLine 103 = .ok (.return_, 1) := by decide +kernel
theorem dX4_runsMore_0 : decode cX4_runsMore 0 = .ok (.iload_n 1, 1) := by decide +kernel
theorem dX4_runsMore_1 : decode cX4_runsMore 1 = .ok (.istore_n 3, 1) := by decide +kernel
theorem dX4_runsMore_2 : decode cX4_runsMore 2 = .ok (.iload_n 3, 1) := by decide +kernel
theorem dX4_runsMore_3 : decode cX4_runsMore 3 = .ok (.iconst (-1), 1) := by decide +kernel
theorem dX4_runsMore_4 : decode cX4_runsMore 4 = .ok (.if_icmp .eq 23, 3) := by decide +kernel
theorem dX4_runsMore_7 : decode cX4_runsMore 7 = .ok (.aload_n 0, 1) := by decide +kernel
theorem dX4_runsMore_8 : decode cX4_runsMore 8 = .ok (.getfield 37, 3) := by decide +kernel
theorem dX4_runsMore_11 : decode cX4_runsMore 11 = .ok (.iload_n 3, 1) := by decide +kernel
theorem dX4_runsMore_12 : decode cX4_runsMore 12 = .ok (.dup2, 1) := by decide +kernel
theorem dX4_runsMore_13 : decode cX4_runsMore 13 = .ok (.iaload, 1) := by decide +kernel
theorem dX4_runsMore_14 : decode cX4_runsMore 14 = .ok (.iload_n 2, 1) := by decide +kernel
theorem dX4_runsMore_15 : decode cX4_runsMore 15 = .ok (.iadd, 1) := by decide +kernel
theorem dX4_runsMore_16 : decode cX4_runsMore 16 = .ok (.iastore, 1) := by decide +kernel
theorem dX4_runsMore_17 : decode cX4_runsMore 17 = .ok (.aload_n 0, 1) := by decide +kernel
theorem dX4_runsMore_18 : decode cX4_runsMore 18 = .ok (.getfield 19, 3) := by decide +kernel
theorem dX4_runsMore_21 : decode cX4_runsMore 21 = .ok (.iload_n 3, 1) := by decide +kernel
theorem dX4_runsMore_22 : decode cX4_runsMore 22 = .ok (.iaload, 1) := by decide +kernel
theorem dX4_runsMore_23 : decode cX4_runsMore 23 = .ok (.istore_n 3, 1) := by decide +kernel
theorem dX4_runsMore_24 : decode cX4_runsMore 24 = .ok (.goto (-22), 3) := by decide +kernel
theorem dX4_runsMore_27 : decode cX4_runsMore 27 = .ok (.return_, 1) := by decide +kernel
theorem dX4_starts_0 : decode cX4_starts 0 = .ok (.aload_n 0, 1) := by decide +kernel
theorem dX4_starts_1 : decode cX4_starts 1 = .ok (.getfield 55, 3) := by decide +kernel
theorem dX4_starts_4 : decode cX4_starts 4 = .ok (.iload_n 1, 1) := by decide +kernel
theorem dX4_starts_5 : decode cX4_starts 5 = .ok (.iconst 1, 1) := by decide +kernel
theorem dX4_starts_6 : decode cX4_starts 6 = .ok (.iastore, 1) := by decide +kernel
theorem dX4_starts_7 : decode cX4_starts 7 = .ok (.aload_n 0, 1) := by decide +kernel
theorem dX4_starts_8 : decode cX4_starts 8 = .ok (.getfield 52, 3) := by decide +kernel
theorem dX4_starts_11 : decode cX4_starts 11 = .ok (.iload_n 1, 1) := by decide +kernel
theorem dX4_starts_12 : decode cX4_starts 12 = .ok (.aload_n 0, 1) := by decide +kernel
theorem dX4_starts_13 : decode cX4_starts 13 = .ok (.getfield 49, 3) := by decide +kernel
theorem dX4_starts_16 : decode cX4_starts 16 = .ok (.iload_n 1, 1) := by decide +kernel
theorem dX4_starts_17 : decode cX4_starts 17 = .ok (.iaload, 1) := by decide +kernel
theorem dX4_starts_18 : decode cX4_starts 18 = .ok (.iastore, 1) := by decide +kernel
theorem dX4_starts_19 : decode cX4_starts 19 = .ok (.aload_n 0, 1) := by decide +kernel
theorem dX4_starts_20 : decode cX4_starts 20 = .ok (.getfield 61, 3) := by decide +kernel
theorem dX4_starts_23 : decode cX4_starts 23 = .ok (.iload_n 1, 1) := by decide +kernel
theorem dX4_starts_24 : decode cX4_starts 24 = .ok (.aload_n 0, 1) := by decide +kernel
theorem dX4_starts_25 : decode cX4_starts 25 = .ok (.getfield 135, 3) := by decide +kernel
theorem dX4_starts_28 : decode cX4_starts 28 = .ok (.iastore, 1) := by decide +kernel
theorem dX4_starts_29 : decode cX4_starts 29 = .ok (.aload_n 0, 1) := by decide +kernel
theorem dX4_starts_30 : decode cX4_starts 30 = .ok (.dup, 1) := by decide +kernel
theorem dX4_starts_31 : decode cX4_starts 31 = .ok (.getfield 135, 3) := by decide +kernel
theorem dX4_starts_34 : decode cX4_starts 34 = .ok (.iconst 1, 1) := by decide +kernel
theorem dX4_starts_35 : decode cX4_starts 35 = .ok (.iadd, 1) := by decide +kernel
theorem dX4_starts_36 : decode cX4_starts 36 = .ok (.putfield 135, 3) := by decide +kernel
theorem dX4_starts_39 : decode cX4_starts 39 = .ok (.aload_n 0, 1) := by decide +kernel
theorem dX4_starts_40 : decode cX4_starts 40 = .ok (.getfield 40, 3) := by decide +kernel
theorem dX4_starts_43 : decode cX4_starts 43 = .ok (.aload_n 0, 1) := by decide +kernel
theorem dX4_starts_44 : decode cX4_starts 44 = .ok (.getfield 43, 3) := by decide +kernel
theorem dX4_starts_47 : decode cX4_starts 47 = .ok (.iload_n 1, 1) := by decide +kernel
theorem dX4_starts_48 : decode cX4_starts 48 = .ok (.iaload, 1) := by decide +kernel
theorem dX4_starts_49 : decode cX4_starts 49 = .ok (.dup2, 1) := by decide +kernel
theorem dX4_starts_50 : decode cX4_starts 50 = .ok (.iaload, 1) := by decide +kernel
theorem dX4_starts_51 : decode cX4_starts 51 = .ok (.aload_n 0, 1) := by decide +kernel
theorem dX4_starts_52 : decode cX4_starts 52 = .ok (.getfield 46, 3) := by decide +kernel
theorem dX4_starts_55 : decode cX4_starts 55 = .ok (.iload_n 1, 1) := by decide +kernel
theorem dX4_starts_56 : decode cX4_starts 56 = .ok (.iaload, 1) := by decide +kernel
theorem dX4_starts_57 : decode cX4_starts 57 = .ok (.isub, 1) := by decide +kernel
theorem dX4_starts_58 : decode cX4_starts 58 = .ok (.iastore, 1) := by decide +kernel
theorem dX4_starts_59 : decode cX4_starts 59 = .ok (.aload_n 0, 1) := by decide +kernel
theorem dX4_starts_60 : decode cX4_starts 60 = .ok (.aload_n 0, 1) := by decide +kernel
theorem dX4_starts_61 : decode cX4_starts 61 = .ok (.getfield 43, 3) := by decide +kernel
theorem dX4_starts_64 : decode cX4_starts 64 = .ok (.iload_n 1, 1) := by decide +kernel
theorem dX4_starts_65 : decode cX4_starts 65 = .ok (.iaload, 1) := by decide +kernel
theorem dX4_starts_66 : decode cX4_starts 66 = .ok (.aload_n 0, 1) := by decide +kernel
theorem dX4_starts_67 : decode cX4_starts 67 = .ok (.getfield 46, 3) := by decide +kernel
theorem dX4_starts_70 : decode cX4_starts 70 = .ok (.iload_n 1, 1) := by decide +kernel
theorem dX4_starts_71 : decode cX4_starts 71 = .ok (.iaload, 1) := by decide +kernel
theorem dX4_starts_72 : decode cX4_starts 72 = .ok (.invokevirtual 138, 3) := by decide +kernel
theorem dX4_starts_75 : decode cX4_starts 75 = .ok (.return_, 1) := by decide +kernel
theorem dX4_halts_0 : decode cX4_halts 0 = .ok (.aload_n 0, 1) := by decide +kernel
theorem dX4_halts_1 : decode cX4_halts 1 = .ok (.getfield 55, 3) := by decide +kernel
theorem dX4_halts_4 : decode cX4_halts 4 = .ok (.iload_n 1, 1) := by decide +kernel
theorem dX4_halts_5 : decode cX4_halts 5 = .ok (.iconst 0, 1) := by decide +kernel
theorem dX4_halts_6 : decode cX4_halts 6 = .ok (.iastore, 1) := by decide +kernel
theorem dX4_halts_7 : decode cX4_halts 7 = .ok (.aload_n 0, 1) := by decide +kernel
theorem dX4_halts_8 : decode cX4_halts 8 = .ok (.getfield 40, 3) := by decide +kernel
theorem dX4_halts_11 : decode cX4_halts 11 = .ok (.aload_n 0, 1) := by decide +kernel
theorem dX4_halts_12 : decode cX4_halts 12 = .ok (.getfield 43, 3) := by decide +kernel
theorem dX4_halts_15 : decode cX4_halts 15 = .ok (.iload_n 1, 1) := by decide +kernel
theorem dX4_halts_16 : decode cX4_halts 16 = .ok (.iaload, 1) := by decide +kernel
theorem dX4_halts_17 : decode cX4_halts 17 = .ok (.dup2, 1) := by decide +kernel
theorem dX4_halts_18 : decode cX4_halts 18 = .ok (.iaload, 1) := by decide +kernel
theorem dX4_halts_19 : decode cX4_halts 19 = .ok (.aload_n 0, 1) := by decide +kernel
theorem dX4_halts_20 : decode cX4_halts 20 = .ok (.getfield 46, 3) := by decide +kernel
theorem dX4_halts_23 : decode cX4_halts 23 = .ok (.iload_n 1, 1) := by decide +kernel
theorem dX4_halts_24 : decode cX4_halts 24 = .ok (.iaload, 1) := by decide +kernel
theorem dX4_halts_25 : decode cX4_halts 25 = .ok (.iadd, 1) := by decide +kernel
theorem dX4_halts_26 : decode cX4_halts 26 = .ok (.iastore, 1) := by decide +kernel
theorem dX4_halts_27 : decode cX4_halts 27 = .ok (.aload_n 0, 1) := by decide +kernel
theorem dX4_halts_28 : decode cX4_halts 28 = .ok (.aload_n 0, 1) := by decide +kernel
theorem dX4_halts_29 : decode cX4_halts 29 = .ok (.getfield 43, 3) := by decide +kernel
theorem dX4_halts_32 : decode cX4_halts 32 = .ok (.iload_n 1, 1) := by decide +kernel
theorem dX4_halts_33 : decode cX4_halts 33 = .ok (.iaload, 1) := by decide +kernel
theorem dX4_halts_34 : decode cX4_halts 34 = .ok (.aload_n 0, 1) := by decide +kernel
theorem dX4_halts_35 : decode cX4_halts 35 = .ok (.getfield 46, 3) := by decide +kernel
theorem dX4_halts_38 : decode cX4_halts 38 = .ok (.iload_n 1, 1) := by decide +kernel
theorem dX4_halts_39 : decode cX4_halts 39 = .ok (.iaload, 1) := by decide +kernel
theorem dX4_halts_40 : decode cX4_halts 40 = .ok (.ineg, 1) := by decide +kernel
theorem dX4_halts_41 : decode cX4_halts 41 = .ok (.invokevirtual 138, 3) := by decide +kernel
theorem dX4_halts_44 : decode cX4_halts 44 = .ok (.return_, 1) := by decide +kernel
theorem dX4_goesBack_0 : decode cX4_goesBack 0 = .ok (.aload_n 0, 1) := by decide +kernel
theorem dX4_goesBack_1 : decode cX4_goesBack 1 = .ok (.getfield 55, 3) := by decide +kernel
theorem dX4_goesBack_4 : decode cX4_goesBack 4 = .ok (.iload_n 1, 1) := by decide +kernel
theorem dX4_goesBack_5 : decode cX4_goesBack 5 = .ok (.iconst 1, 1) := by decide +kernel
theorem dX4_goesBack_6 : decode cX4_goesBack 6 = .ok (.iastore, 1) := by decide +kernel
theorem dX4_goesBack_7 : decode cX4_goesBack 7 = .ok (.aload_n 0, 1) := by decide +kernel
theorem dX4_goesBack_8 : decode cX4_goesBack 8 = .ok (.getfield 40, 3) := by decide +kernel
theorem dX4_goesBack_11 : decode cX4_goesBack 11 = .ok (.aload_n 0, 1) := by decide +kernel
theorem dX4_goesBack_12 : decode cX4_goesBack 12 = .ok (.getfield 43, 3) := by decide +kernel
theorem dX4_goesBack_15 : decode cX4_goesBack 15 = .ok (.iload_n 1, 1) := by decide +kernel
theorem dX4_goesBack_16 : decode cX4_goesBack 16 = .ok (.iaload, 1) := by decide +kernel
theorem dX4_goesBack_17 : decode cX4_goesBack 17 = .ok (.dup2, 1) := by decide +kernel
theorem dX4_goesBack_18 : decode cX4_goesBack 18 = .ok (.iaload, 1) := by decide +kernel
theorem dX4_goesBack_19 : decode cX4_goesBack 19 = .ok (.aload_n 0, 1) := by decide +kernel
theorem dX4_goesBack_20 : decode cX4_goesBack 20 = .ok (.getfield 46, 3) := by decide +kernel
theorem dX4_goesBack_23 : decode cX4_goesBack 23 = .ok (.iload_n 1, 1) := by decide +kernel
theorem dX4_goesBack_24 : decode cX4_goesBack 24 = .ok (.iaload, 1) := by decide +kernel
theorem dX4_goesBack_25 : decode cX4_goesBack 25 = .ok (.isub, 1) := by decide +kernel
theorem dX4_goesBack_26 : decode cX4_goesBack 26 = .ok (.iastore, 1) := by decide +kernel
theorem dX4_goesBack_27 : decode cX4_goesBack 27 = .ok (.aload_n 0, 1) := by decide +kernel
theorem dX4_goesBack_28 : decode cX4_goesBack 28 = .ok (.aload_n 0, 1) := by decide +kernel
theorem dX4_goesBack_29 : decode cX4_goesBack 29 = .ok (.getfield 43, 3) := by decide +kernel
theorem dX4_goesBack_32 : decode cX4_goesBack 32 = .ok (.iload_n 1, 1) := by decide +kernel
theorem dX4_goesBack_33 : decode cX4_goesBack 33 = .ok (.iaload, 1) := by decide +kernel
theorem dX4_goesBack_34 : decode cX4_goesBack 34 = .ok (.aload_n 0, 1) := by decide +kernel
theorem dX4_goesBack_35 : decode cX4_goesBack 35 = .ok (.getfield 46, 3) := by decide +kernel
theorem dX4_goesBack_38 : decode cX4_goesBack 38 = .ok (.iload_n 1, 1) := by decide +kernel
theorem dX4_goesBack_39 : decode cX4_goesBack 39 = .ok (.iaload, 1) := by decide +kernel
theorem dX4_goesBack_40 : decode cX4_goesBack 40 = .ok (.invokevirtual 138, 3) := by decide +kernel
theorem dX4_goesBack_43 : decode cX4_goesBack 43 = .ok (.return_, 1) := by decide +kernel
theorem dX4_isWithinLimits_0 : decode cX4_isWithinLimits 0 = .ok (.iconst 1, 1) := by decide +kernel
theorem dX4_isWithinLimits_1 : decode cX4_isWithinLimits 1 = .ok (.istore_n 2, 1) := by decide +kernel
theorem dX4_isWithinLimits_2 : decode cX4_isWithinLimits 2 = .ok (.aload_n 0, 1) := by decide +kernel
theorem dX4_isWithinLimits_3 : decode cX4_isWithinLimits 3 = .ok (.getfield 43, 3) := by decide +kernel
theorem dX4_isWithinLimits_6 : decode cX4_isWithinLimits 6 = .ok (.iload_n 1, 1) := by decide +kernel
theorem dX4_isWithinLimits_7 : decode cX4_isWithinLimits 7 = .ok (.iaload, 1) := by decide +kernel
theorem dX4_isWithinLimits_8 : decode cX4_isWithinLimits 8 = .ok (.istore_n 3, 1) := by decide +kernel
theorem dX4_isWithinLimits_9 : decode cX4_isWithinLimits 9 = .ok (.iload_n 3, 1) := by decide +kernel
theorem dX4_isWithinLimits_10 : decode cX4_isWithinLimits 10 = .ok (.ifCond .le 45, 3) := by decide +kernel
theorem dX4_isWithinLimits_13 : decode cX4_isWithinLimits 13 = .ok (.iload_n 2, 1) := by decide +kernel
theorem dX4_isWithinLimits_14 : decode cX4_isWithinLimits 14 = .ok (.ifCond .eq 29, 3) := by decide +kernel
theorem dX4_isWithinLimits_17 : decode cX4_isWithinLimits 17 = .ok (.aload_n 0, 1) := by decide +kernel
theorem dX4_isWithinLimits_18 : decode cX4_isWithinLimits 18 = .ok (.getfield 37, 3) := by decide +kernel
theorem dX4_isWithinLimits_21 : decode cX4_isWithinLimits 21 = .ok (.iload_n 3, 1) := by decide +kernel
theorem dX4_isWithinLimits_22 : decode cX4_isWithinLimits 22 = .ok (.iaload, 1) := by decide +kernel
theorem dX4_isWithinLimits_23 : decode cX4_isWithinLimits 23 = .ok (.aload_n 0, 1) := by decide +kernel
theorem dX4_isWithinLimits_24 : decode cX4_isWithinLimits 24 = .ok (.getfield 46, 3) := by decide +kernel
theorem dX4_isWithinLimits_27 : decode cX4_isWithinLimits 27 = .ok (.iload_n 1, 1) := by decide +kernel
theorem dX4_isWithinLimits_28 : decode cX4_isWithinLimits 28 = .ok (.iaload, 1) := by decide +kernel
theorem dX4_isWithinLimits_29 : decode cX4_isWithinLimits 29 = .ok (.iadd, 1) := by decide +kernel
theorem dX4_isWithinLimits_30 : decode cX4_isWithinLimits 30 = .ok (.aload_n 0, 1) := by decide +kernel
theorem dX4_isWithinLimits_31 : decode cX4_isWithinLimits 31 = .ok (.getfield 26, 3) := by decide +kernel
theorem dX4_isWithinLimits_34 : decode cX4_isWithinLimits 34 = .ok (.iload_n 3, 1) := by decide +kernel
theorem dX4_isWithinLimits_35 : decode cX4_isWithinLimits 35 = .ok (.iaload, 1) := by decide +kernel
theorem dX4_isWithinLimits_36 : decode cX4_isWithinLimits 36 = .ok (.if_icmp .gt 7, 3) := by decide +kernel
theorem dX4_isWithinLimits_39 : decode cX4_isWithinLimits 39 = .ok (.iconst 1, 1) := by decide +kernel
theorem dX4_isWithinLimits_40 : decode cX4_isWithinLimits 40 = .ok (.goto 4, 3) := by decide +kernel
theorem dX4_isWithinLimits_43 : decode cX4_isWithinLimits 43 = .ok (.iconst 0, 1) := by decide +kernel
theorem dX4_isWithinLimits_44 : decode cX4_isWithinLimits 44 = .ok (.istore_n 2, 1) := by decide +kernel
theorem dX4_isWithinLimits_45 : decode cX4_isWithinLimits 45 = .ok (.aload_n 0, 1) := by decide +kernel
theorem dX4_isWithinLimits_46 : decode cX4_isWithinLimits 46 = .ok (.getfield 19, 3) := by decide +kernel
theorem dX4_isWithinLimits_49 : decode cX4_isWithinLimits 49 = .ok (.iload_n 3, 1) := by decide +kernel
theorem dX4_isWithinLimits_50 : decode cX4_isWithinLimits 50 = .ok (.iaload, 1) := by decide +kernel
theorem dX4_isWithinLimits_51 : decode cX4_isWithinLimits 51 = .ok (.istore_n 3, 1) := by decide +kernel
theorem dX4_isWithinLimits_52 : decode cX4_isWithinLimits 52 = .ok (.goto (-43), 3) := by decide +kernel
theorem dX4_isWithinLimits_55 : decode cX4_isWithinLimits 55 = .ok (.iload_n 2, 1) := by decide +kernel
theorem dX4_isWithinLimits_56 : decode cX4_isWithinLimits 56 = .ok (.ireturn, 1) := by decide +kernel
theorem dX4_canStart_0 : decode cX4_canStart 0 = .ok (.aload_n 0, 1) := by decide +kernel
theorem dX4_canStart_1 : decode cX4_canStart 1 = .ok (.iload_n 1, 1) := by decide +kernel
theorem dX4_canStart_2 : decode cX4_canStart 2 = .ok (.invokevirtual 142, 3) := by decide +kernel
theorem dX4_canStart_5 : decode cX4_canStart 5 = .ok (.ifCond .eq 26, 3) := by decide +kernel
theorem dX4_canStart_8 : decode cX4_canStart 8 = .ok (.aload_n 0, 1) := by decide +kernel
theorem dX4_canStart_9 : decode cX4_canStart 9 = .ok (.getfield 46, 3) := by decide +kernel
theorem dX4_canStart_12 : decode cX4_canStart 12 = .ok (.iload_n 1, 1) := by decide +kernel
theorem dX4_canStart_13 : decode cX4_canStart 13 = .ok (.iaload, 1) := by decide +kernel
theorem dX4_canStart_14 : decode cX4_canStart 14 = .ok (.aload_n 0, 1) := by decide +kernel
theorem dX4_canStart_15 : decode cX4_canStart 15 = .ok (.aload_n 0, 1) := by decide +kernel
theorem dX4_canStart_16 : decode cX4_canStart 16 = .ok (.getfield 43, 3) := by decide +kernel
theorem dX4_canStart_19 : decode cX4_canStart 19 = .ok (.iload_n 1, 1) := by decide +kernel
theorem dX4_canStart_20 : decode cX4_canStart 20 = .ok (.iaload, 1) := by decide +kernel
theorem dX4_canStart_21 : decode cX4_canStart 21 = .ok (.invokevirtual 145, 3) := by decide +kernel
theorem dX4_canStart_24 : decode cX4_canStart 24 = .ok (.if_icmp .gt 7, 3) := by decide +kernel
theorem dX4_canStart_27 : decode cX4_canStart 27 = .ok (.iconst 1, 1) := by decide +kernel
theorem dX4_canStart_28 : decode cX4_canStart 28 = .ok (.goto 4, 3) := by decide +kernel
theorem dX4_canStart_31 : decode cX4_canStart 31 = .ok (.iconst 0, 1) := by decide +kernel
theorem dX4_canStart_32 : decode cX4_canStart 32 = .ok (.ireturn, 1) := by decide +kernel
theorem dX4_lastOver_0 : decode cX4_lastOver 0 = .ok (.iconst (-1), 1) := by decide +kernel
theorem dX4_lastOver_1 : decode cX4_lastOver 1 = .ok (.istore_n 2, 1) := by decide +kernel
theorem dX4_lastOver_2 : decode cX4_lastOver 2 = .ok (.iconst 0, 1) := by decide +kernel
theorem dX4_lastOver_3 : decode cX4_lastOver 3 = .ok (.istore_n 3, 1) := by decide +kernel
theorem dX4_lastOver_4 : decode cX4_lastOver 4 = .ok (.iload_n 3, 1) := by decide +kernel
theorem dX4_lastOver_5 : decode cX4_lastOver 5 = .ok (.aload_n 0, 1) := by decide +kernel
theorem dX4_lastOver_6 : decode cX4_lastOver 6 = .ok (.getfield 122, 3) := by decide +kernel
theorem dX4_lastOver_9 : decode cX4_lastOver 9 = .ok (.if_icmp .ge 91, 3) := by decide +kernel
theorem dX4_lastOver_12 : decode cX4_lastOver 12 = .ok (.aload_n 0, 1) := by decide +kernel
theorem dX4_lastOver_13 : decode cX4_lastOver 13 = .ok (.getfield 55, 3) := by decide +kernel
theorem dX4_lastOver_16 : decode cX4_lastOver 16 = .ok (.iload_n 3, 1) := by decide +kernel
theorem dX4_lastOver_17 : decode cX4_lastOver 17 = .ok (.iaload, 1) := by decide +kernel
theorem dX4_lastOver_18 : decode cX4_lastOver 18 = .ok (.iconst 1, 1) := by decide +kernel
theorem dX4_lastOver_19 : decode cX4_lastOver 19 = .ok (.if_icmp .ne 41, 3) := by decide +kernel
theorem dX4_lastOver_22 : decode cX4_lastOver 22 = .ok (.aload_n 0, 1) := by decide +kernel
theorem dX4_lastOver_23 : decode cX4_lastOver 23 = .ok (.getfield 43, 3) := by decide +kernel
theorem dX4_lastOver_26 : decode cX4_lastOver 26 = .ok (.iload_n 3, 1) := by decide +kernel
theorem dX4_lastOver_27 : decode cX4_lastOver 27 = .ok (.iaload, 1) := by decide +kernel
theorem dX4_lastOver_28 : decode cX4_lastOver 28 = .ok (.iload_n 1, 1) := by decide +kernel
theorem dX4_lastOver_29 : decode cX4_lastOver 29 = .ok (.if_icmp .eq 31, 3) := by decide +kernel
theorem dX4_lastOver_32 : decode cX4_lastOver 32 = .ok (.aload_n 0, 1) := by decide +kernel
theorem dX4_lastOver_33 : decode cX4_lastOver 33 = .ok (.getfield 37, 3) := by decide +kernel
theorem dX4_lastOver_36 : decode cX4_lastOver 36 = .ok (.aload_n 0, 1) := by decide +kernel
theorem dX4_lastOver_37 : decode cX4_lastOver 37 = .ok (.getfield 43, 3) := by decide +kernel
theorem dX4_lastOver_40 : decode cX4_lastOver 40 = .ok (.iload_n 3, 1) := by decide +kernel
theorem dX4_lastOver_41 : decode cX4_lastOver 41 = .ok (.iaload, 1) := by decide +kernel
theorem dX4_lastOver_42 : decode cX4_lastOver 42 = .ok (.iaload, 1) := by decide +kernel
theorem dX4_lastOver_43 : decode cX4_lastOver 43 = .ok (.aload_n 0, 1) := by decide +kernel
theorem dX4_lastOver_44 : decode cX4_lastOver 44 = .ok (.aload_n 0, 1) := by decide +kernel
theorem dX4_lastOver_45 : decode cX4_lastOver 45 = .ok (.getfield 43, 3) := by decide +kernel
theorem dX4_lastOver_48 : decode cX4_lastOver 48 = .ok (.iload_n 3, 1) := by decide +kernel
theorem dX4_lastOver_49 : decode cX4_lastOver 49 = .ok (.iaload, 1) := by decide +kernel
theorem dX4_lastOver_50 : decode cX4_lastOver 50 = .ok (.invokevirtual 148, 3) := by decide +kernel
theorem dX4_lastOver_53 : decode cX4_lastOver 53 = .ok (.if_icmp .le 7, 3) := by decide +kernel
theorem dX4_lastOver_56 : decode cX4_lastOver 56 = .ok (.iconst 1, 1) := by decide +kernel
theorem dX4_lastOver_57 : decode cX4_lastOver 57 = .ok (.goto 4, 3) := by decide +kernel
theorem dX4_lastOver_60 : decode cX4_lastOver 60 = .ok (.iconst 0, 1) := by decide +kernel
theorem dX4_lastOver_61 : decode cX4_lastOver 61 = .ok (.istore 4, 2) := by decide +kernel
theorem dX4_lastOver_63 : decode cX4_lastOver 63 = .ok (.iload 4, 2) := by decide +kernel
theorem dX4_lastOver_65 : decode cX4_lastOver 65 = .ok (.ifCond .eq 27, 3) := by decide +kernel
theorem dX4_lastOver_68 : decode cX4_lastOver 68 = .ok (.iload_n 2, 1) := by decide +kernel
theorem dX4_lastOver_69 : decode cX4_lastOver 69 = .ok (.iconst (-1), 1) := by decide +kernel
theorem dX4_lastOver_70 : decode cX4_lastOver 70 = .ok (.if_icmp .eq 18, 3) := by decide +kernel
theorem dX4_lastOver_73 : decode cX4_lastOver 73 = .ok (.aload_n 0, 1) := by decide +kernel
theorem dX4_lastOver_74 : decode cX4_lastOver 74 = .ok (.getfield 61, 3) := by decide +kernel
theorem dX4_lastOver_77 : decode cX4_lastOver 77 = .ok (.iload_n 3, 1) := by decide +kernel
theorem dX4_lastOver_78 : decode cX4_lastOver 78 = .ok (.iaload, 1) := by decide +kernel
theorem dX4_lastOver_79 : decode cX4_lastOver 79 = .ok (.aload_n 0, 1) := by decide +kernel
theorem dX4_lastOver_80 : decode cX4_lastOver 80 = .ok (.getfield 61, 3) := by decide +kernel
theorem dX4_lastOver_83 : decode cX4_lastOver 83 = .ok (.iload_n 2, 1) := by decide +kernel
theorem dX4_lastOver_84 : decode cX4_lastOver 84 = .ok (.iaload, 1) := by decide +kernel
theorem dX4_lastOver_85 : decode cX4_lastOver 85 = .ok (.if_icmp .le 7, 3) := by decide +kernel
theorem dX4_lastOver_88 : decode cX4_lastOver 88 = .ok (.iload_n 3, 1) := by decide +kernel
theorem dX4_lastOver_89 : decode cX4_lastOver 89 = .ok (.goto 4, 3) := by decide +kernel
theorem dX4_lastOver_92 : decode cX4_lastOver 92 = .ok (.iload_n 2, 1) := by decide +kernel
theorem dX4_lastOver_93 : decode cX4_lastOver 93 = .ok (.istore_n 2, 1) := by decide +kernel
theorem dX4_lastOver_94 : decode cX4_lastOver 94 = .ok (.iinc 3 1, 3) := by decide +kernel
theorem dX4_lastOver_97 : decode cX4_lastOver 97 = .ok (.goto (-93), 3) := by decide +kernel
theorem dX4_lastOver_100 : decode cX4_lastOver 100 = .ok (.iload_n 2, 1) := by decide +kernel
theorem dX4_lastOver_101 : decode cX4_lastOver 101 = .ok (.ireturn, 1) := by decide +kernel
theorem dX4_makesRoom_0 : decode cX4_makesRoom 0 = .ok (.aload_n 0, 1) := by decide +kernel
theorem dX4_makesRoom_1 : decode cX4_makesRoom 1 = .ok (.getfield 43, 3) := by decide +kernel
theorem dX4_makesRoom_4 : decode cX4_makesRoom 4 = .ok (.iload_n 1, 1) := by decide +kernel
theorem dX4_makesRoom_5 : decode cX4_makesRoom 5 = .ok (.iaload, 1) := by decide +kernel
theorem dX4_makesRoom_6 : decode cX4_makesRoom 6 = .ok (.istore_n 2, 1) := by decide +kernel
theorem dX4_makesRoom_7 : decode cX4_makesRoom 7 = .ok (.aload_n 0, 1) := by decide +kernel
theorem dX4_makesRoom_8 : decode cX4_makesRoom 8 = .ok (.iconst 0, 1) := by decide +kernel
theorem dX4_makesRoom_9 : decode cX4_makesRoom 9 = .ok (.putfield 151, 3) := by decide +kernel
theorem dX4_makesRoom_12 : decode cX4_makesRoom 12 = .ok (.aload_n 0, 1) := by decide +kernel
theorem dX4_makesRoom_13 : decode cX4_makesRoom 13 = .ok (.iload_n 1, 1) := by decide +kernel
theorem dX4_makesRoom_14 : decode cX4_makesRoom 14 = .ok (.invokevirtual 142, 3) := by decide +kernel
theorem dX4_makesRoom_17 : decode cX4_makesRoom 17 = .ok (.ifCond .eq 38, 3) := by decide +kernel
theorem dX4_makesRoom_20 : decode cX4_makesRoom 20 = .ok (.aload_n 0, 1) := by decide +kernel
theorem dX4_makesRoom_21 : decode cX4_makesRoom 21 = .ok (.getfield 46, 3) := by decide +kernel
theorem dX4_makesRoom_24 : decode cX4_makesRoom 24 = .ok (.iload_n 1, 1) := by decide +kernel
theorem dX4_makesRoom_25 : decode cX4_makesRoom 25 = .ok (.iaload, 1) := by decide +kernel
theorem dX4_makesRoom_26 : decode cX4_makesRoom 26 = .ok (.aload_n 0, 1) := by decide +kernel
theorem dX4_makesRoom_27 : decode cX4_makesRoom 27 = .ok (.iload_n 2, 1) := by decide +kernel
theorem dX4_makesRoom_28 : decode cX4_makesRoom 28 = .ok (.invokevirtual 145, 3) := by decide +kernel
theorem dX4_makesRoom_31 : decode cX4_makesRoom 31 = .ok (.if_icmp .le 24, 3) := by decide +kernel
theorem dX4_makesRoom_34 : decode cX4_makesRoom 34 = .ok (.aload_n 0, 1) := by decide +kernel
theorem dX4_makesRoom_35 : decode cX4_makesRoom 35 = .ok (.getfield 37, 3) := by decide +kernel
theorem dX4_makesRoom_38 : decode cX4_makesRoom 38 = .ok (.iload_n 2, 1) := by decide +kernel
theorem dX4_makesRoom_39 : decode cX4_makesRoom 39 = .ok (.iaload, 1) := by decide +kernel
theorem dX4_makesRoom_40 : decode cX4_makesRoom 40 = .ok (.aload_n 0, 1) := by decide +kernel
theorem dX4_makesRoom_41 : decode cX4_makesRoom 41 = .ok (.getfield 46, 3) := by decide +kernel
theorem dX4_makesRoom_44 : decode cX4_makesRoom 44 = .ok (.iload_n 1, 1) := by decide +kernel
theorem dX4_makesRoom_45 : decode cX4_makesRoom 45 = .ok (.iaload, 1) := by decide +kernel
theorem dX4_makesRoom_46 : decode cX4_makesRoom 46 = .ok (.iadd, 1) := by decide +kernel
theorem dX4_makesRoom_47 : decode cX4_makesRoom 47 = .ok (.aload_n 0, 1) := by decide +kernel
theorem dX4_makesRoom_48 : decode cX4_makesRoom 48 = .ok (.iload_n 2, 1) := by decide +kernel
theorem dX4_makesRoom_49 : decode cX4_makesRoom 49 = .ok (.invokevirtual 148, 3) := by decide +kernel
theorem dX4_makesRoom_52 : decode cX4_makesRoom 52 = .ok (.if_icmp .le 5, 3) := by decide +kernel
theorem dX4_makesRoom_55 : decode cX4_makesRoom 55 = .ok (.iconst 0, 1) := by decide +kernel
theorem dX4_makesRoom_56 : decode cX4_makesRoom 56 = .ok (.ireturn, 1) := by decide +kernel
theorem dX4_makesRoom_57 : decode cX4_makesRoom 57 = .ok (.aload_n 0, 1) := by decide +kernel
theorem dX4_makesRoom_58 : decode cX4_makesRoom 58 = .ok (.getfield 46, 3) := by decide +kernel
theorem dX4_makesRoom_61 : decode cX4_makesRoom 61 = .ok (.iload_n 1, 1) := by decide +kernel
theorem dX4_makesRoom_62 : decode cX4_makesRoom 62 = .ok (.iaload, 1) := by decide +kernel
theorem dX4_makesRoom_63 : decode cX4_makesRoom 63 = .ok (.aload_n 0, 1) := by decide +kernel
theorem dX4_makesRoom_64 : decode cX4_makesRoom 64 = .ok (.iload_n 2, 1) := by decide +kernel
theorem dX4_makesRoom_65 : decode cX4_makesRoom 65 = .ok (.invokevirtual 145, 3) := by decide +kernel
theorem dX4_makesRoom_68 : decode cX4_makesRoom 68 = .ok (.if_icmp .le 48, 3) := by decide +kernel
theorem dX4_makesRoom_71 : decode cX4_makesRoom 71 = .ok (.aload_n 0, 1) := by decide +kernel
theorem dX4_makesRoom_72 : decode cX4_makesRoom 72 = .ok (.iload_n 2, 1) := by decide +kernel
theorem dX4_makesRoom_73 : decode cX4_makesRoom 73 = .ok (.invokevirtual 154, 3) := by decide +kernel
theorem dX4_makesRoom_76 : decode cX4_makesRoom 76 = .ok (.istore_n 3, 1) := by decide +kernel
theorem dX4_makesRoom_77 : decode cX4_makesRoom 77 = .ok (.iload_n 3, 1) := by decide +kernel
theorem dX4_makesRoom_78 : decode cX4_makesRoom 78 = .ok (.iconst (-1), 1) := by decide +kernel
theorem dX4_makesRoom_79 : decode cX4_makesRoom 79 = .ok (.if_icmp .ne 9, 3) := by decide +kernel
theorem dX4_makesRoom_82 : decode cX4_makesRoom 82 = .ok (.aload_n 0, 1) := by decide +kernel
theorem dX4_makesRoom_83 : decode cX4_makesRoom 83 = .ok (.invokevirtual 157, 3) := by decide +kernel
theorem dX4_makesRoom_86 : decode cX4_makesRoom 86 = .ok (.iconst 0, 1) := by decide +kernel
theorem dX4_makesRoom_87 : decode cX4_makesRoom 87 = .ok (.ireturn, 1) := by decide +kernel
theorem dX4_makesRoom_88 : decode cX4_makesRoom 88 = .ok (.aload_n 0, 1) := by decide +kernel
theorem dX4_makesRoom_89 : decode cX4_makesRoom 89 = .ok (.iload_n 3, 1) := by decide +kernel
theorem dX4_makesRoom_90 : decode cX4_makesRoom 90 = .ok (.invokevirtual 160, 3) := by decide +kernel
theorem dX4_makesRoom_93 : decode cX4_makesRoom 93 = .ok (.aload_n 0, 1) := by decide +kernel
theorem dX4_makesRoom_94 : decode cX4_makesRoom 94 = .ok (.getfield 85, 3) := by decide +kernel
theorem dX4_makesRoom_97 : decode cX4_makesRoom 97 = .ok (.aload_n 0, 1) := by decide +kernel
theorem dX4_makesRoom_98 : decode cX4_makesRoom 98 = .ok (.getfield 151, 3) := by decide +kernel
theorem dX4_makesRoom_101 : decode cX4_makesRoom 101 = .ok (.iload_n 3, 1) := by decide +kernel
theorem dX4_makesRoom_102 : decode cX4_makesRoom 102 = .ok (.iastore, 1) := by decide +kernel
theorem dX4_makesRoom_103 : decode cX4_makesRoom 103 = .ok (.aload_n 0, 1) := by decide +kernel
theorem dX4_makesRoom_104 : decode cX4_makesRoom 104 = .ok (.dup, 1) := by decide +kernel
theorem dX4_makesRoom_105 : decode cX4_makesRoom 105 = .ok (.getfield 151, 3) := by decide +kernel
theorem dX4_makesRoom_108 : decode cX4_makesRoom 108 = .ok (.iconst 1, 1) := by decide +kernel
theorem dX4_makesRoom_109 : decode cX4_makesRoom 109 = .ok (.iadd, 1) := by decide +kernel
theorem dX4_makesRoom_110 : decode cX4_makesRoom 110 = .ok (.putfield 151, 3) := by decide +kernel
theorem dX4_makesRoom_113 : decode cX4_makesRoom 113 = .ok (.goto (-56), 3) := by decide +kernel
theorem dX4_makesRoom_116 : decode cX4_makesRoom 116 = .ok (.iconst 1, 1) := by decide +kernel
theorem dX4_makesRoom_117 : decode cX4_makesRoom 117 = .ok (.ireturn, 1) := by decide +kernel
theorem dX4_restores_0 : decode cX4_restores 0 = .ok (.iconst 0, 1) := by decide +kernel
theorem dX4_restores_1 : decode cX4_restores 1 = .ok (.istore_n 1, 1) := by decide +kernel
theorem dX4_restores_2 : decode cX4_restores 2 = .ok (.iload_n 1, 1) := by decide +kernel
theorem dX4_restores_3 : decode cX4_restores 3 = .ok (.aload_n 0, 1) := by decide +kernel
theorem dX4_restores_4 : decode cX4_restores 4 = .ok (.getfield 151, 3) := by decide +kernel
theorem dX4_restores_7 : decode cX4_restores 7 = .ok (.if_icmp .ge 19, 3) := by decide +kernel
theorem dX4_restores_10 : decode cX4_restores 10 = .ok (.aload_n 0, 1) := by decide +kernel
theorem dX4_restores_11 : decode cX4_restores 11 = .ok (.aload_n 0, 1) := by decide +kernel
theorem dX4_restores_12 : decode cX4_restores 12 = .ok (.getfield 85, 3) := by decide +kernel
theorem dX4_restores_15 : decode cX4_restores 15 = .ok (.iload_n 1, 1) := by decide +kernel
theorem dX4_restores_16 : decode cX4_restores 16 = .ok (.iaload, 1) := by decide +kernel
theorem dX4_restores_17 : decode cX4_restores 17 = .ok (.invokevirtual 163, 3) := by decide +kernel
theorem dX4_restores_20 : decode cX4_restores 20 = .ok (.iinc 1 1, 3) := by decide +kernel
theorem dX4_restores_23 : decode cX4_restores 23 = .ok (.goto (-21), 3) := by decide +kernel
theorem dX4_restores_26 : decode cX4_restores 26 = .ok (.aload_n 0, 1) := by decide +kernel
theorem dX4_restores_27 : decode cX4_restores 27 = .ok (.iconst 0, 1) := by decide +kernel
theorem dX4_restores_28 : decode cX4_restores 28 = .ok (.putfield 151, 3) := by decide +kernel
theorem dX4_restores_31 : decode cX4_restores 31 = .ok (.return_, 1) := by decide +kernel
theorem dX4_servesOne_0 : decode cX4_servesOne 0 = .ok (.aload_n 0, 1) := by decide +kernel
theorem dX4_servesOne_1 : decode cX4_servesOne 1 = .ok (.invokevirtual 166, 3) := by decide +kernel
theorem dX4_servesOne_4 : decode cX4_servesOne 4 = .ok (.iconst 0, 1) := by decide +kernel
theorem dX4_servesOne_5 : decode cX4_servesOne 5 = .ok (.istore_n 1, 1) := by decide +kernel
theorem dX4_servesOne_6 : decode cX4_servesOne 6 = .ok (.iload_n 1, 1) := by decide +kernel
theorem dX4_servesOne_7 : decode cX4_servesOne 7 = .ok (.aload_n 0, 1) := by decide +kernel
theorem dX4_servesOne_8 : decode cX4_servesOne 8 = .ok (.getfield 125, 3) := by decide +kernel
theorem dX4_servesOne_11 : decode cX4_servesOne 11 = .ok (.if_icmp .ge 79, 3) := by decide +kernel
theorem dX4_servesOne_14 : decode cX4_servesOne 14 = .ok (.aload_n 0, 1) := by decide +kernel
theorem dX4_servesOne_15 : decode cX4_servesOne 15 = .ok (.aload_n 0, 1) := by decide +kernel
theorem dX4_servesOne_16 : decode cX4_servesOne 16 = .ok (.getfield 82, 3) := by decide +kernel
theorem dX4_servesOne_19 : decode cX4_servesOne 19 = .ok (.iload_n 1, 1) := by decide +kernel
theorem dX4_servesOne_20 : decode cX4_servesOne 20 = .ok (.iaload, 1) := by decide +kernel
theorem dX4_servesOne_21 : decode cX4_servesOne 21 = .ok (.invokevirtual 128, 3) := by decide +kernel
theorem dX4_servesOne_24 : decode cX4_servesOne 24 = .ok (.istore_n 2, 1) := by decide +kernel
theorem dX4_servesOne_25 : decode cX4_servesOne 25 = .ok (.aload_n 0, 1) := by decide +kernel
theorem dX4_servesOne_26 : decode cX4_servesOne 26 = .ok (.iconst 0, 1) := by decide +kernel
theorem dX4_servesOne_27 : decode cX4_servesOne 27 = .ok (.putfield 151, 3) := by decide +kernel
theorem dX4_servesOne_30 : decode cX4_servesOne 30 = .ok (.aload_n 0, 1) := by decide +kernel
theorem dX4_servesOne_31 : decode cX4_servesOne 31 = .ok (.iload_n 2, 1) := by decide +kernel
theorem dX4_servesOne_32 : decode cX4_servesOne 32 = .ok (.invokevirtual 169, 3) := by decide +kernel
theorem dX4_servesOne_35 : decode cX4_servesOne 35 = .ok (.ifCond .ne 11, 3) := by decide +kernel
theorem dX4_servesOne_38 : decode cX4_servesOne 38 = .ok (.aload_n 0, 1) := by decide +kernel
theorem dX4_servesOne_39 : decode cX4_servesOne 39 = .ok (.iload_n 2, 1) := by decide +kernel
theorem dX4_servesOne_40 : decode cX4_servesOne 40 = .ok (.invokevirtual 172, 3) := by decide +kernel
theorem dX4_servesOne_43 : decode cX4_servesOne 43 = .ok (.ifCond .eq 41, 3) := by decide +kernel
theorem dX4_servesOne_46 : decode cX4_servesOne 46 = .ok (.iconst 0, 1) := by decide +kernel
theorem dX4_servesOne_47 : decode cX4_servesOne 47 = .ok (.istore_n 3, 1) := by decide +kernel
theorem dX4_servesOne_48 : decode cX4_servesOne 48 = .ok (.iload_n 3, 1) := by decide +kernel
theorem dX4_servesOne_49 : decode cX4_servesOne 49 = .ok (.aload_n 0, 1) := by decide +kernel
theorem dX4_servesOne_50 : decode cX4_servesOne 50 = .ok (.getfield 151, 3) := by decide +kernel
theorem dX4_servesOne_53 : decode cX4_servesOne 53 = .ok (.if_icmp .ge 24, 3) := by decide +kernel
theorem dX4_servesOne_56 : decode cX4_servesOne 56 = .ok (.aload_n 0, 1) := by decide +kernel
theorem dX4_servesOne_57 : decode cX4_servesOne 57 = .ok (.getfield 58, 3) := by decide +kernel
theorem dX4_servesOne_60 : decode cX4_servesOne 60 = .ok (.aload_n 0, 1) := by decide +kernel
theorem dX4_servesOne_61 : decode cX4_servesOne 61 = .ok (.getfield 85, 3) := by decide +kernel
theorem dX4_servesOne_64 : decode cX4_servesOne 64 = .ok (.iload_n 3, 1) := by decide +kernel
theorem dX4_servesOne_65 : decode cX4_servesOne 65 = .ok (.iaload, 1) := by decide +kernel
theorem dX4_servesOne_66 : decode cX4_servesOne 66 = .ok (.dup2, 1) := by decide +kernel
theorem dX4_servesOne_67 : decode cX4_servesOne 67 = .ok (.iaload, 1) := by decide +kernel
theorem dX4_servesOne_68 : decode cX4_servesOne 68 = .ok (.iconst 1, 1) := by decide +kernel
theorem dX4_servesOne_69 : decode cX4_servesOne 69 = .ok (.iadd, 1) := by decide +kernel
theorem dX4_servesOne_70 : decode cX4_servesOne 70 = .ok (.iastore, 1) := by decide +kernel
theorem dX4_servesOne_71 : decode cX4_servesOne 71 = .ok (.iinc 3 1, 3) := by decide +kernel
theorem dX4_servesOne_74 : decode cX4_servesOne 74 = .ok (.goto (-26), 3) := by decide +kernel
theorem dX4_servesOne_77 : decode cX4_servesOne 77 = .ok (.aload_n 0, 1) := by decide +kernel
theorem dX4_servesOne_78 : decode cX4_servesOne 78 = .ok (.iload_n 2, 1) := by decide +kernel
theorem dX4_servesOne_79 : decode cX4_servesOne 79 = .ok (.invokevirtual 175, 3) := by decide +kernel
theorem dX4_servesOne_82 : decode cX4_servesOne 82 = .ok (.iconst 1, 1) := by decide +kernel
theorem dX4_servesOne_83 : decode cX4_servesOne 83 = .ok (.ireturn, 1) := by decide +kernel
theorem dX4_servesOne_84 : decode cX4_servesOne 84 = .ok (.iinc 1 1, 3) := by decide +kernel
theorem dX4_servesOne_87 : decode cX4_servesOne 87 = .ok (.goto (-81), 3) := by decide +kernel
theorem dX4_servesOne_90 : decode cX4_servesOne 90 = .ok (.iconst 0, 1) := by decide +kernel
theorem dX4_servesOne_91 : decode cX4_servesOne 91 = .ok (.ireturn, 1) := by decide +kernel
theorem dX4_serves_0 : decode cX4_serves 0 = .ok (.aload_n 0, 1) := by decide +kernel
theorem dX4_serves_1 : decode cX4_serves 1 = .ok (.invokevirtual 177, 3) := by decide +kernel
theorem dX4_serves_4 : decode cX4_serves 4 = .ok (.iconst 1, 1) := by decide +kernel
theorem dX4_serves_5 : decode cX4_serves 5 = .ok (.istore_n 1, 1) := by decide +kernel
theorem dX4_serves_6 : decode cX4_serves 6 = .ok (.iload_n 1, 1) := by decide +kernel
theorem dX4_serves_7 : decode cX4_serves 7 = .ok (.ifCond .eq 11, 3) := by decide +kernel
theorem dX4_serves_10 : decode cX4_serves 10 = .ok (.aload_n 0, 1) := by decide +kernel
theorem dX4_serves_11 : decode cX4_serves 11 = .ok (.invokevirtual 180, 3) := by decide +kernel
theorem dX4_serves_14 : decode cX4_serves 14 = .ok (.istore_n 1, 1) := by decide +kernel
theorem dX4_serves_15 : decode cX4_serves 15 = .ok (.goto (-9), 3) := by decide +kernel
theorem dX4_serves_18 : decode cX4_serves 18 = .ok (.return_, 1) := by decide +kernel
theorem dX4_addTeam_0 : decode cX4_addTeam 0 = .ok (.aload_n 0, 1) := by decide +kernel
theorem dX4_addTeam_1 : decode cX4_addTeam 1 = .ok (.iload_n 1, 1) := by decide +kernel
theorem dX4_addTeam_2 : decode cX4_addTeam 2 = .ok (.invokevirtual 99, 3) := by decide +kernel
theorem dX4_addTeam_5 : decode cX4_addTeam 5 = .ok (.ifCond .ne 7, 3) := by decide +kernel
theorem dX4_addTeam_8 : decode cX4_addTeam 8 = .ok (.iconst 1, 1) := by decide +kernel
theorem dX4_addTeam_9 : decode cX4_addTeam 9 = .ok (.goto 40, 3) := by decide +kernel
theorem dX4_addTeam_12 : decode cX4_addTeam 12 = .ok (.iload_n 2, 1) := by decide +kernel
theorem dX4_addTeam_13 : decode cX4_addTeam 13 = .ok (.iconst 1, 1) := by decide +kernel
theorem dX4_addTeam_14 : decode cX4_addTeam 14 = .ok (.bipush 9, 2) := by decide +kernel
theorem dX4_addTeam_16 : decode cX4_addTeam 16 = .ok (.invokestatic 91, 3) := by decide +kernel
theorem dX4_addTeam_19 : decode cX4_addTeam 19 = .ok (.ifCond .ne 7, 3) := by decide +kernel
theorem dX4_addTeam_22 : decode cX4_addTeam 22 = .ok (.iconst 2, 1) := by decide +kernel
theorem dX4_addTeam_23 : decode cX4_addTeam 23 = .ok (.goto 26, 3) := by decide +kernel
theorem dX4_addTeam_26 : decode cX4_addTeam 26 = .ok (.aload_n 0, 1) := by decide +kernel
theorem dX4_addTeam_27 : decode cX4_addTeam 27 = .ok (.getfield 16, 3) := by decide +kernel
theorem dX4_addTeam_30 : decode cX4_addTeam 30 = .ok (.bipush 10, 2) := by decide +kernel
theorem dX4_addTeam_32 : decode cX4_addTeam 32 = .ok (.if_icmp .eq 12, 3) := by decide +kernel
theorem dX4_addTeam_35 : decode cX4_addTeam 35 = .ok (.aload_n 0, 1) := by decide +kernel
theorem dX4_addTeam_36 : decode cX4_addTeam 36 = .ok (.getfield 33, 3) := by decide +kernel
theorem dX4_addTeam_39 : decode cX4_addTeam 39 = .ok (.iload_n 1, 1) := by decide +kernel
theorem dX4_addTeam_40 : decode cX4_addTeam 40 = .ok (.baload, 1) := by decide +kernel
theorem dX4_addTeam_41 : decode cX4_addTeam 41 = .ok (.ifCond .eq 7, 3) := by decide +kernel
theorem dX4_addTeam_44 : decode cX4_addTeam 44 = .ok (.iconst 3, 1) := by decide +kernel
theorem dX4_addTeam_45 : decode cX4_addTeam 45 = .ok (.goto 4, 3) := by decide +kernel
theorem dX4_addTeam_48 : decode cX4_addTeam 48 = .ok (.iconst 0, 1) := by decide +kernel
theorem dX4_addTeam_49 : decode cX4_addTeam 49 = .ok (.istore_n 3, 1) := by decide +kernel
theorem dX4_addTeam_50 : decode cX4_addTeam 50 = .ok (.aload_n 0, 1) := by decide +kernel
theorem dX4_addTeam_51 : decode cX4_addTeam 51 = .ok (.iload_n 3, 1) := by decide +kernel
theorem dX4_addTeam_52 : decode cX4_addTeam 52 = .ok (.invokevirtual 184, 3) := by decide +kernel
theorem dX4_addTeam_55 : decode cX4_addTeam 55 = .ok (.ifCond .ne 5, 3) := by decide +kernel
theorem dX4_addTeam_58 : decode cX4_addTeam 58 = .ok (.iconst 0, 1) := by decide +kernel
theorem dX4_addTeam_59 : decode cX4_addTeam 59 = .ok (.ireturn, 1) := by decide +kernel
theorem dX4_addTeam_60 : decode cX4_addTeam 60 = .ok (.aload_n 0, 1) := by decide +kernel
theorem dX4_addTeam_61 : decode cX4_addTeam 61 = .ok (.getfield 19, 3) := by decide +kernel
theorem dX4_addTeam_64 : decode cX4_addTeam 64 = .ok (.aload_n 0, 1) := by decide +kernel
theorem dX4_addTeam_65 : decode cX4_addTeam 65 = .ok (.getfield 16, 3) := by decide +kernel
theorem dX4_addTeam_68 : decode cX4_addTeam 68 = .ok (.iload_n 1, 1) := by decide +kernel
theorem dX4_addTeam_69 : decode cX4_addTeam 69 = .ok (.iastore, 1) := by decide +kernel
theorem dX4_addTeam_70 : decode cX4_addTeam 70 = .ok (.aload_n 0, 1) := by decide +kernel
theorem dX4_addTeam_71 : decode cX4_addTeam 71 = .ok (.getfield 23, 3) := by decide +kernel
theorem dX4_addTeam_74 : decode cX4_addTeam 74 = .ok (.aload_n 0, 1) := by decide +kernel
theorem dX4_addTeam_75 : decode cX4_addTeam 75 = .ok (.getfield 16, 3) := by decide +kernel
theorem dX4_addTeam_78 : decode cX4_addTeam 78 = .ok (.iload_n 2, 1) := by decide +kernel
theorem dX4_addTeam_79 : decode cX4_addTeam 79 = .ok (.iastore, 1) := by decide +kernel
theorem dX4_addTeam_80 : decode cX4_addTeam 80 = .ok (.aload_n 0, 1) := by decide +kernel
theorem dX4_addTeam_81 : decode cX4_addTeam 81 = .ok (.getfield 26, 3) := by decide +kernel
theorem dX4_addTeam_84 : decode cX4_addTeam 84 = .ok (.aload_n 0, 1) := by decide +kernel
theorem dX4_addTeam_85 : decode cX4_addTeam 85 = .ok (.getfield 16, 3) := by decide +kernel
theorem dX4_addTeam_88 : decode cX4_addTeam 88 = .ok (.sipush 500, 3) := by decide +kernel
theorem dX4_addTeam_91 : decode cX4_addTeam 91 = .ok (.iastore, 1) := by decide +kernel
theorem dX4_addTeam_92 : decode cX4_addTeam 92 = .ok (.aload_n 0, 1) := by decide +kernel
theorem dX4_addTeam_93 : decode cX4_addTeam 93 = .ok (.dup, 1) := by decide +kernel
theorem dX4_addTeam_94 : decode cX4_addTeam 94 = .ok (.getfield 16, 3) := by decide +kernel
theorem dX4_addTeam_97 : decode cX4_addTeam 97 = .ok (.iconst 1, 1) := by decide +kernel
theorem dX4_addTeam_98 : decode cX4_addTeam 98 = .ok (.iadd, 1) := by decide +kernel
theorem dX4_addTeam_99 : decode cX4_addTeam 99 = .ok (.putfield 16, 3) := by decide +kernel
theorem dX4_addTeam_102 : decode cX4_addTeam 102 = .ok (.aload_n 0, 1) := by decide +kernel
theorem dX4_addTeam_103 : decode cX4_addTeam 103 = .ok (.invokevirtual 187, 3) := by decide +kernel
theorem dX4_addTeam_106 : decode cX4_addTeam 106 = .ok (.aload_n 0, 1) := by decide +kernel
theorem dX4_addTeam_107 : decode cX4_addTeam 107 = .ok (.getfield 16, 3) := by decide +kernel
theorem dX4_addTeam_110 : decode cX4_addTeam 110 = .ok (.iconst 1, 1) := by decide +kernel
theorem dX4_addTeam_111 : decode cX4_addTeam 111 = .ok (.isub, 1) := by decide +kernel
theorem dX4_addTeam_112 : decode cX4_addTeam 112 = .ok (.ireturn, 1) := by decide +kernel
theorem dX4_setWeight_0 : decode cX4_setWeight 0 = .ok (.aload_n 0, 1) := by decide +kernel
theorem dX4_setWeight_1 : decode cX4_setWeight 1 = .ok (.aload_n 0, 1) := by decide +kernel
theorem dX4_setWeight_2 : decode cX4_setWeight 2 = .ok (.iload_n 1, 1) := by decide +kernel
theorem dX4_setWeight_3 : decode cX4_setWeight 3 = .ok (.invokevirtual 99, 3) := by decide +kernel
theorem dX4_setWeight_6 : decode cX4_setWeight 6 = .ok (.ifCond .ne 7, 3) := by decide +kernel
theorem dX4_setWeight_9 : decode cX4_setWeight 9 = .ok (.iconst 1, 1) := by decide +kernel
theorem dX4_setWeight_10 : decode cX4_setWeight 10 = .ok (.goto 26, 3) := by decide +kernel
theorem dX4_setWeight_13 : decode cX4_setWeight 13 = .ok (.iload_n 1, 1) := by decide +kernel
theorem dX4_setWeight_14 : decode cX4_setWeight 14 = .ok (.ifCond .ne 7, 3) := by decide +kernel
theorem dX4_setWeight_17 : decode cX4_setWeight 17 = .ok (.iconst 2, 1) := by decide +kernel
theorem dX4_setWeight_18 : decode cX4_setWeight 18 = .ok (.goto 18, 3) := by decide +kernel
theorem dX4_setWeight_21 : decode cX4_setWeight 21 = .ok (.iload_n 2, 1) := by decide +kernel
theorem dX4_setWeight_22 : decode cX4_setWeight 22 = .ok (.iconst 1, 1) := by decide +kernel
theorem dX4_setWeight_23 : decode cX4_setWeight 23 = .ok (.bipush 9, 2) := by decide +kernel
theorem dX4_setWeight_25 : decode cX4_setWeight 25 = .ok (.invokestatic 91, 3) := by decide +kernel
theorem dX4_setWeight_28 : decode cX4_setWeight 28 = .ok (.ifCond .ne 7, 3) := by decide +kernel
theorem dX4_setWeight_31 : decode cX4_setWeight 31 = .ok (.iconst 3, 1) := by decide +kernel
theorem dX4_setWeight_32 : decode cX4_setWeight 32 = .ok (.goto 4, 3) := by decide +kernel
theorem dX4_setWeight_35 : decode cX4_setWeight 35 = .ok (.iconst 0, 1) := by decide +kernel
theorem dX4_setWeight_36 : decode cX4_setWeight 36 = .ok (.invokevirtual 184, 3) := by decide +kernel
theorem dX4_setWeight_39 : decode cX4_setWeight 39 = .ok (.ifCond .ne 5, 3) := by decide +kernel
theorem dX4_setWeight_42 : decode cX4_setWeight 42 = .ok (.iconst 0, 1) := by decide +kernel
theorem dX4_setWeight_43 : decode cX4_setWeight 43 = .ok (.ireturn, 1) := by decide +kernel
theorem dX4_setWeight_44 : decode cX4_setWeight 44 = .ok (.aload_n 0, 1) := by decide +kernel
theorem dX4_setWeight_45 : decode cX4_setWeight 45 = .ok (.getfield 23, 3) := by decide +kernel
theorem dX4_setWeight_48 : decode cX4_setWeight 48 = .ok (.iload_n 1, 1) := by decide +kernel
theorem dX4_setWeight_49 : decode cX4_setWeight 49 = .ok (.iaload, 1) := by decide +kernel
theorem dX4_setWeight_50 : decode cX4_setWeight 50 = .ok (.istore_n 3, 1) := by decide +kernel
theorem dX4_setWeight_51 : decode cX4_setWeight 51 = .ok (.aload_n 0, 1) := by decide +kernel
theorem dX4_setWeight_52 : decode cX4_setWeight 52 = .ok (.getfield 23, 3) := by decide +kernel
theorem dX4_setWeight_55 : decode cX4_setWeight 55 = .ok (.iload_n 1, 1) := by decide +kernel
theorem dX4_setWeight_56 : decode cX4_setWeight 56 = .ok (.iload_n 2, 1) := by decide +kernel
theorem dX4_setWeight_57 : decode cX4_setWeight 57 = .ok (.iastore, 1) := by decide +kernel
theorem dX4_setWeight_58 : decode cX4_setWeight 58 = .ok (.aload_n 0, 1) := by decide +kernel
theorem dX4_setWeight_59 : decode cX4_setWeight 59 = .ok (.invokevirtual 187, 3) := by decide +kernel
theorem dX4_setWeight_62 : decode cX4_setWeight 62 = .ok (.iload_n 3, 1) := by decide +kernel
theorem dX4_setWeight_63 : decode cX4_setWeight 63 = .ok (.ireturn, 1) := by decide +kernel
theorem dX4_setLimit_0 : decode cX4_setLimit 0 = .ok (.aload_n 0, 1) := by decide +kernel
theorem dX4_setLimit_1 : decode cX4_setLimit 1 = .ok (.aload_n 0, 1) := by decide +kernel
theorem dX4_setLimit_2 : decode cX4_setLimit 2 = .ok (.iload_n 1, 1) := by decide +kernel
theorem dX4_setLimit_3 : decode cX4_setLimit 3 = .ok (.invokevirtual 99, 3) := by decide +kernel
theorem dX4_setLimit_6 : decode cX4_setLimit 6 = .ok (.ifCond .ne 7, 3) := by decide +kernel
theorem dX4_setLimit_9 : decode cX4_setLimit 9 = .ok (.iconst 1, 1) := by decide +kernel
theorem dX4_setLimit_10 : decode cX4_setLimit 10 = .ok (.goto 27, 3) := by decide +kernel
theorem dX4_setLimit_13 : decode cX4_setLimit 13 = .ok (.iload_n 1, 1) := by decide +kernel
theorem dX4_setLimit_14 : decode cX4_setLimit 14 = .ok (.ifCond .ne 7, 3) := by decide +kernel
theorem dX4_setLimit_17 : decode cX4_setLimit 17 = .ok (.iconst 2, 1) := by decide +kernel
theorem dX4_setLimit_18 : decode cX4_setLimit 18 = .ok (.goto 19, 3) := by decide +kernel
theorem dX4_setLimit_21 : decode cX4_setLimit 21 = .ok (.iload_n 2, 1) := by decide +kernel
theorem dX4_setLimit_22 : decode cX4_setLimit 22 = .ok (.iconst 0, 1) := by decide +kernel
theorem dX4_setLimit_23 : decode cX4_setLimit 23 = .ok (.sipush 500, 3) := by decide +kernel
theorem dX4_setLimit_26 : decode cX4_setLimit 26 = .ok (.invokestatic 91, 3) := by decide +kernel
theorem dX4_setLimit_29 : decode cX4_setLimit 29 = .ok (.ifCond .ne 7, 3) := by decide +kernel
theorem dX4_setLimit_32 : decode cX4_setLimit 32 = .ok (.iconst 3, 1) := by decide +kernel
theorem dX4_setLimit_33 : decode cX4_setLimit 33 = .ok (.goto 4, 3) := by decide +kernel
theorem dX4_setLimit_36 : decode cX4_setLimit 36 = .ok (.iconst 0, 1) := by decide +kernel
theorem dX4_setLimit_37 : decode cX4_setLimit 37 = .ok (.invokevirtual 184, 3) := by decide +kernel
theorem dX4_setLimit_40 : decode cX4_setLimit 40 = .ok (.ifCond .ne 5, 3) := by decide +kernel
theorem dX4_setLimit_43 : decode cX4_setLimit 43 = .ok (.iconst 0, 1) := by decide +kernel
theorem dX4_setLimit_44 : decode cX4_setLimit 44 = .ok (.ireturn, 1) := by decide +kernel
theorem dX4_setLimit_45 : decode cX4_setLimit 45 = .ok (.aload_n 0, 1) := by decide +kernel
theorem dX4_setLimit_46 : decode cX4_setLimit 46 = .ok (.getfield 26, 3) := by decide +kernel
theorem dX4_setLimit_49 : decode cX4_setLimit 49 = .ok (.iload_n 1, 1) := by decide +kernel
theorem dX4_setLimit_50 : decode cX4_setLimit 50 = .ok (.iaload, 1) := by decide +kernel
theorem dX4_setLimit_51 : decode cX4_setLimit 51 = .ok (.istore_n 3, 1) := by decide +kernel
theorem dX4_setLimit_52 : decode cX4_setLimit 52 = .ok (.aload_n 0, 1) := by decide +kernel
theorem dX4_setLimit_53 : decode cX4_setLimit 53 = .ok (.getfield 26, 3) := by decide +kernel
theorem dX4_setLimit_56 : decode cX4_setLimit 56 = .ok (.iload_n 1, 1) := by decide +kernel
theorem dX4_setLimit_57 : decode cX4_setLimit 57 = .ok (.iload_n 2, 1) := by decide +kernel
theorem dX4_setLimit_58 : decode cX4_setLimit 58 = .ok (.iastore, 1) := by decide +kernel
theorem dX4_setLimit_59 : decode cX4_setLimit 59 = .ok (.aload_n 0, 1) := by decide +kernel
theorem dX4_setLimit_60 : decode cX4_setLimit 60 = .ok (.invokevirtual 187, 3) := by decide +kernel
theorem dX4_setLimit_63 : decode cX4_setLimit 63 = .ok (.iload_n 3, 1) := by decide +kernel
theorem dX4_setLimit_64 : decode cX4_setLimit 64 = .ok (.ireturn, 1) := by decide +kernel
theorem dX4_setCapacity_0 : decode cX4_setCapacity 0 = .ok (.aload_n 0, 1) := by decide +kernel
theorem dX4_setCapacity_1 : decode cX4_setCapacity 1 = .ok (.iload_n 1, 1) := by decide +kernel
theorem dX4_setCapacity_2 : decode cX4_setCapacity 2 = .ok (.iconst 0, 1) := by decide +kernel
theorem dX4_setCapacity_3 : decode cX4_setCapacity 3 = .ok (.sipush 200, 3) := by decide +kernel
theorem dX4_setCapacity_6 : decode cX4_setCapacity 6 = .ok (.invokestatic 91, 3) := by decide +kernel
theorem dX4_setCapacity_9 : decode cX4_setCapacity 9 = .ok (.ifCond .ne 7, 3) := by decide +kernel
theorem dX4_setCapacity_12 : decode cX4_setCapacity 12 = .ok (.iconst 1, 1) := by decide +kernel
theorem dX4_setCapacity_13 : decode cX4_setCapacity 13 = .ok (.goto 18, 3) := by decide +kernel
theorem dX4_setCapacity_16 : decode cX4_setCapacity 16 = .ok (.iload_n 1, 1) := by decide +kernel
theorem dX4_setCapacity_17 : decode cX4_setCapacity 17 = .ok (.aload_n 0, 1) := by decide +kernel
theorem dX4_setCapacity_18 : decode cX4_setCapacity 18 = .ok (.getfield 37, 3) := by decide +kernel
theorem dX4_setCapacity_21 : decode cX4_setCapacity 21 = .ok (.iconst 0, 1) := by decide +kernel
theorem dX4_setCapacity_22 : decode cX4_setCapacity 22 = .ok (.iaload, 1) := by decide +kernel
theorem dX4_setCapacity_23 : decode cX4_setCapacity 23 = .ok (.if_icmp .ge 7, 3) := by decide +kernel
theorem dX4_setCapacity_26 : decode cX4_setCapacity 26 = .ok (.iconst 2, 1) := by decide +kernel
theorem dX4_setCapacity_27 : decode cX4_setCapacity 27 = .ok (.goto 4, 3) := by decide +kernel
theorem dX4_setCapacity_30 : decode cX4_setCapacity 30 = .ok (.iconst 0, 1) := by decide +kernel
theorem dX4_setCapacity_31 : decode cX4_setCapacity 31 = .ok (.invokevirtual 184, 3) := by decide +kernel
theorem dX4_setCapacity_34 : decode cX4_setCapacity 34 = .ok (.ifCond .ne 5, 3) := by decide +kernel
theorem dX4_setCapacity_37 : decode cX4_setCapacity 37 = .ok (.iconst 0, 1) := by decide +kernel
theorem dX4_setCapacity_38 : decode cX4_setCapacity 38 = .ok (.ireturn, 1) := by decide +kernel
theorem dX4_setCapacity_39 : decode cX4_setCapacity 39 = .ok (.aload_n 0, 1) := by decide +kernel
theorem dX4_setCapacity_40 : decode cX4_setCapacity 40 = .ok (.getfield 7, 3) := by decide +kernel
theorem dX4_setCapacity_43 : decode cX4_setCapacity 43 = .ok (.istore_n 2, 1) := by decide +kernel
theorem dX4_setCapacity_44 : decode cX4_setCapacity 44 = .ok (.aload_n 0, 1) := by decide +kernel
theorem dX4_setCapacity_45 : decode cX4_setCapacity 45 = .ok (.iload_n 1, 1) := by decide +kernel
theorem dX4_setCapacity_46 : decode cX4_setCapacity 46 = .ok (.putfield 7, 3) := by decide +kernel
theorem dX4_setCapacity_49 : decode cX4_setCapacity 49 = .ok (.aload_n 0, 1) := by decide +kernel
theorem dX4_setCapacity_50 : decode cX4_setCapacity 50 = .ok (.invokevirtual 187, 3) := by decide +kernel
theorem dX4_setCapacity_53 : decode cX4_setCapacity 53 = .ok (.iload_n 2, 1) := by decide +kernel
theorem dX4_setCapacity_54 : decode cX4_setCapacity 54 = .ok (.ireturn, 1) := by decide +kernel
theorem dX4_setHalfTime_0 : decode cX4_setHalfTime 0 = .ok (.aload_n 0, 1) := by decide +kernel
theorem dX4_setHalfTime_1 : decode cX4_setHalfTime 1 = .ok (.iload_n 1, 1) := by decide +kernel
theorem dX4_setHalfTime_2 : decode cX4_setHalfTime 2 = .ok (.iconst 1, 1) := by decide +kernel
theorem dX4_setHalfTime_3 : decode cX4_setHalfTime 3 = .ok (.bipush 100, 2) := by decide +kernel
theorem dX4_setHalfTime_5 : decode cX4_setHalfTime 5 = .ok (.invokestatic 91, 3) := by decide +kernel
theorem dX4_setHalfTime_8 : decode cX4_setHalfTime 8 = .ok (.ifCond .ne 7, 3) := by decide +kernel
theorem dX4_setHalfTime_11 : decode cX4_setHalfTime 11 = .ok (.iconst 1, 1) := by decide +kernel
theorem dX4_setHalfTime_12 : decode cX4_setHalfTime 12 = .ok (.goto 4, 3) := by decide +kernel
theorem dX4_setHalfTime_15 : decode cX4_setHalfTime 15 = .ok (.iconst 0, 1) := by decide +kernel
theorem dX4_setHalfTime_16 : decode cX4_setHalfTime 16 = .ok (.invokevirtual 184, 3) := by decide +kernel
theorem dX4_setHalfTime_19 : decode cX4_setHalfTime 19 = .ok (.ifCond .ne 5, 3) := by decide +kernel
theorem dX4_setHalfTime_22 : decode cX4_setHalfTime 22 = .ok (.iconst 0, 1) := by decide +kernel
theorem dX4_setHalfTime_23 : decode cX4_setHalfTime 23 = .ok (.ireturn, 1) := by decide +kernel
theorem dX4_setHalfTime_24 : decode cX4_setHalfTime 24 = .ok (.aload_n 0, 1) := by decide +kernel
theorem dX4_setHalfTime_25 : decode cX4_setHalfTime 25 = .ok (.getfield 13, 3) := by decide +kernel
theorem dX4_setHalfTime_28 : decode cX4_setHalfTime 28 = .ok (.istore_n 2, 1) := by decide +kernel
theorem dX4_setHalfTime_29 : decode cX4_setHalfTime 29 = .ok (.aload_n 0, 1) := by decide +kernel
theorem dX4_setHalfTime_30 : decode cX4_setHalfTime 30 = .ok (.iload_n 1, 1) := by decide +kernel
theorem dX4_setHalfTime_31 : decode cX4_setHalfTime 31 = .ok (.putfield 13, 3) := by decide +kernel
theorem dX4_setHalfTime_34 : decode cX4_setHalfTime 34 = .ok (.iload_n 2, 1) := by decide +kernel
theorem dX4_setHalfTime_35 : decode cX4_setHalfTime 35 = .ok (.ireturn, 1) := by decide +kernel
theorem dX4_teams_0 : decode cX4_teams 0 = .ok (.aload_n 0, 1) := by decide +kernel
theorem dX4_teams_1 : decode cX4_teams 1 = .ok (.iconst 0, 1) := by decide +kernel
theorem dX4_teams_2 : decode cX4_teams 2 = .ok (.putfield 88, 3) := by decide +kernel
theorem dX4_teams_5 : decode cX4_teams 5 = .ok (.aload_n 0, 1) := by decide +kernel
theorem dX4_teams_6 : decode cX4_teams 6 = .ok (.getfield 16, 3) := by decide +kernel
theorem dX4_teams_9 : decode cX4_teams 9 = .ok (.ireturn, 1) := by decide +kernel
theorem dX4_parentOf_0 : decode cX4_parentOf 0 = .ok (.aload_n 0, 1) := by decide +kernel
theorem dX4_parentOf_1 : decode cX4_parentOf 1 = .ok (.aload_n 0, 1) := by decide +kernel
theorem dX4_parentOf_2 : decode cX4_parentOf 2 = .ok (.iload_n 1, 1) := by decide +kernel
theorem dX4_parentOf_3 : decode cX4_parentOf 3 = .ok (.invokevirtual 99, 3) := by decide +kernel
theorem dX4_parentOf_6 : decode cX4_parentOf 6 = .ok (.ifCond .ne 7, 3) := by decide +kernel
theorem dX4_parentOf_9 : decode cX4_parentOf 9 = .ok (.iconst 1, 1) := by decide +kernel
theorem dX4_parentOf_10 : decode cX4_parentOf 10 = .ok (.goto 12, 3) := by decide +kernel
theorem dX4_parentOf_13 : decode cX4_parentOf 13 = .ok (.iload_n 1, 1) := by decide +kernel
theorem dX4_parentOf_14 : decode cX4_parentOf 14 = .ok (.ifCond .ne 7, 3) := by decide +kernel
theorem dX4_parentOf_17 : decode cX4_parentOf 17 = .ok (.iconst 2, 1) := by decide +kernel
theorem dX4_parentOf_18 : decode cX4_parentOf 18 = .ok (.goto 4, 3) := by decide +kernel
theorem dX4_parentOf_21 : decode cX4_parentOf 21 = .ok (.iconst 0, 1) := by decide +kernel
theorem dX4_parentOf_22 : decode cX4_parentOf 22 = .ok (.invokevirtual 184, 3) := by decide +kernel
theorem dX4_parentOf_25 : decode cX4_parentOf 25 = .ok (.ifCond .eq 12, 3) := by decide +kernel
theorem dX4_parentOf_28 : decode cX4_parentOf 28 = .ok (.aload_n 0, 1) := by decide +kernel
theorem dX4_parentOf_29 : decode cX4_parentOf 29 = .ok (.getfield 19, 3) := by decide +kernel
theorem dX4_parentOf_32 : decode cX4_parentOf 32 = .ok (.iload_n 1, 1) := by decide +kernel
theorem dX4_parentOf_33 : decode cX4_parentOf 33 = .ok (.iaload, 1) := by decide +kernel
theorem dX4_parentOf_34 : decode cX4_parentOf 34 = .ok (.goto 4, 3) := by decide +kernel
theorem dX4_parentOf_37 : decode cX4_parentOf 37 = .ok (.iconst 0, 1) := by decide +kernel
theorem dX4_parentOf_38 : decode cX4_parentOf 38 = .ok (.ireturn, 1) := by decide +kernel
theorem dX4_children_0 : decode cX4_children 0 = .ok (.aload_n 0, 1) := by decide +kernel
theorem dX4_children_1 : decode cX4_children 1 = .ok (.aload_n 0, 1) := by decide +kernel
theorem dX4_children_2 : decode cX4_children 2 = .ok (.iload_n 1, 1) := by decide +kernel
theorem dX4_children_3 : decode cX4_children 3 = .ok (.invokevirtual 99, 3) := by decide +kernel
theorem dX4_children_6 : decode cX4_children 6 = .ok (.ifCond .eq 7, 3) := by decide +kernel
theorem dX4_children_9 : decode cX4_children 9 = .ok (.iconst 0, 1) := by decide +kernel
theorem dX4_children_10 : decode cX4_children 10 = .ok (.goto 4, 3) := by decide +kernel
theorem dX4_children_13 : decode cX4_children 13 = .ok (.iconst 1, 1) := by decide +kernel
theorem dX4_children_14 : decode cX4_children 14 = .ok (.invokevirtual 184, 3) := by decide +kernel
theorem dX4_children_17 : decode cX4_children 17 = .ok (.ifCond .eq 11, 3) := by decide +kernel
theorem dX4_children_20 : decode cX4_children 20 = .ok (.aload_n 0, 1) := by decide +kernel
theorem dX4_children_21 : decode cX4_children 21 = .ok (.iload_n 1, 1) := by decide +kernel
theorem dX4_children_22 : decode cX4_children 22 = .ok (.invokevirtual 95, 3) := by decide +kernel
theorem dX4_children_25 : decode cX4_children 25 = .ok (.goto 4, 3) := by decide +kernel
theorem dX4_children_28 : decode cX4_children 28 = .ok (.iconst 0, 1) := by decide +kernel
theorem dX4_children_29 : decode cX4_children 29 = .ok (.ireturn, 1) := by decide +kernel
theorem dX4_submit_0 : decode cX4_submit 0 = .ok (.aload_n 0, 1) := by decide +kernel
theorem dX4_submit_1 : decode cX4_submit 1 = .ok (.iload_n 1, 1) := by decide +kernel
theorem dX4_submit_2 : decode cX4_submit 2 = .ok (.invokevirtual 99, 3) := by decide +kernel
theorem dX4_submit_5 : decode cX4_submit 5 = .ok (.ifCond .ne 7, 3) := by decide +kernel
theorem dX4_submit_8 : decode cX4_submit 8 = .ok (.iconst 1, 1) := by decide +kernel
theorem dX4_submit_9 : decode cX4_submit 9 = .ok (.goto 53, 3) := by decide +kernel
theorem dX4_submit_12 : decode cX4_submit 12 = .ok (.iload_n 2, 1) := by decide +kernel
theorem dX4_submit_13 : decode cX4_submit 13 = .ok (.iconst 1, 1) := by decide +kernel
theorem dX4_submit_14 : decode cX4_submit 14 = .ok (.bipush 60, 2) := by decide +kernel
theorem dX4_submit_16 : decode cX4_submit 16 = .ok (.invokestatic 91, 3) := by decide +kernel
theorem dX4_submit_19 : decode cX4_submit 19 = .ok (.ifCond .eq 13, 3) := by decide +kernel
theorem dX4_submit_22 : decode cX4_submit 22 = .ok (.iload_n 3, 1) := by decide +kernel
theorem dX4_submit_23 : decode cX4_submit 23 = .ok (.iconst 1, 1) := by decide +kernel
theorem dX4_submit_24 : decode cX4_submit 24 = .ok (.bipush 50, 2) := by decide +kernel
theorem dX4_submit_26 : decode cX4_submit 26 = .ok (.invokestatic 91, 3) := by decide +kernel
theorem dX4_submit_29 : decode cX4_submit 29 = .ok (.ifCond .ne 7, 3) := by decide +kernel
theorem dX4_submit_32 : decode cX4_submit 32 = .ok (.iconst 2, 1) := by decide +kernel
theorem dX4_submit_33 : decode cX4_submit 33 = .ok (.goto 29, 3) := by decide +kernel
theorem dX4_submit_36 : decode cX4_submit 36 = .ok (.aload_n 0, 1) := by decide +kernel
theorem dX4_submit_37 : decode cX4_submit 37 = .ok (.iload_n 1, 1) := by decide +kernel
theorem dX4_submit_38 : decode cX4_submit 38 = .ok (.invokevirtual 103, 3) := by decide +kernel
theorem dX4_submit_41 : decode cX4_submit 41 = .ok (.ifCond .ne 7, 3) := by decide +kernel
theorem dX4_submit_44 : decode cX4_submit 44 = .ok (.iconst 3, 1) := by decide +kernel
theorem dX4_submit_45 : decode cX4_submit 45 = .ok (.goto 17, 3) := by decide +kernel
theorem dX4_submit_48 : decode cX4_submit 48 = .ok (.aload_n 0, 1) := by decide +kernel
theorem dX4_submit_49 : decode cX4_submit 49 = .ok (.getfield 190, 3) := by decide +kernel
theorem dX4_submit_52 : decode cX4_submit 52 = .ok (.bipush 40, 2) := by decide +kernel
theorem dX4_submit_54 : decode cX4_submit 54 = .ok (.if_icmp .ne 7, 3) := by decide +kernel
theorem dX4_submit_57 : decode cX4_submit 57 = .ok (.iconst 4, 1) := by decide +kernel
theorem dX4_submit_58 : decode cX4_submit 58 = .ok (.goto 4, 3) := by decide +kernel
theorem dX4_submit_61 : decode cX4_submit 61 = .ok (.iconst 0, 1) := by decide +kernel
theorem dX4_submit_62 : decode cX4_submit 62 = .ok (.istore 4, 2) := by decide +kernel
theorem dX4_submit_64 : decode cX4_submit 64 = .ok (.aload_n 0, 1) := by decide +kernel
theorem dX4_submit_65 : decode cX4_submit 65 = .ok (.iload 4, 2) := by decide +kernel
theorem dX4_submit_67 : decode cX4_submit 67 = .ok (.invokevirtual 184, 3) := by decide +kernel
theorem dX4_submit_70 : decode cX4_submit 70 = .ok (.ifCond .ne 5, 3) := by decide +kernel
theorem dX4_submit_73 : decode cX4_submit 73 = .ok (.iconst 0, 1) := by decide +kernel
theorem dX4_submit_74 : decode cX4_submit 74 = .ok (.ireturn, 1) := by decide +kernel
theorem dX4_submit_75 : decode cX4_submit 75 = .ok (.aload_n 0, 1) := by decide +kernel
theorem dX4_submit_76 : decode cX4_submit 76 = .ok (.getfield 122, 3) := by decide +kernel
theorem dX4_submit_79 : decode cX4_submit 79 = .ok (.istore 5, 2) := by decide +kernel
theorem dX4_submit_81 : decode cX4_submit 81 = .ok (.aload_n 0, 1) := by decide +kernel
theorem dX4_submit_82 : decode cX4_submit 82 = .ok (.getfield 43, 3) := by decide +kernel
theorem dX4_submit_85 : decode cX4_submit 85 = .ok (.iload 5, 2) := by decide +kernel
theorem dX4_submit_87 : decode cX4_submit 87 = .ok (.iload_n 1, 1) := by decide +kernel
theorem dX4_submit_88 : decode cX4_submit 88 = .ok (.iastore, 1) := by decide +kernel
theorem dX4_submit_89 : decode cX4_submit 89 = .ok (.aload_n 0, 1) := by decide +kernel
theorem dX4_submit_90 : decode cX4_submit 90 = .ok (.getfield 46, 3) := by decide +kernel
theorem dX4_submit_93 : decode cX4_submit 93 = .ok (.iload 5, 2) := by decide +kernel
theorem dX4_submit_95 : decode cX4_submit 95 = .ok (.iload_n 2, 1) := by decide +kernel
theorem dX4_submit_96 : decode cX4_submit 96 = .ok (.iastore, 1) := by decide +kernel
theorem dX4_submit_97 : decode cX4_submit 97 = .ok (.aload_n 0, 1) := by decide +kernel
theorem dX4_submit_98 : decode cX4_submit 98 = .ok (.getfield 49, 3) := by decide +kernel
theorem dX4_submit_101 : decode cX4_submit 101 = .ok (.iload 5, 2) := by decide +kernel
theorem dX4_submit_103 : decode cX4_submit 103 = .ok (.iload_n 3, 1) := by decide +kernel
theorem dX4_submit_104 : decode cX4_submit 104 = .ok (.iastore, 1) := by decide +kernel
theorem dX4_submit_105 : decode cX4_submit 105 = .ok (.aload_n 0, 1) := by decide +kernel
theorem dX4_submit_106 : decode cX4_submit 106 = .ok (.getfield 55, 3) := by decide +kernel
theorem dX4_submit_109 : decode cX4_submit 109 = .ok (.iload 5, 2) := by decide +kernel
theorem dX4_submit_111 : decode cX4_submit 111 = .ok (.iconst 0, 1) := by decide +kernel
theorem dX4_submit_112 : decode cX4_submit 112 = .ok (.iastore, 1) := by decide +kernel
theorem dX4_submit_113 : decode cX4_submit 113 = .ok (.aload_n 0, 1) := by decide +kernel
theorem dX4_submit_114 : decode cX4_submit 114 = .ok (.getfield 40, 3) := by decide +kernel
theorem dX4_submit_117 : decode cX4_submit 117 = .ok (.iload_n 1, 1) := by decide +kernel
theorem dX4_submit_118 : decode cX4_submit 118 = .ok (.dup2, 1) := by decide +kernel
theorem dX4_submit_119 : decode cX4_submit 119 = .ok (.iaload, 1) := by decide +kernel
theorem dX4_submit_120 : decode cX4_submit 120 = .ok (.iload_n 2, 1) := by decide +kernel
theorem dX4_submit_121 : decode cX4_submit 121 = .ok (.iadd, 1) := by decide +kernel
theorem dX4_submit_122 : decode cX4_submit 122 = .ok (.iastore, 1) := by decide +kernel
theorem dX4_submit_123 : decode cX4_submit 123 = .ok (.aload_n 0, 1) := by decide +kernel
theorem dX4_submit_124 : decode cX4_submit 124 = .ok (.getfield 33, 3) := by decide +kernel
theorem dX4_submit_127 : decode cX4_submit 127 = .ok (.iload_n 1, 1) := by decide +kernel
theorem dX4_submit_128 : decode cX4_submit 128 = .ok (.iconst 1, 1) := by decide +kernel
theorem dX4_submit_129 : decode cX4_submit 129 = .ok (.bastore, 1) := by decide +kernel
theorem dX4_submit_130 : decode cX4_submit 130 = .ok (.aload_n 0, 1) := by decide +kernel
theorem dX4_submit_131 : decode cX4_submit 131 = .ok (.dup, 1) := by decide +kernel
theorem dX4_submit_132 : decode cX4_submit 132 = .ok (.getfield 122, 3) := by decide +kernel
theorem dX4_submit_135 : decode cX4_submit 135 = .ok (.iconst 1, 1) := by decide +kernel
theorem dX4_submit_136 : decode cX4_submit 136 = .ok (.iadd, 1) := by decide +kernel
theorem dX4_submit_137 : decode cX4_submit 137 = .ok (.putfield 122, 3) := by decide +kernel
theorem dX4_submit_140 : decode cX4_submit 140 = .ok (.aload_n 0, 1) := by decide +kernel
theorem dX4_submit_141 : decode cX4_submit 141 = .ok (.dup, 1) := by decide +kernel
theorem dX4_submit_142 : decode cX4_submit 142 = .ok (.getfield 190, 3) := by decide +kernel
theorem dX4_submit_145 : decode cX4_submit 145 = .ok (.iconst 1, 1) := by decide +kernel
theorem dX4_submit_146 : decode cX4_submit 146 = .ok (.iadd, 1) := by decide +kernel
theorem dX4_submit_147 : decode cX4_submit 147 = .ok (.putfield 190, 3) := by decide +kernel
theorem dX4_submit_150 : decode cX4_submit 150 = .ok (.aload_n 0, 1) := by decide +kernel
theorem dX4_submit_151 : decode cX4_submit 151 = .ok (.invokevirtual 187, 3) := by decide +kernel
theorem dX4_submit_154 : decode cX4_submit 154 = .ok (.iload 5, 2) := by decide +kernel
theorem dX4_submit_156 : decode cX4_submit 156 = .ok (.ireturn, 1) := by decide +kernel
theorem dX4_isJob_0 : decode cX4_isJob 0 = .ok (.iload_n 1, 1) := by decide +kernel
theorem dX4_isJob_1 : decode cX4_isJob 1 = .ok (.iconst 0, 1) := by decide +kernel
theorem dX4_isJob_2 : decode cX4_isJob 2 = .ok (.aload_n 0, 1) := by decide +kernel
theorem dX4_isJob_3 : decode cX4_isJob 3 = .ok (.getfield 122, 3) := by decide +kernel
theorem dX4_isJob_6 : decode cX4_isJob 6 = .ok (.iconst 1, 1) := by decide +kernel
theorem dX4_isJob_7 : decode cX4_isJob 7 = .ok (.isub, 1) := by decide +kernel
theorem dX4_isJob_8 : decode cX4_isJob 8 = .ok (.invokestatic 91, 3) := by decide +kernel
theorem dX4_isJob_11 : decode cX4_isJob 11 = .ok (.ireturn, 1) := by decide +kernel
theorem dX4_liveFault_0 : decode cX4_liveFault 0 = .ok (.aload_n 0, 1) := by decide +kernel
theorem dX4_liveFault_1 : decode cX4_liveFault 1 = .ok (.iload_n 1, 1) := by decide +kernel
theorem dX4_liveFault_2 : decode cX4_liveFault 2 = .ok (.invokevirtual 193, 3) := by decide +kernel
theorem dX4_liveFault_5 : decode cX4_liveFault 5 = .ok (.ifCond .ne 7, 3) := by decide +kernel
theorem dX4_liveFault_8 : decode cX4_liveFault 8 = .ok (.iconst 1, 1) := by decide +kernel
theorem dX4_liveFault_9 : decode cX4_liveFault 9 = .ok (.goto 27, 3) := by decide +kernel
theorem dX4_liveFault_12 : decode cX4_liveFault 12 = .ok (.aload_n 0, 1) := by decide +kernel
theorem dX4_liveFault_13 : decode cX4_liveFault 13 = .ok (.getfield 55, 3) := by decide +kernel
theorem dX4_liveFault_16 : decode cX4_liveFault 16 = .ok (.iload_n 1, 1) := by decide +kernel
theorem dX4_liveFault_17 : decode cX4_liveFault 17 = .ok (.iaload, 1) := by decide +kernel
theorem dX4_liveFault_18 : decode cX4_liveFault 18 = .ok (.ifCond .eq 17, 3) := by decide +kernel
theorem dX4_liveFault_21 : decode cX4_liveFault 21 = .ok (.aload_n 0, 1) := by decide +kernel
theorem dX4_liveFault_22 : decode cX4_liveFault 22 = .ok (.getfield 55, 3) := by decide +kernel
theorem dX4_liveFault_25 : decode cX4_liveFault 25 = .ok (.iload_n 1, 1) := by decide +kernel
theorem dX4_liveFault_26 : decode cX4_liveFault 26 = .ok (.iaload, 1) := by decide +kernel
theorem dX4_liveFault_27 : decode cX4_liveFault 27 = .ok (.iconst 1, 1) := by decide +kernel
theorem dX4_liveFault_28 : decode cX4_liveFault 28 = .ok (.if_icmp .eq 7, 3) := by decide +kernel
theorem dX4_liveFault_31 : decode cX4_liveFault 31 = .ok (.iconst 2, 1) := by decide +kernel
theorem dX4_liveFault_32 : decode cX4_liveFault 32 = .ok (.goto 4, 3) := by decide +kernel
theorem dX4_liveFault_35 : decode cX4_liveFault 35 = .ok (.iconst 0, 1) := by decide +kernel
theorem dX4_liveFault_36 : decode cX4_liveFault 36 = .ok (.ireturn, 1) := by decide +kernel
theorem dX4_leaves_0 : decode cX4_leaves 0 = .ok (.aload_n 0, 1) := by decide +kernel
theorem dX4_leaves_1 : decode cX4_leaves 1 = .ok (.getfield 55, 3) := by decide +kernel
theorem dX4_leaves_4 : decode cX4_leaves 4 = .ok (.iload_n 1, 1) := by decide +kernel
theorem dX4_leaves_5 : decode cX4_leaves 5 = .ok (.iaload, 1) := by decide +kernel
theorem dX4_leaves_6 : decode cX4_leaves 6 = .ok (.iconst 1, 1) := by decide +kernel
theorem dX4_leaves_7 : decode cX4_leaves 7 = .ok (.if_icmp .ne 23, 3) := by decide +kernel
theorem dX4_leaves_10 : decode cX4_leaves 10 = .ok (.aload_n 0, 1) := by decide +kernel
theorem dX4_leaves_11 : decode cX4_leaves 11 = .ok (.aload_n 0, 1) := by decide +kernel
theorem dX4_leaves_12 : decode cX4_leaves 12 = .ok (.getfield 43, 3) := by decide +kernel
theorem dX4_leaves_15 : decode cX4_leaves 15 = .ok (.iload_n 1, 1) := by decide +kernel
theorem dX4_leaves_16 : decode cX4_leaves 16 = .ok (.iaload, 1) := by decide +kernel
theorem dX4_leaves_17 : decode cX4_leaves 17 = .ok (.aload_n 0, 1) := by decide +kernel
theorem dX4_leaves_18 : decode cX4_leaves 18 = .ok (.getfield 46, 3) := by decide +kernel
theorem dX4_leaves_21 : decode cX4_leaves 21 = .ok (.iload_n 1, 1) := by decide +kernel
theorem dX4_leaves_22 : decode cX4_leaves 22 = .ok (.iaload, 1) := by decide +kernel
theorem dX4_leaves_23 : decode cX4_leaves 23 = .ok (.ineg, 1) := by decide +kernel
theorem dX4_leaves_24 : decode cX4_leaves 24 = .ok (.invokevirtual 138, 3) := by decide +kernel
theorem dX4_leaves_27 : decode cX4_leaves 27 = .ok (.goto 23, 3) := by decide +kernel
theorem dX4_leaves_30 : decode cX4_leaves 30 = .ok (.aload_n 0, 1) := by decide +kernel
theorem dX4_leaves_31 : decode cX4_leaves 31 = .ok (.getfield 40, 3) := by decide +kernel
theorem dX4_leaves_34 : decode cX4_leaves 34 = .ok (.aload_n 0, 1) := by decide +kernel
theorem dX4_leaves_35 : decode cX4_leaves 35 = .ok (.getfield 43, 3) := by decide +kernel
theorem dX4_leaves_38 : decode cX4_leaves 38 = .ok (.iload_n 1, 1) := by decide +kernel
theorem dX4_leaves_39 : decode cX4_leaves 39 = .ok (.iaload, 1) := by decide +kernel
theorem dX4_leaves_40 : decode cX4_leaves 40 = .ok (.dup2, 1) := by decide +kernel
theorem dX4_leaves_41 : decode cX4_leaves 41 = .ok (.iaload, 1) := by decide +kernel
theorem dX4_leaves_42 : decode cX4_leaves 42 = .ok (.aload_n 0, 1) := by decide +kernel
theorem dX4_leaves_43 : decode cX4_leaves 43 = .ok (.getfield 46, 3) := by decide +kernel
theorem dX4_leaves_46 : decode cX4_leaves 46 = .ok (.iload_n 1, 1) := by decide +kernel
theorem dX4_leaves_47 : decode cX4_leaves 47 = .ok (.iaload, 1) := by decide +kernel
theorem dX4_leaves_48 : decode cX4_leaves 48 = .ok (.isub, 1) := by decide +kernel
theorem dX4_leaves_49 : decode cX4_leaves 49 = .ok (.iastore, 1) := by decide +kernel
theorem dX4_leaves_50 : decode cX4_leaves 50 = .ok (.aload_n 0, 1) := by decide +kernel
theorem dX4_leaves_51 : decode cX4_leaves 51 = .ok (.getfield 55, 3) := by decide +kernel
theorem dX4_leaves_54 : decode cX4_leaves 54 = .ok (.iload_n 1, 1) := by decide +kernel
theorem dX4_leaves_55 : decode cX4_leaves 55 = .ok (.iload_n 2, 1) := by decide +kernel
theorem dX4_leaves_56 : decode cX4_leaves 56 = .ok (.iastore, 1) := by decide +kernel
theorem dX4_leaves_57 : decode cX4_leaves 57 = .ok (.aload_n 0, 1) := by decide +kernel
theorem dX4_leaves_58 : decode cX4_leaves 58 = .ok (.dup, 1) := by decide +kernel
theorem dX4_leaves_59 : decode cX4_leaves 59 = .ok (.getfield 190, 3) := by decide +kernel
theorem dX4_leaves_62 : decode cX4_leaves 62 = .ok (.iconst 1, 1) := by decide +kernel
theorem dX4_leaves_63 : decode cX4_leaves 63 = .ok (.isub, 1) := by decide +kernel
theorem dX4_leaves_64 : decode cX4_leaves 64 = .ok (.putfield 190, 3) := by decide +kernel
theorem dX4_leaves_67 : decode cX4_leaves 67 = .ok (.return_, 1) := by decide +kernel
theorem dX4_cancel_0 : decode cX4_cancel 0 = .ok (.aload_n 0, 1) := by decide +kernel
theorem dX4_cancel_1 : decode cX4_cancel 1 = .ok (.aload_n 0, 1) := by decide +kernel
theorem dX4_cancel_2 : decode cX4_cancel 2 = .ok (.iload_n 1, 1) := by decide +kernel
theorem dX4_cancel_3 : decode cX4_cancel 3 = .ok (.invokevirtual 196, 3) := by decide +kernel
theorem dX4_cancel_6 : decode cX4_cancel 6 = .ok (.invokevirtual 184, 3) := by decide +kernel
theorem dX4_cancel_9 : decode cX4_cancel 9 = .ok (.ifCond .ne 5, 3) := by decide +kernel
theorem dX4_cancel_12 : decode cX4_cancel 12 = .ok (.iconst 0, 1) := by decide +kernel
theorem dX4_cancel_13 : decode cX4_cancel 13 = .ok (.ireturn, 1) := by decide +kernel
theorem dX4_cancel_14 : decode cX4_cancel 14 = .ok (.aload_n 0, 1) := by decide +kernel
theorem dX4_cancel_15 : decode cX4_cancel 15 = .ok (.getfield 55, 3) := by decide +kernel
theorem dX4_cancel_18 : decode cX4_cancel 18 = .ok (.iload_n 1, 1) := by decide +kernel
theorem dX4_cancel_19 : decode cX4_cancel 19 = .ok (.iaload, 1) := by decide +kernel
theorem dX4_cancel_20 : decode cX4_cancel 20 = .ok (.iconst 1, 1) := by decide +kernel
theorem dX4_cancel_21 : decode cX4_cancel 21 = .ok (.if_icmp .ne 12, 3) := by decide +kernel
theorem dX4_cancel_24 : decode cX4_cancel 24 = .ok (.aload_n 0, 1) := by decide +kernel
theorem dX4_cancel_25 : decode cX4_cancel 25 = .ok (.getfield 46, 3) := by decide +kernel
theorem dX4_cancel_28 : decode cX4_cancel 28 = .ok (.iload_n 1, 1) := by decide +kernel
theorem dX4_cancel_29 : decode cX4_cancel 29 = .ok (.iaload, 1) := by decide +kernel
theorem dX4_cancel_30 : decode cX4_cancel 30 = .ok (.goto 4, 3) := by decide +kernel
theorem dX4_cancel_33 : decode cX4_cancel 33 = .ok (.iconst 0, 1) := by decide +kernel
theorem dX4_cancel_34 : decode cX4_cancel 34 = .ok (.istore_n 2, 1) := by decide +kernel
theorem dX4_cancel_35 : decode cX4_cancel 35 = .ok (.aload_n 0, 1) := by decide +kernel
theorem dX4_cancel_36 : decode cX4_cancel 36 = .ok (.iload_n 1, 1) := by decide +kernel
theorem dX4_cancel_37 : decode cX4_cancel 37 = .ok (.iconst 3, 1) := by decide +kernel
theorem dX4_cancel_38 : decode cX4_cancel 38 = .ok (.invokevirtual 199, 3) := by decide +kernel
theorem dX4_cancel_41 : decode cX4_cancel 41 = .ok (.aload_n 0, 1) := by decide +kernel
theorem dX4_cancel_42 : decode cX4_cancel 42 = .ok (.invokevirtual 187, 3) := by decide +kernel
theorem dX4_cancel_45 : decode cX4_cancel 45 = .ok (.iload_n 2, 1) := by decide +kernel
theorem dX4_cancel_46 : decode cX4_cancel 46 = .ok (.ireturn, 1) := by decide +kernel
theorem dX4_passesOne_0 : decode cX4_passesOne 0 = .ok (.aload_n 0, 1) := by decide +kernel
theorem dX4_passesOne_1 : decode cX4_passesOne 1 = .ok (.dup, 1) := by decide +kernel
theorem dX4_passesOne_2 : decode cX4_passesOne 2 = .ok (.getfield 116, 3) := by decide +kernel
theorem dX4_passesOne_5 : decode cX4_passesOne 5 = .ok (.iconst 1, 1) := by decide +kernel
theorem dX4_passesOne_6 : decode cX4_passesOne 6 = .ok (.iadd, 1) := by decide +kernel
theorem dX4_passesOne_7 : decode cX4_passesOne 7 = .ok (.putfield 116, 3) := by decide +kernel
theorem dX4_passesOne_10 : decode cX4_passesOne 10 = .ok (.iconst 0, 1) := by decide +kernel
theorem dX4_passesOne_11 : decode cX4_passesOne 11 = .ok (.istore_n 1, 1) := by decide +kernel
theorem dX4_passesOne_12 : decode cX4_passesOne 12 = .ok (.iconst 0, 1) := by decide +kernel
theorem dX4_passesOne_13 : decode cX4_passesOne 13 = .ok (.istore_n 2, 1) := by decide +kernel
theorem dX4_passesOne_14 : decode cX4_passesOne 14 = .ok (.iload_n 2, 1) := by decide +kernel
theorem dX4_passesOne_15 : decode cX4_passesOne 15 = .ok (.aload_n 0, 1) := by decide +kernel
theorem dX4_passesOne_16 : decode cX4_passesOne 16 = .ok (.getfield 122, 3) := by decide +kernel
theorem dX4_passesOne_19 : decode cX4_passesOne 19 = .ok (.if_icmp .ge 50, 3) := by decide +kernel
theorem dX4_passesOne_22 : decode cX4_passesOne 22 = .ok (.aload_n 0, 1) := by decide +kernel
theorem dX4_passesOne_23 : decode cX4_passesOne 23 = .ok (.getfield 55, 3) := by decide +kernel
theorem dX4_passesOne_26 : decode cX4_passesOne 26 = .ok (.iload_n 2, 1) := by decide +kernel
theorem dX4_passesOne_27 : decode cX4_passesOne 27 = .ok (.iaload, 1) := by decide +kernel
theorem dX4_passesOne_28 : decode cX4_passesOne 28 = .ok (.iconst 1, 1) := by decide +kernel
theorem dX4_passesOne_29 : decode cX4_passesOne 29 = .ok (.if_icmp .eq 6, 3) := by decide +kernel
theorem dX4_passesOne_32 : decode cX4_passesOne 32 = .ok (.goto 31, 3) := by decide +kernel
theorem dX4_passesOne_35 : decode cX4_passesOne 35 = .ok (.aload_n 0, 1) := by decide +kernel
theorem dX4_passesOne_36 : decode cX4_passesOne 36 = .ok (.getfield 52, 3) := by decide +kernel
theorem dX4_passesOne_39 : decode cX4_passesOne 39 = .ok (.iload_n 2, 1) := by decide +kernel
theorem dX4_passesOne_40 : decode cX4_passesOne 40 = .ok (.dup2, 1) := by decide +kernel
theorem dX4_passesOne_41 : decode cX4_passesOne 41 = .ok (.iaload, 1) := by decide +kernel
theorem dX4_passesOne_42 : decode cX4_passesOne 42 = .ok (.iconst 1, 1) := by decide +kernel
theorem dX4_passesOne_43 : decode cX4_passesOne 43 = .ok (.isub, 1) := by decide +kernel
theorem dX4_passesOne_44 : decode cX4_passesOne 44 = .ok (.iastore, 1) := by decide +kernel
theorem dX4_passesOne_45 : decode cX4_passesOne 45 = .ok (.aload_n 0, 1) := by decide +kernel
theorem dX4_passesOne_46 : decode cX4_passesOne 46 = .ok (.getfield 52, 3) := by decide +kernel
theorem dX4_passesOne_49 : decode cX4_passesOne 49 = .ok (.iload_n 2, 1) := by decide +kernel
theorem dX4_passesOne_50 : decode cX4_passesOne 50 = .ok (.iaload, 1) := by decide +kernel
theorem dX4_passesOne_51 : decode cX4_passesOne 51 = .ok (.ifCond .ne 12, 3) := by decide +kernel
theorem dX4_passesOne_54 : decode cX4_passesOne 54 = .ok (.aload_n 0, 1) := by decide +kernel
theorem dX4_passesOne_55 : decode cX4_passesOne 55 = .ok (.iload_n 2, 1) := by decide +kernel
theorem dX4_passesOne_56 : decode cX4_passesOne 56 = .ok (.iconst 2, 1) := by decide +kernel
theorem dX4_passesOne_57 : decode cX4_passesOne 57 = .ok (.invokevirtual 199, 3) := by decide +kernel
theorem dX4_passesOne_60 : decode cX4_passesOne 60 = .ok (.iinc 1 1, 3) := by decide +kernel
theorem dX4_passesOne_63 : decode cX4_passesOne 63 = .ok (.iinc 2 1, 3) := by decide +kernel
theorem dX4_passesOne_66 : decode cX4_passesOne 66 = .ok (.goto (-52), 3) := by decide +kernel
theorem dX4_passesOne_69 : decode cX4_passesOne 69 = .ok (.iconst 0, 1) := by decide +kernel
theorem dX4_passesOne_70 : decode cX4_passesOne 70 = .ok (.istore_n 2, 1) := by decide +kernel
theorem dX4_passesOne_71 : decode cX4_passesOne 71 = .ok (.iload_n 2, 1) := by decide +kernel
theorem dX4_passesOne_72 : decode cX4_passesOne 72 = .ok (.aload_n 0, 1) := by decide +kernel
theorem dX4_passesOne_73 : decode cX4_passesOne 73 = .ok (.getfield 16, 3) := by decide +kernel
theorem dX4_passesOne_76 : decode cX4_passesOne 76 = .ok (.if_icmp .ge 74, 3) := by decide +kernel
theorem dX4_passesOne_79 : decode cX4_passesOne 79 = .ok (.aload_n 0, 1) := by decide +kernel
theorem dX4_passesOne_80 : decode cX4_passesOne 80 = .ok (.getfield 29, 3) := by decide +kernel
theorem dX4_passesOne_83 : decode cX4_passesOne 83 = .ok (.iload_n 2, 1) := by decide +kernel
theorem dX4_passesOne_84 : decode cX4_passesOne 84 = .ok (.dup2, 1) := by decide +kernel
theorem dX4_passesOne_85 : decode cX4_passesOne 85 = .ok (.laload, 1) := by decide +kernel
theorem dX4_passesOne_86 : decode cX4_passesOne 86 = .ok (.aload_n 0, 1) := by decide +kernel
theorem dX4_passesOne_87 : decode cX4_passesOne 87 = .ok (.iload_n 2, 1) := by decide +kernel
theorem dX4_passesOne_88 : decode cX4_passesOne 88 = .ok (.invokevirtual 103, 3) := by decide +kernel
theorem dX4_passesOne_91 : decode cX4_passesOne 91 = .ok (.ifCond .eq 13, 3) := by decide +kernel
theorem dX4_passesOne_94 : decode cX4_passesOne 94 = .ok (.aload_n 0, 1) := by decide +kernel
theorem dX4_passesOne_95 : decode cX4_passesOne 95 = .ok (.getfield 37, 3) := by decide +kernel
theorem dX4_passesOne_98 : decode cX4_passesOne 98 = .ok (.iload_n 2, 1) := by decide +kernel
theorem dX4_passesOne_99 : decode cX4_passesOne 99 = .ok (.iaload, 1) := by decide +kernel
theorem dX4_passesOne_100 : decode cX4_passesOne 100 = .ok (.i2l, 1) := by decide +kernel
theorem dX4_passesOne_101 : decode cX4_passesOne 101 = .ok (.goto 4, 3) := by decide +kernel
theorem dX4_passesOne_104 : decode cX4_passesOne 104 = .ok (.lconst 0, 1) := by decide +kernel
theorem dX4_passesOne_105 : decode cX4_passesOne 105 = .ok (.ladd, 1) := by decide +kernel
theorem dX4_passesOne_106 : decode cX4_passesOne 106 = .ok (.lastore, 1) := by decide +kernel
theorem dX4_passesOne_107 : decode cX4_passesOne 107 = .ok (.aload_n 0, 1) := by decide +kernel
theorem dX4_passesOne_108 : decode cX4_passesOne 108 = .ok (.getfield 29, 3) := by decide +kernel
theorem dX4_passesOne_111 : decode cX4_passesOne 111 = .ok (.iload_n 2, 1) := by decide +kernel
theorem dX4_passesOne_112 : decode cX4_passesOne 112 = .ok (.aload_n 0, 1) := by decide +kernel
theorem dX4_passesOne_113 : decode cX4_passesOne 113 = .ok (.getfield 116, 3) := by decide +kernel
theorem dX4_passesOne_116 : decode cX4_passesOne 116 = .ok (.aload_n 0, 1) := by decide +kernel
theorem dX4_passesOne_117 : decode cX4_passesOne 117 = .ok (.getfield 13, 3) := by decide +kernel
theorem dX4_passesOne_120 : decode cX4_passesOne 120 = .ok (.irem, 1) := by decide +kernel
theorem dX4_passesOne_121 : decode cX4_passesOne 121 = .ok (.ifCond .ne 16, 3) := by decide +kernel
theorem dX4_passesOne_124 : decode cX4_passesOne 124 = .ok (.aload_n 0, 1) := by decide +kernel
theorem dX4_passesOne_125 : decode cX4_passesOne 125 = .ok (.getfield 29, 3) := by decide +kernel
theorem dX4_passesOne_128 : decode cX4_passesOne 128 = .ok (.iload_n 2, 1) := by decide +kernel
theorem dX4_passesOne_129 : decode cX4_passesOne 129 = .ok (.laload, 1) := by decide +kernel
theorem dX4_passesOne_130 : decode cX4_passesOne 130 = .ok (.ldc2_w 202, 3) := by decide +kernel
theorem dX4_passesOne_133 : decode cX4_passesOne 133 = .ok (.ldiv, 1) := by decide +kernel
theorem dX4_passesOne_134 : decode cX4_passesOne 134 = .ok (.goto 9, 3) := by decide +kernel
theorem dX4_passesOne_137 : decode cX4_passesOne 137 = .ok (.aload_n 0, 1) := by decide +kernel
theorem dX4_passesOne_138 : decode cX4_passesOne 138 = .ok (.getfield 29, 3) := by decide +kernel
theorem dX4_passesOne_141 : decode cX4_passesOne 141 = .ok (.iload_n 2, 1) := by decide +kernel
theorem dX4_passesOne_142 : decode cX4_passesOne 142 = .ok (.laload, 1) := by decide +kernel
theorem dX4_passesOne_143 : decode cX4_passesOne 143 = .ok (.lastore, 1) := by decide +kernel
theorem dX4_passesOne_144 : decode cX4_passesOne 144 = .ok (.iinc 2 1, 3) := by decide +kernel
theorem dX4_passesOne_147 : decode cX4_passesOne 147 = .ok (.goto (-76), 3) := by decide +kernel
theorem dX4_passesOne_150 : decode cX4_passesOne 150 = .ok (.aload_n 0, 1) := by decide +kernel
theorem dX4_passesOne_151 : decode cX4_passesOne 151 = .ok (.invokevirtual 187, 3) := by decide +kernel
theorem dX4_passesOne_154 : decode cX4_passesOne 154 = .ok (.iload_n 1, 1) := by decide +kernel
theorem dX4_passesOne_155 : decode cX4_passesOne 155 = .ok (.ireturn, 1) := by decide +kernel
theorem dX4_pass_0 : decode cX4_pass 0 = .ok (.aload_n 0, 1) := by decide +kernel
theorem dX4_pass_1 : decode cX4_pass 1 = .ok (.iload_n 1, 1) := by decide +kernel
theorem dX4_pass_2 : decode cX4_pass 2 = .ok (.iconst 1, 1) := by decide +kernel
theorem dX4_pass_3 : decode cX4_pass 3 = .ok (.bipush 20, 2) := by decide +kernel
theorem dX4_pass_5 : decode cX4_pass 5 = .ok (.invokestatic 91, 3) := by decide +kernel
theorem dX4_pass_8 : decode cX4_pass 8 = .ok (.ifCond .eq 7, 3) := by decide +kernel
theorem dX4_pass_11 : decode cX4_pass 11 = .ok (.iconst 0, 1) := by decide +kernel
theorem dX4_pass_12 : decode cX4_pass 12 = .ok (.goto 4, 3) := by decide +kernel
theorem dX4_pass_15 : decode cX4_pass 15 = .ok (.iconst 1, 1) := by decide +kernel
theorem dX4_pass_16 : decode cX4_pass 16 = .ok (.invokevirtual 184, 3) := by decide +kernel
theorem dX4_pass_19 : decode cX4_pass 19 = .ok (.ifCond .ne 5, 3) := by decide +kernel
theorem dX4_pass_22 : decode cX4_pass 22 = .ok (.iconst 0, 1) := by decide +kernel
theorem dX4_pass_23 : decode cX4_pass 23 = .ok (.ireturn, 1) := by decide +kernel
theorem dX4_pass_24 : decode cX4_pass 24 = .ok (.iconst 0, 1) := by decide +kernel
theorem dX4_pass_25 : decode cX4_pass 25 = .ok (.istore_n 2, 1) := by decide +kernel
theorem dX4_pass_26 : decode cX4_pass 26 = .ok (.iconst 0, 1) := by decide +kernel
theorem dX4_pass_27 : decode cX4_pass 27 = .ok (.istore_n 3, 1) := by decide +kernel
theorem dX4_pass_28 : decode cX4_pass 28 = .ok (.iload_n 3, 1) := by decide +kernel
theorem dX4_pass_29 : decode cX4_pass 29 = .ok (.iload_n 1, 1) := by decide +kernel
theorem dX4_pass_30 : decode cX4_pass 30 = .ok (.if_icmp .ge 16, 3) := by decide +kernel
theorem dX4_pass_33 : decode cX4_pass 33 = .ok (.iload_n 2, 1) := by decide +kernel
theorem dX4_pass_34 : decode cX4_pass 34 = .ok (.aload_n 0, 1) := by decide +kernel
theorem dX4_pass_35 : decode cX4_pass 35 = .ok (.invokevirtual 204, 3) := by decide +kernel
theorem dX4_pass_38 : decode cX4_pass 38 = .ok (.iadd, 1) := by decide +kernel
theorem dX4_pass_39 : decode cX4_pass 39 = .ok (.istore_n 2, 1) := by decide +kernel
theorem dX4_pass_40 : decode cX4_pass 40 = .ok (.iinc 3 1, 3) := by decide +kernel
theorem dX4_pass_43 : decode cX4_pass 43 = .ok (.goto (-15), 3) := by decide +kernel
theorem dX4_pass_46 : decode cX4_pass 46 = .ok (.iload_n 2, 1) := by decide +kernel
theorem dX4_pass_47 : decode cX4_pass 47 = .ok (.ireturn, 1) := by decide +kernel
theorem dX4_tick_0 : decode cX4_tick 0 = .ok (.aload_n 0, 1) := by decide +kernel
theorem dX4_tick_1 : decode cX4_tick 1 = .ok (.iconst 0, 1) := by decide +kernel
theorem dX4_tick_2 : decode cX4_tick 2 = .ok (.putfield 88, 3) := by decide +kernel
theorem dX4_tick_5 : decode cX4_tick 5 = .ok (.aload_n 0, 1) := by decide +kernel
theorem dX4_tick_6 : decode cX4_tick 6 = .ok (.getfield 116, 3) := by decide +kernel
theorem dX4_tick_9 : decode cX4_tick 9 = .ok (.ireturn, 1) := by decide +kernel
theorem dX4_jobs_0 : decode cX4_jobs 0 = .ok (.aload_n 0, 1) := by decide +kernel
theorem dX4_jobs_1 : decode cX4_jobs 1 = .ok (.iconst 0, 1) := by decide +kernel
theorem dX4_jobs_2 : decode cX4_jobs 2 = .ok (.putfield 88, 3) := by decide +kernel
theorem dX4_jobs_5 : decode cX4_jobs 5 = .ok (.aload_n 0, 1) := by decide +kernel
theorem dX4_jobs_6 : decode cX4_jobs 6 = .ok (.getfield 122, 3) := by decide +kernel
theorem dX4_jobs_9 : decode cX4_jobs 9 = .ok (.ireturn, 1) := by decide +kernel
theorem dX4_stateOf_0 : decode cX4_stateOf 0 = .ok (.aload_n 0, 1) := by decide +kernel
theorem dX4_stateOf_1 : decode cX4_stateOf 1 = .ok (.aload_n 0, 1) := by decide +kernel
theorem dX4_stateOf_2 : decode cX4_stateOf 2 = .ok (.iload_n 1, 1) := by decide +kernel
theorem dX4_stateOf_3 : decode cX4_stateOf 3 = .ok (.invokevirtual 193, 3) := by decide +kernel
theorem dX4_stateOf_6 : decode cX4_stateOf 6 = .ok (.ifCond .eq 7, 3) := by decide +kernel
theorem dX4_stateOf_9 : decode cX4_stateOf 9 = .ok (.iconst 0, 1) := by decide +kernel
theorem dX4_stateOf_10 : decode cX4_stateOf 10 = .ok (.goto 4, 3) := by decide +kernel
theorem dX4_stateOf_13 : decode cX4_stateOf 13 = .ok (.iconst 1, 1) := by decide +kernel
theorem dX4_stateOf_14 : decode cX4_stateOf 14 = .ok (.invokevirtual 184, 3) := by decide +kernel
theorem dX4_stateOf_17 : decode cX4_stateOf 17 = .ok (.ifCond .ne 5, 3) := by decide +kernel
theorem dX4_stateOf_20 : decode cX4_stateOf 20 = .ok (.iconst 0, 1) := by decide +kernel
theorem dX4_stateOf_21 : decode cX4_stateOf 21 = .ok (.ireturn, 1) := by decide +kernel
theorem dX4_stateOf_22 : decode cX4_stateOf 22 = .ok (.aload_n 0, 1) := by decide +kernel
theorem dX4_stateOf_23 : decode cX4_stateOf 23 = .ok (.getfield 55, 3) := by decide +kernel
theorem dX4_stateOf_26 : decode cX4_stateOf 26 = .ok (.iload_n 1, 1) := by decide +kernel
theorem dX4_stateOf_27 : decode cX4_stateOf 27 = .ok (.iaload, 1) := by decide +kernel
theorem dX4_stateOf_28 : decode cX4_stateOf 28 = .ok (.ifCond .ne 8, 3) := by decide +kernel
theorem dX4_stateOf_31 : decode cX4_stateOf 31 = .ok (.bipush 119, 2) := by decide +kernel
theorem dX4_stateOf_33 : decode cX4_stateOf 33 = .ok (.goto 35, 3) := by decide +kernel
theorem dX4_stateOf_36 : decode cX4_stateOf 36 = .ok (.aload_n 0, 1) := by decide +kernel
theorem dX4_stateOf_37 : decode cX4_stateOf 37 = .ok (.getfield 55, 3) := by decide +kernel
theorem dX4_stateOf_40 : decode cX4_stateOf 40 = .ok (.iload_n 1, 1) := by decide +kernel
theorem dX4_stateOf_41 : decode cX4_stateOf 41 = .ok (.iaload, 1) := by decide +kernel
theorem dX4_stateOf_42 : decode cX4_stateOf 42 = .ok (.iconst 1, 1) := by decide +kernel
theorem dX4_stateOf_43 : decode cX4_stateOf 43 = .ok (.if_icmp .ne 8, 3) := by decide +kernel
theorem dX4_stateOf_46 : decode cX4_stateOf 46 = .ok (.bipush 114, 2) := by decide +kernel
theorem dX4_stateOf_48 : decode cX4_stateOf 48 = .ok (.goto 20, 3) := by decide +kernel
theorem dX4_stateOf_51 : decode cX4_stateOf 51 = .ok (.aload_n 0, 1) := by decide +kernel
theorem dX4_stateOf_52 : decode cX4_stateOf 52 = .ok (.getfield 55, 3) := by decide +kernel
theorem dX4_stateOf_55 : decode cX4_stateOf 55 = .ok (.iload_n 1, 1) := by decide +kernel
theorem dX4_stateOf_56 : decode cX4_stateOf 56 = .ok (.iaload, 1) := by decide +kernel
theorem dX4_stateOf_57 : decode cX4_stateOf 57 = .ok (.iconst 2, 1) := by decide +kernel
theorem dX4_stateOf_58 : decode cX4_stateOf 58 = .ok (.if_icmp .ne 8, 3) := by decide +kernel
theorem dX4_stateOf_61 : decode cX4_stateOf 61 = .ok (.bipush 101, 2) := by decide +kernel
theorem dX4_stateOf_63 : decode cX4_stateOf 63 = .ok (.goto 5, 3) := by decide +kernel
theorem dX4_stateOf_66 : decode cX4_stateOf 66 = .ok (.bipush 99, 2) := by decide +kernel
theorem dX4_stateOf_68 : decode cX4_stateOf 68 = .ok (.ireturn, 1) := by decide +kernel
theorem dX4_toGo_0 : decode cX4_toGo 0 = .ok (.aload_n 0, 1) := by decide +kernel
theorem dX4_toGo_1 : decode cX4_toGo 1 = .ok (.aload_n 0, 1) := by decide +kernel
theorem dX4_toGo_2 : decode cX4_toGo 2 = .ok (.iload_n 1, 1) := by decide +kernel
theorem dX4_toGo_3 : decode cX4_toGo 3 = .ok (.invokevirtual 196, 3) := by decide +kernel
theorem dX4_toGo_6 : decode cX4_toGo 6 = .ok (.invokevirtual 184, 3) := by decide +kernel
theorem dX4_toGo_9 : decode cX4_toGo 9 = .ok (.ifCond .eq 30, 3) := by decide +kernel
theorem dX4_toGo_12 : decode cX4_toGo 12 = .ok (.aload_n 0, 1) := by decide +kernel
theorem dX4_toGo_13 : decode cX4_toGo 13 = .ok (.getfield 55, 3) := by decide +kernel
theorem dX4_toGo_16 : decode cX4_toGo 16 = .ok (.iload_n 1, 1) := by decide +kernel
theorem dX4_toGo_17 : decode cX4_toGo 17 = .ok (.iaload, 1) := by decide +kernel
theorem dX4_toGo_18 : decode cX4_toGo 18 = .ok (.ifCond .ne 12, 3) := by decide +kernel
theorem dX4_toGo_21 : decode cX4_toGo 21 = .ok (.aload_n 0, 1) := by decide +kernel
theorem dX4_toGo_22 : decode cX4_toGo 22 = .ok (.getfield 49, 3) := by decide +kernel
theorem dX4_toGo_25 : decode cX4_toGo 25 = .ok (.iload_n 1, 1) := by decide +kernel
theorem dX4_toGo_26 : decode cX4_toGo 26 = .ok (.iaload, 1) := by decide +kernel
theorem dX4_toGo_27 : decode cX4_toGo 27 = .ok (.goto 13, 3) := by decide +kernel
theorem dX4_toGo_30 : decode cX4_toGo 30 = .ok (.aload_n 0, 1) := by decide +kernel
theorem dX4_toGo_31 : decode cX4_toGo 31 = .ok (.getfield 52, 3) := by decide +kernel
theorem dX4_toGo_34 : decode cX4_toGo 34 = .ok (.iload_n 1, 1) := by decide +kernel
theorem dX4_toGo_35 : decode cX4_toGo 35 = .ok (.iaload, 1) := by decide +kernel
theorem dX4_toGo_36 : decode cX4_toGo 36 = .ok (.goto 4, 3) := by decide +kernel
theorem dX4_toGo_39 : decode cX4_toGo 39 = .ok (.iconst 0, 1) := by decide +kernel
theorem dX4_toGo_40 : decode cX4_toGo 40 = .ok (.ireturn, 1) := by decide +kernel
theorem dX4_stops_0 : decode cX4_stops 0 = .ok (.aload_n 0, 1) := by decide +kernel
theorem dX4_stops_1 : decode cX4_stops 1 = .ok (.aload_n 0, 1) := by decide +kernel
theorem dX4_stops_2 : decode cX4_stops 2 = .ok (.iload_n 1, 1) := by decide +kernel
theorem dX4_stops_3 : decode cX4_stops 3 = .ok (.invokevirtual 193, 3) := by decide +kernel
theorem dX4_stops_6 : decode cX4_stops 6 = .ok (.ifCond .eq 7, 3) := by decide +kernel
theorem dX4_stops_9 : decode cX4_stops 9 = .ok (.iconst 0, 1) := by decide +kernel
theorem dX4_stops_10 : decode cX4_stops 10 = .ok (.goto 4, 3) := by decide +kernel
theorem dX4_stops_13 : decode cX4_stops 13 = .ok (.iconst 1, 1) := by decide +kernel
theorem dX4_stops_14 : decode cX4_stops 14 = .ok (.invokevirtual 184, 3) := by decide +kernel
theorem dX4_stops_17 : decode cX4_stops 17 = .ok (.ifCond .eq 12, 3) := by decide +kernel
theorem dX4_stops_20 : decode cX4_stops 20 = .ok (.aload_n 0, 1) := by decide +kernel
theorem dX4_stops_21 : decode cX4_stops 21 = .ok (.getfield 58, 3) := by decide +kernel
theorem dX4_stops_24 : decode cX4_stops 24 = .ok (.iload_n 1, 1) := by decide +kernel
theorem dX4_stops_25 : decode cX4_stops 25 = .ok (.iaload, 1) := by decide +kernel
theorem dX4_stops_26 : decode cX4_stops 26 = .ok (.goto 4, 3) := by decide +kernel
theorem dX4_stops_29 : decode cX4_stops 29 = .ok (.iconst 0, 1) := by decide +kernel
theorem dX4_stops_30 : decode cX4_stops 30 = .ok (.ireturn, 1) := by decide +kernel
theorem dX4_firstOf_0 : decode cX4_firstOf 0 = .ok (.aload_n 0, 1) := by decide +kernel
theorem dX4_firstOf_1 : decode cX4_firstOf 1 = .ok (.iload_n 1, 1) := by decide +kernel
theorem dX4_firstOf_2 : decode cX4_firstOf 2 = .ok (.invokevirtual 208, 3) := by decide +kernel
theorem dX4_firstOf_5 : decode cX4_firstOf 5 = .ok (.istore_n 2, 1) := by decide +kernel
theorem dX4_firstOf_6 : decode cX4_firstOf 6 = .ok (.iload_n 2, 1) := by decide +kernel
theorem dX4_firstOf_7 : decode cX4_firstOf 7 = .ok (.ifCond .ne 16, 3) := by decide +kernel
theorem dX4_firstOf_10 : decode cX4_firstOf 10 = .ok (.aload_n 0, 1) := by decide +kernel
theorem dX4_firstOf_11 : decode cX4_firstOf 11 = .ok (.iload_n 1, 1) := by decide +kernel
theorem dX4_firstOf_12 : decode cX4_firstOf 12 = .ok (.invokevirtual 128, 3) := by decide +kernel
theorem dX4_firstOf_15 : decode cX4_firstOf 15 = .ok (.iconst (-1), 1) := by decide +kernel
theorem dX4_firstOf_16 : decode cX4_firstOf 16 = .ok (.if_icmp .ne 7, 3) := by decide +kernel
theorem dX4_firstOf_19 : decode cX4_firstOf 19 = .ok (.iconst 3, 1) := by decide +kernel
theorem dX4_firstOf_20 : decode cX4_firstOf 20 = .ok (.goto 4, 3) := by decide +kernel
theorem dX4_firstOf_23 : decode cX4_firstOf 23 = .ok (.iload_n 2, 1) := by decide +kernel
theorem dX4_firstOf_24 : decode cX4_firstOf 24 = .ok (.istore_n 2, 1) := by decide +kernel
theorem dX4_firstOf_25 : decode cX4_firstOf 25 = .ok (.aload_n 0, 1) := by decide +kernel
theorem dX4_firstOf_26 : decode cX4_firstOf 26 = .ok (.iload_n 2, 1) := by decide +kernel
theorem dX4_firstOf_27 : decode cX4_firstOf 27 = .ok (.invokevirtual 184, 3) := by decide +kernel
theorem dX4_firstOf_30 : decode cX4_firstOf 30 = .ok (.ifCond .eq 11, 3) := by decide +kernel
theorem dX4_firstOf_33 : decode cX4_firstOf 33 = .ok (.aload_n 0, 1) := by decide +kernel
theorem dX4_firstOf_34 : decode cX4_firstOf 34 = .ok (.iload_n 1, 1) := by decide +kernel
theorem dX4_firstOf_35 : decode cX4_firstOf 35 = .ok (.invokevirtual 128, 3) := by decide +kernel
theorem dX4_firstOf_38 : decode cX4_firstOf 38 = .ok (.goto 4, 3) := by decide +kernel
theorem dX4_firstOf_41 : decode cX4_firstOf 41 = .ok (.iconst 0, 1) := by decide +kernel
theorem dX4_firstOf_42 : decode cX4_firstOf 42 = .ok (.ireturn, 1) := by decide +kernel
theorem dX4_inLine_0 : decode cX4_inLine 0 = .ok (.aload_n 0, 1) := by decide +kernel
theorem dX4_inLine_1 : decode cX4_inLine 1 = .ok (.invokevirtual 166, 3) := by decide +kernel
theorem dX4_inLine_4 : decode cX4_inLine 4 = .ok (.aload_n 0, 1) := by decide +kernel
theorem dX4_inLine_5 : decode cX4_inLine 5 = .ok (.iload_n 1, 1) := by decide +kernel
theorem dX4_inLine_6 : decode cX4_inLine 6 = .ok (.iconst 0, 1) := by decide +kernel
theorem dX4_inLine_7 : decode cX4_inLine 7 = .ok (.aload_n 0, 1) := by decide +kernel
theorem dX4_inLine_8 : decode cX4_inLine 8 = .ok (.getfield 125, 3) := by decide +kernel
theorem dX4_inLine_11 : decode cX4_inLine 11 = .ok (.iconst 1, 1) := by decide +kernel
theorem dX4_inLine_12 : decode cX4_inLine 12 = .ok (.isub, 1) := by decide +kernel
theorem dX4_inLine_13 : decode cX4_inLine 13 = .ok (.invokestatic 91, 3) := by decide +kernel
theorem dX4_inLine_16 : decode cX4_inLine 16 = .ok (.ifCond .eq 7, 3) := by decide +kernel
theorem dX4_inLine_19 : decode cX4_inLine 19 = .ok (.iconst 0, 1) := by decide +kernel
theorem dX4_inLine_20 : decode cX4_inLine 20 = .ok (.goto 4, 3) := by decide +kernel
theorem dX4_inLine_23 : decode cX4_inLine 23 = .ok (.iconst 1, 1) := by decide +kernel
theorem dX4_inLine_24 : decode cX4_inLine 24 = .ok (.invokevirtual 184, 3) := by decide +kernel
theorem dX4_inLine_27 : decode cX4_inLine 27 = .ok (.ifCond .eq 12, 3) := by decide +kernel
theorem dX4_inLine_30 : decode cX4_inLine 30 = .ok (.aload_n 0, 1) := by decide +kernel
theorem dX4_inLine_31 : decode cX4_inLine 31 = .ok (.getfield 82, 3) := by decide +kernel
theorem dX4_inLine_34 : decode cX4_inLine 34 = .ok (.iload_n 1, 1) := by decide +kernel
theorem dX4_inLine_35 : decode cX4_inLine 35 = .ok (.iaload, 1) := by decide +kernel
theorem dX4_inLine_36 : decode cX4_inLine 36 = .ok (.goto 4, 3) := by decide +kernel
theorem dX4_inLine_39 : decode cX4_inLine 39 = .ok (.iconst 0, 1) := by decide +kernel
theorem dX4_inLine_40 : decode cX4_inLine 40 = .ok (.ireturn, 1) := by decide +kernel
theorem dX4_spanOf_0 : decode cX4_spanOf 0 = .ok (.iconst 0, 1) := by decide +kernel
theorem dX4_spanOf_1 : decode cX4_spanOf 1 = .ok (.istore 4, 2) := by decide +kernel
theorem dX4_spanOf_3 : decode cX4_spanOf 3 = .ok (.iload 4, 2) := by decide +kernel
theorem dX4_spanOf_5 : decode cX4_spanOf 5 = .ok (.aload_n 0, 1) := by decide +kernel
theorem dX4_spanOf_6 : decode cX4_spanOf 6 = .ok (.getfield 113, 3) := by decide +kernel
theorem dX4_spanOf_9 : decode cX4_spanOf 9 = .ok (.if_icmp .ge 45, 3) := by decide +kernel
theorem dX4_spanOf_12 : decode cX4_spanOf 12 = .ok (.aload_n 0, 1) := by decide +kernel
theorem dX4_spanOf_13 : decode cX4_spanOf 13 = .ok (.getfield 64, 3) := by decide +kernel
theorem dX4_spanOf_16 : decode cX4_spanOf 16 = .ok (.iload 4, 2) := by decide +kernel
theorem dX4_spanOf_18 : decode cX4_spanOf 18 = .ok (.iaload, 1) := by decide +kernel
theorem dX4_spanOf_19 : decode cX4_spanOf 19 = .ok (.iload_n 1, 1) := by decide +kernel
theorem dX4_spanOf_20 : decode cX4_spanOf 20 = .ok (.if_icmp .ne 28, 3) := by decide +kernel
theorem dX4_spanOf_23 : decode cX4_spanOf 23 = .ok (.aload_n 0, 1) := by decide +kernel
theorem dX4_spanOf_24 : decode cX4_spanOf 24 = .ok (.getfield 70, 3) := by decide +kernel
theorem dX4_spanOf_27 : decode cX4_spanOf 27 = .ok (.iload 4, 2) := by decide +kernel
theorem dX4_spanOf_29 : decode cX4_spanOf 29 = .ok (.iaload, 1) := by decide +kernel
theorem dX4_spanOf_30 : decode cX4_spanOf 30 = .ok (.iload_n 2, 1) := by decide +kernel
theorem dX4_spanOf_31 : decode cX4_spanOf 31 = .ok (.if_icmp .ne 17, 3) := by decide +kernel
theorem dX4_spanOf_34 : decode cX4_spanOf 34 = .ok (.aload_n 0, 1) := by decide +kernel
theorem dX4_spanOf_35 : decode cX4_spanOf 35 = .ok (.getfield 73, 3) := by decide +kernel
theorem dX4_spanOf_38 : decode cX4_spanOf 38 = .ok (.iload 4, 2) := by decide +kernel
theorem dX4_spanOf_40 : decode cX4_spanOf 40 = .ok (.iaload, 1) := by decide +kernel
theorem dX4_spanOf_41 : decode cX4_spanOf 41 = .ok (.iload_n 3, 1) := by decide +kernel
theorem dX4_spanOf_42 : decode cX4_spanOf 42 = .ok (.if_icmp .ne 6, 3) := by decide +kernel
theorem dX4_spanOf_45 : decode cX4_spanOf 45 = .ok (.iload 4, 2) := by decide +kernel
theorem dX4_spanOf_47 : decode cX4_spanOf 47 = .ok (.ireturn, 1) := by decide +kernel
theorem dX4_spanOf_48 : decode cX4_spanOf 48 = .ok (.iinc 4 1, 3) := by decide +kernel
theorem dX4_spanOf_51 : decode cX4_spanOf 51 = .ok (.goto (-48), 3) := by decide +kernel
theorem dX4_spanOf_54 : decode cX4_spanOf 54 = .ok (.iconst (-1), 1) := by decide +kernel
theorem dX4_spanOf_55 : decode cX4_spanOf 55 = .ok (.ireturn, 1) := by decide +kernel
theorem dX4_reserveFault_0 : decode cX4_reserveFault 0 = .ok (.aload_n 0, 1) := by decide +kernel
theorem dX4_reserveFault_1 : decode cX4_reserveFault 1 = .ok (.iload_n 1, 1) := by decide +kernel
theorem dX4_reserveFault_2 : decode cX4_reserveFault 2 = .ok (.invokevirtual 99, 3) := by decide +kernel
theorem dX4_reserveFault_5 : decode cX4_reserveFault 5 = .ok (.ifCond .ne 5, 3) := by decide +kernel
theorem dX4_reserveFault_8 : decode cX4_reserveFault 8 = .ok (.iconst 1, 1) := by decide +kernel
theorem dX4_reserveFault_9 : decode cX4_reserveFault 9 = .ok (.ireturn, 1) := by decide +kernel
theorem dX4_reserveFault_10 : decode cX4_reserveFault 10 = .ok (.aload_n 0, 1) := by decide +kernel
theorem dX4_reserveFault_11 : decode cX4_reserveFault 11 = .ok (.iload_n 1, 1) := by decide +kernel
theorem dX4_reserveFault_12 : decode cX4_reserveFault 12 = .ok (.iload_n 3, 1) := by decide +kernel
theorem dX4_reserveFault_13 : decode cX4_reserveFault 13 = .ok (.iload 4, 2) := by decide +kernel
theorem dX4_reserveFault_15 : decode cX4_reserveFault 15 = .ok (.invokevirtual 211, 3) := by decide +kernel
theorem dX4_reserveFault_18 : decode cX4_reserveFault 18 = .ok (.istore 5, 2) := by decide +kernel
theorem dX4_reserveFault_20 : decode cX4_reserveFault 20 = .ok (.iload_n 2, 1) := by decide +kernel
theorem dX4_reserveFault_21 : decode cX4_reserveFault 21 = .ok (.iconst 1, 1) := by decide +kernel
theorem dX4_reserveFault_22 : decode cX4_reserveFault 22 = .ok (.bipush 60, 2) := by decide +kernel
theorem dX4_reserveFault_24 : decode cX4_reserveFault 24 = .ok (.invokestatic 91, 3) := by decide +kernel
theorem dX4_reserveFault_27 : decode cX4_reserveFault 27 = .ok (.ifCond .eq 49, 3) := by decide +kernel
theorem dX4_reserveFault_30 : decode cX4_reserveFault 30 = .ok (.iload_n 3, 1) := by decide +kernel
theorem dX4_reserveFault_31 : decode cX4_reserveFault 31 = .ok (.iconst 0, 1) := by decide +kernel
theorem dX4_reserveFault_32 : decode cX4_reserveFault 32 = .ok (.sipush 9999, 3) := by decide +kernel
theorem dX4_reserveFault_35 : decode cX4_reserveFault 35 = .ok (.invokestatic 91, 3) := by decide +kernel
theorem dX4_reserveFault_38 : decode cX4_reserveFault 38 = .ok (.ifCond .eq 38, 3) := by decide +kernel
theorem dX4_reserveFault_41 : decode cX4_reserveFault 41 = .ok (.iload 4, 2) := by decide +kernel
theorem dX4_reserveFault_43 : decode cX4_reserveFault 43 = .ok (.iload_n 3, 1) := by decide +kernel
theorem dX4_reserveFault_44 : decode cX4_reserveFault 44 = .ok (.if_icmp .le 32, 3) := by decide +kernel
theorem dX4_reserveFault_47 : decode cX4_reserveFault 47 = .ok (.iload 4, 2) := by decide +kernel
theorem dX4_reserveFault_49 : decode cX4_reserveFault 49 = .ok (.sipush 9999, 3) := by decide +kernel
theorem dX4_reserveFault_52 : decode cX4_reserveFault 52 = .ok (.if_icmp .gt 24, 3) := by decide +kernel
theorem dX4_reserveFault_55 : decode cX4_reserveFault 55 = .ok (.iload 5, 2) := by decide +kernel
theorem dX4_reserveFault_57 : decode cX4_reserveFault 57 = .ok (.iconst (-1), 1) := by decide +kernel
theorem dX4_reserveFault_58 : decode cX4_reserveFault 58 = .ok (.if_icmp .eq 20, 3) := by decide +kernel
theorem dX4_reserveFault_61 : decode cX4_reserveFault 61 = .ok (.aload_n 0, 1) := by decide +kernel
theorem dX4_reserveFault_62 : decode cX4_reserveFault 62 = .ok (.getfield 67, 3) := by decide +kernel
theorem dX4_reserveFault_65 : decode cX4_reserveFault 65 = .ok (.iload 5, 2) := by decide +kernel
theorem dX4_reserveFault_67 : decode cX4_reserveFault 67 = .ok (.iaload, 1) := by decide +kernel
theorem dX4_reserveFault_68 : decode cX4_reserveFault 68 = .ok (.iload_n 2, 1) := by decide +kernel
theorem dX4_reserveFault_69 : decode cX4_reserveFault 69 = .ok (.iadd, 1) := by decide +kernel
theorem dX4_reserveFault_70 : decode cX4_reserveFault 70 = .ok (.sipush 200, 3) := by decide +kernel
theorem dX4_reserveFault_73 : decode cX4_reserveFault 73 = .ok (.if_icmp .le 5, 3) := by decide +kernel
theorem dX4_reserveFault_76 : decode cX4_reserveFault 76 = .ok (.iconst 2, 1) := by decide +kernel
theorem dX4_reserveFault_77 : decode cX4_reserveFault 77 = .ok (.ireturn, 1) := by decide +kernel
theorem dX4_reserveFault_78 : decode cX4_reserveFault 78 = .ok (.aload_n 0, 1) := by decide +kernel
theorem dX4_reserveFault_79 : decode cX4_reserveFault 79 = .ok (.iload_n 1, 1) := by decide +kernel
theorem dX4_reserveFault_80 : decode cX4_reserveFault 80 = .ok (.invokevirtual 103, 3) := by decide +kernel
theorem dX4_reserveFault_83 : decode cX4_reserveFault 83 = .ok (.ifCond .ne 7, 3) := by decide +kernel
theorem dX4_reserveFault_86 : decode cX4_reserveFault 86 = .ok (.iconst 3, 1) := by decide +kernel
theorem dX4_reserveFault_87 : decode cX4_reserveFault 87 = .ok (.goto 23, 3) := by decide +kernel
theorem dX4_reserveFault_90 : decode cX4_reserveFault 90 = .ok (.aload_n 0, 1) := by decide +kernel
theorem dX4_reserveFault_91 : decode cX4_reserveFault 91 = .ok (.getfield 113, 3) := by decide +kernel
theorem dX4_reserveFault_94 : decode cX4_reserveFault 94 = .ok (.bipush 8, 2) := by decide +kernel
theorem dX4_reserveFault_96 : decode cX4_reserveFault 96 = .ok (.if_icmp .ne 13, 3) := by decide +kernel
theorem dX4_reserveFault_99 : decode cX4_reserveFault 99 = .ok (.iload 5, 2) := by decide +kernel
theorem dX4_reserveFault_101 : decode cX4_reserveFault 101 = .ok (.iconst (-1), 1) := by decide +kernel
theorem dX4_reserveFault_102 : decode cX4_reserveFault 102 = .ok (.if_icmp .ne 7, 3) := by decide +kernel
theorem dX4_reserveFault_105 : decode cX4_reserveFault 105 = .ok (.iconst 4, 1) := by decide +kernel
theorem dX4_reserveFault_106 : decode cX4_reserveFault 106 = .ok (.goto 4, 3) := by decide +kernel
theorem dX4_reserveFault_109 : decode cX4_reserveFault 109 = .ok (.iconst 0, 1) := by decide +kernel
theorem dX4_reserveFault_110 : decode cX4_reserveFault 110 = .ok (.ireturn, 1) := by decide +kernel
theorem dX4_reserve_0 : decode cX4_reserve 0 = .ok (.aload_n 0, 1) := by decide +kernel
theorem dX4_reserve_1 : decode cX4_reserve 1 = .ok (.aload_n 0, 1) := by decide +kernel
theorem dX4_reserve_2 : decode cX4_reserve 2 = .ok (.iload_n 1, 1) := by decide +kernel
theorem dX4_reserve_3 : decode cX4_reserve 3 = .ok (.iload_n 2, 1) := by decide +kernel
theorem dX4_reserve_4 : decode cX4_reserve 4 = .ok (.iload_n 3, 1) := by decide +kernel
theorem dX4_reserve_5 : decode cX4_reserve 5 = .ok (.iload 4, 2) := by decide +kernel
theorem dX4_reserve_7 : decode cX4_reserve 7 = .ok (.invokevirtual 215, 3) := by decide +kernel
theorem dX4_reserve_10 : decode cX4_reserve 10 = .ok (.invokevirtual 184, 3) := by decide +kernel
theorem dX4_reserve_13 : decode cX4_reserve 13 = .ok (.ifCond .ne 5, 3) := by decide +kernel
theorem dX4_reserve_16 : decode cX4_reserve 16 = .ok (.iconst 0, 1) := by decide +kernel
theorem dX4_reserve_17 : decode cX4_reserve 17 = .ok (.ireturn, 1) := by decide +kernel
theorem dX4_reserve_18 : decode cX4_reserve 18 = .ok (.aload_n 0, 1) := by decide +kernel
theorem dX4_reserve_19 : decode cX4_reserve 19 = .ok (.iload_n 1, 1) := by decide +kernel
theorem dX4_reserve_20 : decode cX4_reserve 20 = .ok (.iload_n 3, 1) := by decide +kernel
theorem dX4_reserve_21 : decode cX4_reserve 21 = .ok (.iload 4, 2) := by decide +kernel
theorem dX4_reserve_23 : decode cX4_reserve 23 = .ok (.invokevirtual 211, 3) := by decide +kernel
theorem dX4_reserve_26 : decode cX4_reserve 26 = .ok (.istore 5, 2) := by decide +kernel
theorem dX4_reserve_28 : decode cX4_reserve 28 = .ok (.iload 5, 2) := by decide +kernel
theorem dX4_reserve_30 : decode cX4_reserve 30 = .ok (.iconst (-1), 1) := by decide +kernel
theorem dX4_reserve_31 : decode cX4_reserve 31 = .ok (.if_icmp .ne 52, 3) := by decide +kernel
theorem dX4_reserve_34 : decode cX4_reserve 34 = .ok (.aload_n 0, 1) := by decide +kernel
theorem dX4_reserve_35 : decode cX4_reserve 35 = .ok (.getfield 113, 3) := by decide +kernel
theorem dX4_reserve_38 : decode cX4_reserve 38 = .ok (.istore 5, 2) := by decide +kernel
theorem dX4_reserve_40 : decode cX4_reserve 40 = .ok (.aload_n 0, 1) := by decide +kernel
theorem dX4_reserve_41 : decode cX4_reserve 41 = .ok (.getfield 64, 3) := by decide +kernel
theorem dX4_reserve_44 : decode cX4_reserve 44 = .ok (.iload 5, 2) := by decide +kernel
theorem dX4_reserve_46 : decode cX4_reserve 46 = .ok (.iload_n 1, 1) := by decide +kernel
theorem dX4_reserve_47 : decode cX4_reserve 47 = .ok (.iastore, 1) := by decide +kernel
theorem dX4_reserve_48 : decode cX4_reserve 48 = .ok (.aload_n 0, 1) := by decide +kernel
theorem dX4_reserve_49 : decode cX4_reserve 49 = .ok (.getfield 67, 3) := by decide +kernel
theorem dX4_reserve_52 : decode cX4_reserve 52 = .ok (.iload 5, 2) := by decide +kernel
theorem dX4_reserve_54 : decode cX4_reserve 54 = .ok (.iconst 0, 1) := by decide +kernel
theorem dX4_reserve_55 : decode cX4_reserve 55 = .ok (.iastore, 1) := by decide +kernel
theorem dX4_reserve_56 : decode cX4_reserve 56 = .ok (.aload_n 0, 1) := by decide +kernel
theorem dX4_reserve_57 : decode cX4_reserve 57 = .ok (.getfield 70, 3) := by decide +kernel
theorem dX4_reserve_60 : decode cX4_reserve 60 = .ok (.iload 5, 2) := by decide +kernel
theorem dX4_reserve_62 : decode cX4_reserve 62 = .ok (.iload_n 3, 1) := by decide +kernel
theorem dX4_reserve_63 : decode cX4_reserve 63 = .ok (.iastore, 1) := by decide +kernel
theorem dX4_reserve_64 : decode cX4_reserve 64 = .ok (.aload_n 0, 1) := by decide +kernel
theorem dX4_reserve_65 : decode cX4_reserve 65 = .ok (.getfield 73, 3) := by decide +kernel
theorem dX4_reserve_68 : decode cX4_reserve 68 = .ok (.iload 5, 2) := by decide +kernel
theorem dX4_reserve_70 : decode cX4_reserve 70 = .ok (.iload 4, 2) := by decide +kernel
theorem dX4_reserve_72 : decode cX4_reserve 72 = .ok (.iastore, 1) := by decide +kernel
theorem dX4_reserve_73 : decode cX4_reserve 73 = .ok (.aload_n 0, 1) := by decide +kernel
theorem dX4_reserve_74 : decode cX4_reserve 74 = .ok (.dup, 1) := by decide +kernel
theorem dX4_reserve_75 : decode cX4_reserve 75 = .ok (.getfield 113, 3) := by decide +kernel
theorem dX4_reserve_78 : decode cX4_reserve 78 = .ok (.iconst 1, 1) := by decide +kernel
theorem dX4_reserve_79 : decode cX4_reserve 79 = .ok (.iadd, 1) := by decide +kernel
theorem dX4_reserve_80 : decode cX4_reserve 80 = .ok (.putfield 113, 3) := by decide +kernel
theorem dX4_reserve_83 : decode cX4_reserve 83 = .ok (.aload_n 0, 1) := by decide +kernel
theorem dX4_reserve_84 : decode cX4_reserve 84 = .ok (.getfield 67, 3) := by decide +kernel
theorem dX4_reserve_87 : decode cX4_reserve 87 = .ok (.iload 5, 2) := by decide +kernel
theorem dX4_reserve_89 : decode cX4_reserve 89 = .ok (.dup2, 1) := by decide +kernel
theorem dX4_reserve_90 : decode cX4_reserve 90 = .ok (.iaload, 1) := by decide +kernel
theorem dX4_reserve_91 : decode cX4_reserve 91 = .ok (.iload_n 2, 1) := by decide +kernel
theorem dX4_reserve_92 : decode cX4_reserve 92 = .ok (.iadd, 1) := by decide +kernel
theorem dX4_reserve_93 : decode cX4_reserve 93 = .ok (.iastore, 1) := by decide +kernel
theorem dX4_reserve_94 : decode cX4_reserve 94 = .ok (.aload_n 0, 1) := by decide +kernel
theorem dX4_reserve_95 : decode cX4_reserve 95 = .ok (.getfield 33, 3) := by decide +kernel
theorem dX4_reserve_98 : decode cX4_reserve 98 = .ok (.iload_n 1, 1) := by decide +kernel
theorem dX4_reserve_99 : decode cX4_reserve 99 = .ok (.iconst 1, 1) := by decide +kernel
theorem dX4_reserve_100 : decode cX4_reserve 100 = .ok (.bastore, 1) := by decide +kernel
theorem dX4_reserve_101 : decode cX4_reserve 101 = .ok (.aload_n 0, 1) := by decide +kernel
theorem dX4_reserve_102 : decode cX4_reserve 102 = .ok (.getfield 67, 3) := by decide +kernel
theorem dX4_reserve_105 : decode cX4_reserve 105 = .ok (.iload 5, 2) := by decide +kernel
theorem dX4_reserve_107 : decode cX4_reserve 107 = .ok (.iaload, 1) := by decide +kernel
theorem dX4_reserve_108 : decode cX4_reserve 108 = .ok (.istore 6, 2) := by decide +kernel
theorem dX4_reserve_110 : decode cX4_reserve 110 = .ok (.aload_n 0, 1) := by decide +kernel
theorem dX4_reserve_111 : decode cX4_reserve 111 = .ok (.invokevirtual 187, 3) := by decide +kernel
theorem dX4_reserve_114 : decode cX4_reserve 114 = .ok (.iload 6, 2) := by decide +kernel
theorem dX4_reserve_116 : decode cX4_reserve 116 = .ok (.ireturn, 1) := by decide +kernel
theorem dX4_drop_0 : decode cX4_drop 0 = .ok (.aload_n 0, 1) := by decide +kernel
theorem dX4_drop_1 : decode cX4_drop 1 = .ok (.iload_n 1, 1) := by decide +kernel
theorem dX4_drop_2 : decode cX4_drop 2 = .ok (.iload_n 2, 1) := by decide +kernel
theorem dX4_drop_3 : decode cX4_drop 3 = .ok (.iload_n 3, 1) := by decide +kernel
theorem dX4_drop_4 : decode cX4_drop 4 = .ok (.invokevirtual 211, 3) := by decide +kernel
theorem dX4_drop_7 : decode cX4_drop 7 = .ok (.istore 4, 2) := by decide +kernel
theorem dX4_drop_9 : decode cX4_drop 9 = .ok (.aload_n 0, 1) := by decide +kernel
theorem dX4_drop_10 : decode cX4_drop 10 = .ok (.iload 4, 2) := by decide +kernel
theorem dX4_drop_12 : decode cX4_drop 12 = .ok (.iconst (-1), 1) := by decide +kernel
theorem dX4_drop_13 : decode cX4_drop 13 = .ok (.if_icmp .ne 7, 3) := by decide +kernel
theorem dX4_drop_16 : decode cX4_drop 16 = .ok (.iconst 1, 1) := by decide +kernel
theorem dX4_drop_17 : decode cX4_drop 17 = .ok (.goto 4, 3) := by decide +kernel
theorem dX4_drop_20 : decode cX4_drop 20 = .ok (.iconst 0, 1) := by decide +kernel
theorem dX4_drop_21 : decode cX4_drop 21 = .ok (.invokevirtual 184, 3) := by decide +kernel
theorem dX4_drop_24 : decode cX4_drop 24 = .ok (.ifCond .ne 5, 3) := by decide +kernel
theorem dX4_drop_27 : decode cX4_drop 27 = .ok (.iconst 0, 1) := by decide +kernel
theorem dX4_drop_28 : decode cX4_drop 28 = .ok (.ireturn, 1) := by decide +kernel
theorem dX4_drop_29 : decode cX4_drop 29 = .ok (.aload_n 0, 1) := by decide +kernel
theorem dX4_drop_30 : decode cX4_drop 30 = .ok (.getfield 67, 3) := by decide +kernel
theorem dX4_drop_33 : decode cX4_drop 33 = .ok (.iload 4, 2) := by decide +kernel
theorem dX4_drop_35 : decode cX4_drop 35 = .ok (.iaload, 1) := by decide +kernel
theorem dX4_drop_36 : decode cX4_drop 36 = .ok (.istore 5, 2) := by decide +kernel
theorem dX4_drop_38 : decode cX4_drop 38 = .ok (.aload_n 0, 1) := by decide +kernel
theorem dX4_drop_39 : decode cX4_drop 39 = .ok (.dup, 1) := by decide +kernel
theorem dX4_drop_40 : decode cX4_drop 40 = .ok (.getfield 113, 3) := by decide +kernel
theorem dX4_drop_43 : decode cX4_drop 43 = .ok (.iconst 1, 1) := by decide +kernel
theorem dX4_drop_44 : decode cX4_drop 44 = .ok (.isub, 1) := by decide +kernel
theorem dX4_drop_45 : decode cX4_drop 45 = .ok (.putfield 113, 3) := by decide +kernel
theorem dX4_drop_48 : decode cX4_drop 48 = .ok (.iload 4, 2) := by decide +kernel
theorem dX4_drop_50 : decode cX4_drop 50 = .ok (.istore 6, 2) := by decide +kernel
theorem dX4_drop_52 : decode cX4_drop 52 = .ok (.iload 6, 2) := by decide +kernel
theorem dX4_drop_54 : decode cX4_drop 54 = .ok (.aload_n 0, 1) := by decide +kernel
theorem dX4_drop_55 : decode cX4_drop 55 = .ok (.getfield 113, 3) := by decide +kernel
theorem dX4_drop_58 : decode cX4_drop 58 = .ok (.if_icmp .ge 73, 3) := by decide +kernel
theorem dX4_drop_61 : decode cX4_drop 61 = .ok (.aload_n 0, 1) := by decide +kernel
theorem dX4_drop_62 : decode cX4_drop 62 = .ok (.getfield 64, 3) := by decide +kernel
theorem dX4_drop_65 : decode cX4_drop 65 = .ok (.iload 6, 2) := by decide +kernel
theorem dX4_drop_67 : decode cX4_drop 67 = .ok (.aload_n 0, 1) := by decide +kernel
theorem dX4_drop_68 : decode cX4_drop 68 = .ok (.getfield 64, 3) := by decide +kernel
theorem dX4_drop_71 : decode cX4_drop 71 = .ok (.iload 6, 2) := by decide +kernel
theorem dX4_drop_73 : decode cX4_drop 73 = .ok (.iconst 1, 1) := by decide +kernel
theorem dX4_drop_74 : decode cX4_drop 74 = .ok (.iadd, 1) := by decide +kernel
theorem dX4_drop_75 : decode cX4_drop 75 = .ok (.iaload, 1) := by decide +kernel
theorem dX4_drop_76 : decode cX4_drop 76 = .ok (.iastore, 1) := by decide +kernel
theorem dX4_drop_77 : decode cX4_drop 77 = .ok (.aload_n 0, 1) := by decide +kernel
theorem dX4_drop_78 : decode cX4_drop 78 = .ok (.getfield 67, 3) := by decide +kernel
theorem dX4_drop_81 : decode cX4_drop 81 = .ok (.iload 6, 2) := by decide +kernel
theorem dX4_drop_83 : decode cX4_drop 83 = .ok (.aload_n 0, 1) := by decide +kernel
theorem dX4_drop_84 : decode cX4_drop 84 = .ok (.getfield 67, 3) := by decide +kernel
theorem dX4_drop_87 : decode cX4_drop 87 = .ok (.iload 6, 2) := by decide +kernel
theorem dX4_drop_89 : decode cX4_drop 89 = .ok (.iconst 1, 1) := by decide +kernel
theorem dX4_drop_90 : decode cX4_drop 90 = .ok (.iadd, 1) := by decide +kernel
theorem dX4_drop_91 : decode cX4_drop 91 = .ok (.iaload, 1) := by decide +kernel
theorem dX4_drop_92 : decode cX4_drop 92 = .ok (.iastore, 1) := by decide +kernel
theorem dX4_drop_93 : decode cX4_drop 93 = .ok (.aload_n 0, 1) := by decide +kernel
theorem dX4_drop_94 : decode cX4_drop 94 = .ok (.getfield 70, 3) := by decide +kernel
theorem dX4_drop_97 : decode cX4_drop 97 = .ok (.iload 6, 2) := by decide +kernel
theorem dX4_drop_99 : decode cX4_drop 99 = .ok (.aload_n 0, 1) := by decide +kernel
theorem dX4_drop_100 : decode cX4_drop 100 = .ok (.getfield 70, 3) := by decide +kernel
theorem dX4_drop_103 : decode cX4_drop 103 = .ok (.iload 6, 2) := by decide +kernel
theorem dX4_drop_105 : decode cX4_drop 105 = .ok (.iconst 1, 1) := by decide +kernel
theorem dX4_drop_106 : decode cX4_drop 106 = .ok (.iadd, 1) := by decide +kernel
theorem dX4_drop_107 : decode cX4_drop 107 = .ok (.iaload, 1) := by decide +kernel
theorem dX4_drop_108 : decode cX4_drop 108 = .ok (.iastore, 1) := by decide +kernel
theorem dX4_drop_109 : decode cX4_drop 109 = .ok (.aload_n 0, 1) := by decide +kernel
theorem dX4_drop_110 : decode cX4_drop 110 = .ok (.getfield 73, 3) := by decide +kernel
theorem dX4_drop_113 : decode cX4_drop 113 = .ok (.iload 6, 2) := by decide +kernel
theorem dX4_drop_115 : decode cX4_drop 115 = .ok (.aload_n 0, 1) := by decide +kernel
theorem dX4_drop_116 : decode cX4_drop 116 = .ok (.getfield 73, 3) := by decide +kernel
theorem dX4_drop_119 : decode cX4_drop 119 = .ok (.iload 6, 2) := by decide +kernel
theorem dX4_drop_121 : decode cX4_drop 121 = .ok (.iconst 1, 1) := by decide +kernel
theorem dX4_drop_122 : decode cX4_drop 122 = .ok (.iadd, 1) := by decide +kernel
theorem dX4_drop_123 : decode cX4_drop 123 = .ok (.iaload, 1) := by decide +kernel
theorem dX4_drop_124 : decode cX4_drop 124 = .ok (.iastore, 1) := by decide +kernel
theorem dX4_drop_125 : decode cX4_drop 125 = .ok (.iinc 6 1, 3) := by decide +kernel
theorem dX4_drop_128 : decode cX4_drop 128 = .ok (.goto (-76), 3) := by decide +kernel
theorem dX4_drop_131 : decode cX4_drop 131 = .ok (.aload_n 0, 1) := by decide +kernel
theorem dX4_drop_132 : decode cX4_drop 132 = .ok (.invokevirtual 187, 3) := by decide +kernel
theorem dX4_drop_135 : decode cX4_drop 135 = .ok (.iload 5, 2) := by decide +kernel
theorem dX4_drop_137 : decode cX4_drop 137 = .ok (.ireturn, 1) := by decide +kernel
theorem dX4_reserved_0 : decode cX4_reserved 0 = .ok (.aload_n 0, 1) := by decide +kernel
theorem dX4_reserved_1 : decode cX4_reserved 1 = .ok (.aload_n 0, 1) := by decide +kernel
theorem dX4_reserved_2 : decode cX4_reserved 2 = .ok (.iload_n 1, 1) := by decide +kernel
theorem dX4_reserved_3 : decode cX4_reserved 3 = .ok (.invokevirtual 208, 3) := by decide +kernel
theorem dX4_reserved_6 : decode cX4_reserved 6 = .ok (.invokevirtual 184, 3) := by decide +kernel
theorem dX4_reserved_9 : decode cX4_reserved 9 = .ok (.ifCond .eq 11, 3) := by decide +kernel
theorem dX4_reserved_12 : decode cX4_reserved 12 = .ok (.aload_n 0, 1) := by decide +kernel
theorem dX4_reserved_13 : decode cX4_reserved 13 = .ok (.iload_n 1, 1) := by decide +kernel
theorem dX4_reserved_14 : decode cX4_reserved 14 = .ok (.invokevirtual 119, 3) := by decide +kernel
theorem dX4_reserved_17 : decode cX4_reserved 17 = .ok (.goto 4, 3) := by decide +kernel
theorem dX4_reserved_20 : decode cX4_reserved 20 = .ok (.iconst 0, 1) := by decide +kernel
theorem dX4_reserved_21 : decode cX4_reserved 21 = .ok (.ireturn, 1) := by decide +kernel
theorem dX4_running_0 : decode cX4_running 0 = .ok (.aload_n 0, 1) := by decide +kernel
theorem dX4_running_1 : decode cX4_running 1 = .ok (.aload_n 0, 1) := by decide +kernel
theorem dX4_running_2 : decode cX4_running 2 = .ok (.iload_n 1, 1) := by decide +kernel
theorem dX4_running_3 : decode cX4_running 3 = .ok (.invokevirtual 99, 3) := by decide +kernel
theorem dX4_running_6 : decode cX4_running 6 = .ok (.ifCond .eq 7, 3) := by decide +kernel
theorem dX4_running_9 : decode cX4_running 9 = .ok (.iconst 0, 1) := by decide +kernel
theorem dX4_running_10 : decode cX4_running 10 = .ok (.goto 4, 3) := by decide +kernel
theorem dX4_running_13 : decode cX4_running 13 = .ok (.iconst 1, 1) := by decide +kernel
theorem dX4_running_14 : decode cX4_running 14 = .ok (.invokevirtual 184, 3) := by decide +kernel
theorem dX4_running_17 : decode cX4_running 17 = .ok (.ifCond .eq 12, 3) := by decide +kernel
theorem dX4_running_20 : decode cX4_running 20 = .ok (.aload_n 0, 1) := by decide +kernel
theorem dX4_running_21 : decode cX4_running 21 = .ok (.getfield 37, 3) := by decide +kernel
theorem dX4_running_24 : decode cX4_running 24 = .ok (.iload_n 1, 1) := by decide +kernel
theorem dX4_running_25 : decode cX4_running 25 = .ok (.iaload, 1) := by decide +kernel
theorem dX4_running_26 : decode cX4_running 26 = .ok (.goto 4, 3) := by decide +kernel
theorem dX4_running_29 : decode cX4_running 29 = .ok (.iconst 0, 1) := by decide +kernel
theorem dX4_running_30 : decode cX4_running 30 = .ok (.ireturn, 1) := by decide +kernel
theorem dX4_demand_0 : decode cX4_demand 0 = .ok (.aload_n 0, 1) := by decide +kernel
theorem dX4_demand_1 : decode cX4_demand 1 = .ok (.aload_n 0, 1) := by decide +kernel
theorem dX4_demand_2 : decode cX4_demand 2 = .ok (.iload_n 1, 1) := by decide +kernel
theorem dX4_demand_3 : decode cX4_demand 3 = .ok (.invokevirtual 99, 3) := by decide +kernel
theorem dX4_demand_6 : decode cX4_demand 6 = .ok (.ifCond .eq 7, 3) := by decide +kernel
theorem dX4_demand_9 : decode cX4_demand 9 = .ok (.iconst 0, 1) := by decide +kernel
theorem dX4_demand_10 : decode cX4_demand 10 = .ok (.goto 4, 3) := by decide +kernel
theorem dX4_demand_13 : decode cX4_demand 13 = .ok (.iconst 1, 1) := by decide +kernel
theorem dX4_demand_14 : decode cX4_demand 14 = .ok (.invokevirtual 184, 3) := by decide +kernel
theorem dX4_demand_17 : decode cX4_demand 17 = .ok (.ifCond .eq 11, 3) := by decide +kernel
theorem dX4_demand_20 : decode cX4_demand 20 = .ok (.aload_n 0, 1) := by decide +kernel
theorem dX4_demand_21 : decode cX4_demand 21 = .ok (.iload_n 1, 1) := by decide +kernel
theorem dX4_demand_22 : decode cX4_demand 22 = .ok (.invokevirtual 106, 3) := by decide +kernel
theorem dX4_demand_25 : decode cX4_demand 25 = .ok (.goto 4, 3) := by decide +kernel
theorem dX4_demand_28 : decode cX4_demand 28 = .ok (.iconst 0, 1) := by decide +kernel
theorem dX4_demand_29 : decode cX4_demand 29 = .ok (.ireturn, 1) := by decide +kernel
theorem dX4_share_0 : decode cX4_share 0 = .ok (.aload_n 0, 1) := by decide +kernel
theorem dX4_share_1 : decode cX4_share 1 = .ok (.invokevirtual 177, 3) := by decide +kernel
theorem dX4_share_4 : decode cX4_share 4 = .ok (.aload_n 0, 1) := by decide +kernel
theorem dX4_share_5 : decode cX4_share 5 = .ok (.aload_n 0, 1) := by decide +kernel
theorem dX4_share_6 : decode cX4_share 6 = .ok (.iload_n 1, 1) := by decide +kernel
theorem dX4_share_7 : decode cX4_share 7 = .ok (.invokevirtual 99, 3) := by decide +kernel
theorem dX4_share_10 : decode cX4_share 10 = .ok (.ifCond .eq 7, 3) := by decide +kernel
theorem dX4_share_13 : decode cX4_share 13 = .ok (.iconst 0, 1) := by decide +kernel
theorem dX4_share_14 : decode cX4_share 14 = .ok (.goto 4, 3) := by decide +kernel
theorem dX4_share_17 : decode cX4_share 17 = .ok (.iconst 1, 1) := by decide +kernel
theorem dX4_share_18 : decode cX4_share 18 = .ok (.invokevirtual 184, 3) := by decide +kernel
theorem dX4_share_21 : decode cX4_share 21 = .ok (.ifCond .eq 12, 3) := by decide +kernel
theorem dX4_share_24 : decode cX4_share 24 = .ok (.aload_n 0, 1) := by decide +kernel
theorem dX4_share_25 : decode cX4_share 25 = .ok (.getfield 79, 3) := by decide +kernel
theorem dX4_share_28 : decode cX4_share 28 = .ok (.iload_n 1, 1) := by decide +kernel
theorem dX4_share_29 : decode cX4_share 29 = .ok (.iaload, 1) := by decide +kernel
theorem dX4_share_30 : decode cX4_share 30 = .ok (.goto 4, 3) := by decide +kernel
theorem dX4_share_33 : decode cX4_share 33 = .ok (.iconst 0, 1) := by decide +kernel
theorem dX4_share_34 : decode cX4_share 34 = .ok (.ireturn, 1) := by decide +kernel
theorem dX4_shareByLevels_0 : decode cX4_shareByLevels 0 = .ok (.aload_n 0, 1) := by decide +kernel
theorem dX4_shareByLevels_1 : decode cX4_shareByLevels 1 = .ok (.iload_n 1, 1) := by decide +kernel
theorem dX4_shareByLevels_2 : decode cX4_shareByLevels 2 = .ok (.invokevirtual 219, 3) := by decide +kernel
theorem dX4_shareByLevels_5 : decode cX4_shareByLevels 5 = .ok (.ireturn, 1) := by decide +kernel
theorem dX4_due_0 : decode cX4_due 0 = .ok (.aload_n 0, 1) := by decide +kernel
theorem dX4_due_1 : decode cX4_due 1 = .ok (.invokevirtual 177, 3) := by decide +kernel
theorem dX4_due_4 : decode cX4_due 4 = .ok (.aload_n 0, 1) := by decide +kernel
theorem dX4_due_5 : decode cX4_due 5 = .ok (.aload_n 0, 1) := by decide +kernel
theorem dX4_due_6 : decode cX4_due 6 = .ok (.iload_n 1, 1) := by decide +kernel
theorem dX4_due_7 : decode cX4_due 7 = .ok (.invokevirtual 208, 3) := by decide +kernel
theorem dX4_due_10 : decode cX4_due 10 = .ok (.invokevirtual 184, 3) := by decide +kernel
theorem dX4_due_13 : decode cX4_due 13 = .ok (.ifCond .eq 11, 3) := by decide +kernel
theorem dX4_due_16 : decode cX4_due 16 = .ok (.aload_n 0, 1) := by decide +kernel
theorem dX4_due_17 : decode cX4_due 17 = .ok (.iload_n 1, 1) := by decide +kernel
theorem dX4_due_18 : decode cX4_due 18 = .ok (.invokevirtual 148, 3) := by decide +kernel
theorem dX4_due_21 : decode cX4_due 21 = .ok (.goto 4, 3) := by decide +kernel
theorem dX4_due_24 : decode cX4_due 24 = .ok (.iconst 0, 1) := by decide +kernel
theorem dX4_due_25 : decode cX4_due 25 = .ok (.ireturn, 1) := by decide +kernel
theorem dX4_freeFor_0 : decode cX4_freeFor 0 = .ok (.aload_n 0, 1) := by decide +kernel
theorem dX4_freeFor_1 : decode cX4_freeFor 1 = .ok (.aload_n 0, 1) := by decide +kernel
theorem dX4_freeFor_2 : decode cX4_freeFor 2 = .ok (.iload_n 1, 1) := by decide +kernel
theorem dX4_freeFor_3 : decode cX4_freeFor 3 = .ok (.invokevirtual 208, 3) := by decide +kernel
theorem dX4_freeFor_6 : decode cX4_freeFor 6 = .ok (.invokevirtual 184, 3) := by decide +kernel
theorem dX4_freeFor_9 : decode cX4_freeFor 9 = .ok (.ifCond .eq 11, 3) := by decide +kernel
theorem dX4_freeFor_12 : decode cX4_freeFor 12 = .ok (.aload_n 0, 1) := by decide +kernel
theorem dX4_freeFor_13 : decode cX4_freeFor 13 = .ok (.iload_n 1, 1) := by decide +kernel
theorem dX4_freeFor_14 : decode cX4_freeFor 14 = .ok (.invokevirtual 145, 3) := by decide +kernel
theorem dX4_freeFor_17 : decode cX4_freeFor 17 = .ok (.goto 4, 3) := by decide +kernel
theorem dX4_freeFor_20 : decode cX4_freeFor 20 = .ok (.iconst 0, 1) := by decide +kernel
theorem dX4_freeFor_21 : decode cX4_freeFor 21 = .ok (.ireturn, 1) := by decide +kernel
theorem dX4_use_0 : decode cX4_use 0 = .ok (.aload_n 0, 1) := by decide +kernel
theorem dX4_use_1 : decode cX4_use 1 = .ok (.aload_n 0, 1) := by decide +kernel
theorem dX4_use_2 : decode cX4_use 2 = .ok (.iload_n 1, 1) := by decide +kernel
theorem dX4_use_3 : decode cX4_use 3 = .ok (.invokevirtual 208, 3) := by decide +kernel
theorem dX4_use_6 : decode cX4_use 6 = .ok (.invokevirtual 184, 3) := by decide +kernel
theorem dX4_use_9 : decode cX4_use 9 = .ok (.ifCond .eq 12, 3) := by decide +kernel
theorem dX4_use_12 : decode cX4_use 12 = .ok (.aload_n 0, 1) := by decide +kernel
theorem dX4_use_13 : decode cX4_use 13 = .ok (.getfield 29, 3) := by decide +kernel
theorem dX4_use_16 : decode cX4_use 16 = .ok (.iload_n 1, 1) := by decide +kernel
theorem dX4_use_17 : decode cX4_use 17 = .ok (.laload, 1) := by decide +kernel
theorem dX4_use_18 : decode cX4_use 18 = .ok (.goto 4, 3) := by decide +kernel
theorem dX4_use_21 : decode cX4_use 21 = .ok (.lconst 0, 1) := by decide +kernel
theorem dX4_use_22 : decode cX4_use 22 = .ok (.lreturn, 1) := by decide +kernel
theorem dX4_usedShare_0 : decode cX4_usedShare 0 = .ok (.aload_n 0, 1) := by decide +kernel
theorem dX4_usedShare_1 : decode cX4_usedShare 1 = .ok (.aload_n 0, 1) := by decide +kernel
theorem dX4_usedShare_2 : decode cX4_usedShare 2 = .ok (.getfield 7, 3) := by decide +kernel
theorem dX4_usedShare_5 : decode cX4_usedShare 5 = .ok (.ifCond .ne 7, 3) := by decide +kernel
theorem dX4_usedShare_8 : decode cX4_usedShare 8 = .ok (.iconst 1, 1) := by decide +kernel
theorem dX4_usedShare_9 : decode cX4_usedShare 9 = .ok (.goto 4, 3) := by decide +kernel
theorem dX4_usedShare_12 : decode cX4_usedShare 12 = .ok (.iconst 0, 1) := by decide +kernel
theorem dX4_usedShare_13 : decode cX4_usedShare 13 = .ok (.invokevirtual 184, 3) := by decide +kernel
theorem dX4_usedShare_16 : decode cX4_usedShare 16 = .ok (.ifCond .eq 19, 3) := by decide +kernel
theorem dX4_usedShare_19 : decode cX4_usedShare 19 = .ok (.aload_n 0, 1) := by decide +kernel
theorem dX4_usedShare_20 : decode cX4_usedShare 20 = .ok (.getfield 37, 3) := by decide +kernel
theorem dX4_usedShare_23 : decode cX4_usedShare 23 = .ok (.iconst 0, 1) := by decide +kernel
theorem dX4_usedShare_24 : decode cX4_usedShare 24 = .ok (.iaload, 1) := by decide +kernel
theorem dX4_usedShare_25 : decode cX4_usedShare 25 = .ok (.i2f, 1) := by decide +kernel
theorem dX4_usedShare_26 : decode cX4_usedShare 26 = .ok (.aload_n 0, 1) := by decide +kernel
theorem dX4_usedShare_27 : decode cX4_usedShare 27 = .ok (.getfield 7, 3) := by decide +kernel
theorem dX4_usedShare_30 : decode cX4_usedShare 30 = .ok (.i2f, 1) := by decide +kernel
theorem dX4_usedShare_31 : decode cX4_usedShare 31 = .ok (.fdiv, 1) := by decide +kernel
theorem dX4_usedShare_32 : decode cX4_usedShare 32 = .ok (.goto 4, 3) := by decide +kernel
theorem dX4_usedShare_35 : decode cX4_usedShare 35 = .ok (.fconst 0, 1) := by decide +kernel
theorem dX4_usedShare_36 : decode cX4_usedShare 36 = .ok (.freturn, 1) := by decide +kernel
theorem dX4_meanStops_0 : decode cX4_meanStops 0 = .ok (.iconst 0, 1) := by decide +kernel
theorem dX4_meanStops_1 : decode cX4_meanStops 1 = .ok (.istore_n 1, 1) := by decide +kernel
theorem dX4_meanStops_2 : decode cX4_meanStops 2 = .ok (.iconst 0, 1) := by decide +kernel
theorem dX4_meanStops_3 : decode cX4_meanStops 3 = .ok (.istore_n 2, 1) := by decide +kernel
theorem dX4_meanStops_4 : decode cX4_meanStops 4 = .ok (.iconst 0, 1) := by decide +kernel
theorem dX4_meanStops_5 : decode cX4_meanStops 5 = .ok (.istore_n 3, 1) := by decide +kernel
theorem dX4_meanStops_6 : decode cX4_meanStops 6 = .ok (.iload_n 3, 1) := by decide +kernel
theorem dX4_meanStops_7 : decode cX4_meanStops 7 = .ok (.aload_n 0, 1) := by decide +kernel
theorem dX4_meanStops_8 : decode cX4_meanStops 8 = .ok (.getfield 122, 3) := by decide +kernel
theorem dX4_meanStops_11 : decode cX4_meanStops 11 = .ok (.if_icmp .ge 50, 3) := by decide +kernel
theorem dX4_meanStops_14 : decode cX4_meanStops 14 = .ok (.iload_n 1, 1) := by decide +kernel
theorem dX4_meanStops_15 : decode cX4_meanStops 15 = .ok (.aload_n 0, 1) := by decide +kernel
theorem dX4_meanStops_16 : decode cX4_meanStops 16 = .ok (.getfield 55, 3) := by decide +kernel
theorem dX4_meanStops_19 : decode cX4_meanStops 19 = .ok (.iload_n 3, 1) := by decide +kernel
theorem dX4_meanStops_20 : decode cX4_meanStops 20 = .ok (.iaload, 1) := by decide +kernel
theorem dX4_meanStops_21 : decode cX4_meanStops 21 = .ok (.iconst 2, 1) := by decide +kernel
theorem dX4_meanStops_22 : decode cX4_meanStops 22 = .ok (.if_icmp .ne 12, 3) := by decide +kernel
theorem dX4_meanStops_25 : decode cX4_meanStops 25 = .ok (.aload_n 0, 1) := by decide +kernel
theorem dX4_meanStops_26 : decode cX4_meanStops 26 = .ok (.getfield 58, 3) := by decide +kernel
theorem dX4_meanStops_29 : decode cX4_meanStops 29 = .ok (.iload_n 3, 1) := by decide +kernel
theorem dX4_meanStops_30 : decode cX4_meanStops 30 = .ok (.iaload, 1) := by decide +kernel
theorem dX4_meanStops_31 : decode cX4_meanStops 31 = .ok (.goto 4, 3) := by decide +kernel
theorem dX4_meanStops_34 : decode cX4_meanStops 34 = .ok (.iconst 0, 1) := by decide +kernel
theorem dX4_meanStops_35 : decode cX4_meanStops 35 = .ok (.iadd, 1) := by decide +kernel
theorem dX4_meanStops_36 : decode cX4_meanStops 36 = .ok (.istore_n 1, 1) := by decide +kernel
theorem dX4_meanStops_37 : decode cX4_meanStops 37 = .ok (.iload_n 2, 1) := by decide +kernel
theorem dX4_meanStops_38 : decode cX4_meanStops 38 = .ok (.aload_n 0, 1) := by decide +kernel
theorem dX4_meanStops_39 : decode cX4_meanStops 39 = .ok (.getfield 55, 3) := by decide +kernel
theorem dX4_meanStops_42 : decode cX4_meanStops 42 = .ok (.iload_n 3, 1) := by decide +kernel
theorem dX4_meanStops_43 : decode cX4_meanStops 43 = .ok (.iaload, 1) := by decide +kernel
theorem dX4_meanStops_44 : decode cX4_meanStops 44 = .ok (.iconst 2, 1) := by decide +kernel
theorem dX4_meanStops_45 : decode cX4_meanStops 45 = .ok (.if_icmp .ne 7, 3) := by decide +kernel
theorem dX4_meanStops_48 : decode cX4_meanStops 48 = .ok (.iconst 1, 1) := by decide +kernel
theorem dX4_meanStops_49 : decode cX4_meanStops 49 = .ok (.goto 4, 3) := by decide +kernel
theorem dX4_meanStops_52 : decode cX4_meanStops 52 = .ok (.iconst 0, 1) := by decide +kernel
theorem dX4_meanStops_53 : decode cX4_meanStops 53 = .ok (.iadd, 1) := by decide +kernel
theorem dX4_meanStops_54 : decode cX4_meanStops 54 = .ok (.istore_n 2, 1) := by decide +kernel
theorem dX4_meanStops_55 : decode cX4_meanStops 55 = .ok (.iinc 3 1, 3) := by decide +kernel
theorem dX4_meanStops_58 : decode cX4_meanStops 58 = .ok (.goto (-52), 3) := by decide +kernel
theorem dX4_meanStops_61 : decode cX4_meanStops 61 = .ok (.aload_n 0, 1) := by decide +kernel
theorem dX4_meanStops_62 : decode cX4_meanStops 62 = .ok (.iload_n 2, 1) := by decide +kernel
theorem dX4_meanStops_63 : decode cX4_meanStops 63 = .ok (.ifCond .ne 7, 3) := by decide +kernel
theorem dX4_meanStops_66 : decode cX4_meanStops 66 = .ok (.iconst 1, 1) := by decide +kernel
theorem dX4_meanStops_67 : decode cX4_meanStops 67 = .ok (.goto 4, 3) := by decide +kernel
theorem dX4_meanStops_70 : decode cX4_meanStops 70 = .ok (.iconst 0, 1) := by decide +kernel
theorem dX4_meanStops_71 : decode cX4_meanStops 71 = .ok (.invokevirtual 184, 3) := by decide +kernel
theorem dX4_meanStops_74 : decode cX4_meanStops 74 = .ok (.ifCond .eq 11, 3) := by decide +kernel
theorem dX4_meanStops_77 : decode cX4_meanStops 77 = .ok (.iload_n 1, 1) := by decide +kernel
theorem dX4_meanStops_78 : decode cX4_meanStops 78 = .ok (.i2d, 1) := by decide +kernel
theorem dX4_meanStops_79 : decode cX4_meanStops 79 = .ok (.iload_n 2, 1) := by decide +kernel
theorem dX4_meanStops_80 : decode cX4_meanStops 80 = .ok (.i2d, 1) := by decide +kernel
theorem dX4_meanStops_81 : decode cX4_meanStops 81 = .ok (.ddiv, 1) := by decide +kernel
theorem dX4_meanStops_82 : decode cX4_meanStops 82 = .ok (.goto 4, 3) := by decide +kernel
theorem dX4_meanStops_85 : decode cX4_meanStops 85 = .ok (.dconst 0, 1) := by decide +kernel
theorem dX4_meanStops_86 : decode cX4_meanStops 86 = .ok (.dreturn, 1) := by decide +kernel
theorem dX4_sharesBelow_0 : decode cX4_sharesBelow 0 = .ok (.iconst 0, 1) := by decide +kernel
theorem dX4_sharesBelow_1 : decode cX4_sharesBelow 1 = .ok (.istore_n 2, 1) := by decide +kernel
theorem dX4_sharesBelow_2 : decode cX4_sharesBelow 2 = .ok (.iconst 1, 1) := by decide +kernel
theorem dX4_sharesBelow_3 : decode cX4_sharesBelow 3 = .ok (.istore_n 3, 1) := by decide +kernel
theorem dX4_sharesBelow_4 : decode cX4_sharesBelow 4 = .ok (.iload_n 3, 1) := by decide +kernel
theorem dX4_sharesBelow_5 : decode cX4_sharesBelow 5 = .ok (.aload_n 0, 1) := by decide +kernel
theorem dX4_sharesBelow_6 : decode cX4_sharesBelow 6 = .ok (.getfield 16, 3) := by decide +kernel
theorem dX4_sharesBelow_9 : decode cX4_sharesBelow 9 = .ok (.if_icmp .ge 32, 3) := by decide +kernel
theorem dX4_sharesBelow_12 : decode cX4_sharesBelow 12 = .ok (.iload_n 2, 1) := by decide +kernel
theorem dX4_sharesBelow_13 : decode cX4_sharesBelow 13 = .ok (.aload_n 0, 1) := by decide +kernel
theorem dX4_sharesBelow_14 : decode cX4_sharesBelow 14 = .ok (.getfield 19, 3) := by decide +kernel
theorem dX4_sharesBelow_17 : decode cX4_sharesBelow 17 = .ok (.iload_n 3, 1) := by decide +kernel
theorem dX4_sharesBelow_18 : decode cX4_sharesBelow 18 = .ok (.iaload, 1) := by decide +kernel
theorem dX4_sharesBelow_19 : decode cX4_sharesBelow 19 = .ok (.iload_n 1, 1) := by decide +kernel
theorem dX4_sharesBelow_20 : decode cX4_sharesBelow 20 = .ok (.if_icmp .ne 12, 3) := by decide +kernel
theorem dX4_sharesBelow_23 : decode cX4_sharesBelow 23 = .ok (.aload_n 0, 1) := by decide +kernel
theorem dX4_sharesBelow_24 : decode cX4_sharesBelow 24 = .ok (.getfield 79, 3) := by decide +kernel
theorem dX4_sharesBelow_27 : decode cX4_sharesBelow 27 = .ok (.iload_n 3, 1) := by decide +kernel
theorem dX4_sharesBelow_28 : decode cX4_sharesBelow 28 = .ok (.iaload, 1) := by decide +kernel
theorem dX4_sharesBelow_29 : decode cX4_sharesBelow 29 = .ok (.goto 4, 3) := by decide +kernel
theorem dX4_sharesBelow_32 : decode cX4_sharesBelow 32 = .ok (.iconst 0, 1) := by decide +kernel
theorem dX4_sharesBelow_33 : decode cX4_sharesBelow 33 = .ok (.iadd, 1) := by decide +kernel
theorem dX4_sharesBelow_34 : decode cX4_sharesBelow 34 = .ok (.istore_n 2, 1) := by decide +kernel
theorem dX4_sharesBelow_35 : decode cX4_sharesBelow 35 = .ok (.iinc 3 1, 3) := by decide +kernel
theorem dX4_sharesBelow_38 : decode cX4_sharesBelow 38 = .ok (.goto (-34), 3) := by decide +kernel
theorem dX4_sharesBelow_41 : decode cX4_sharesBelow 41 = .ok (.iload_n 2, 1) := by decide +kernel
theorem dX4_sharesBelow_42 : decode cX4_sharesBelow 42 = .ok (.ireturn, 1) := by decide +kernel
theorem dX4_isFair_0 : decode cX4_isFair 0 = .ok (.aload_n 0, 1) := by decide +kernel
theorem dX4_isFair_1 : decode cX4_isFair 1 = .ok (.iconst 0, 1) := by decide +kernel
theorem dX4_isFair_2 : decode cX4_isFair 2 = .ok (.putfield 88, 3) := by decide +kernel
theorem dX4_isFair_5 : decode cX4_isFair 5 = .ok (.aload_n 0, 1) := by decide +kernel
theorem dX4_isFair_6 : decode cX4_isFair 6 = .ok (.iconst 0, 1) := by decide +kernel
theorem dX4_isFair_7 : decode cX4_isFair 7 = .ok (.putfield 151, 3) := by decide +kernel
theorem dX4_isFair_10 : decode cX4_isFair 10 = .ok (.aload_n 0, 1) := by decide +kernel
theorem dX4_isFair_11 : decode cX4_isFair 11 = .ok (.invokevirtual 177, 3) := by decide +kernel
theorem dX4_isFair_14 : decode cX4_isFair 14 = .ok (.aload_n 0, 1) := by decide +kernel
theorem dX4_isFair_15 : decode cX4_isFair 15 = .ok (.invokevirtual 166, 3) := by decide +kernel
theorem dX4_isFair_18 : decode cX4_isFair 18 = .ok (.aload_n 0, 1) := by decide +kernel
theorem dX4_isFair_19 : decode cX4_isFair 19 = .ok (.getfield 37, 3) := by decide +kernel
theorem dX4_isFair_22 : decode cX4_isFair 22 = .ok (.iconst 0, 1) := by decide +kernel
theorem dX4_isFair_23 : decode cX4_isFair 23 = .ok (.iaload, 1) := by decide +kernel
theorem dX4_isFair_24 : decode cX4_isFair 24 = .ok (.aload_n 0, 1) := by decide +kernel
theorem dX4_isFair_25 : decode cX4_isFair 25 = .ok (.getfield 7, 3) := by decide +kernel
theorem dX4_isFair_28 : decode cX4_isFair 28 = .ok (.if_icmp .gt 7, 3) := by decide +kernel
theorem dX4_isFair_31 : decode cX4_isFair 31 = .ok (.iconst 1, 1) := by decide +kernel
theorem dX4_isFair_32 : decode cX4_isFair 32 = .ok (.goto 4, 3) := by decide +kernel
theorem dX4_isFair_35 : decode cX4_isFair 35 = .ok (.iconst 0, 1) := by decide +kernel
theorem dX4_isFair_36 : decode cX4_isFair 36 = .ok (.istore_n 1, 1) := by decide +kernel
theorem dX4_isFair_37 : decode cX4_isFair 37 = .ok (.iconst 0, 1) := by decide +kernel
theorem dX4_isFair_38 : decode cX4_isFair 38 = .ok (.istore_n 2, 1) := by decide +kernel
theorem dX4_isFair_39 : decode cX4_isFair 39 = .ok (.iload_n 2, 1) := by decide +kernel
theorem dX4_isFair_40 : decode cX4_isFair 40 = .ok (.aload_n 0, 1) := by decide +kernel
theorem dX4_isFair_41 : decode cX4_isFair 41 = .ok (.getfield 125, 3) := by decide +kernel
theorem dX4_isFair_44 : decode cX4_isFair 44 = .ok (.if_icmp .ge 62, 3) := by decide +kernel
theorem dX4_isFair_47 : decode cX4_isFair 47 = .ok (.aload_n 0, 1) := by decide +kernel
theorem dX4_isFair_48 : decode cX4_isFair 48 = .ok (.aload_n 0, 1) := by decide +kernel
theorem dX4_isFair_49 : decode cX4_isFair 49 = .ok (.getfield 82, 3) := by decide +kernel
theorem dX4_isFair_52 : decode cX4_isFair 52 = .ok (.iload_n 2, 1) := by decide +kernel
theorem dX4_isFair_53 : decode cX4_isFair 53 = .ok (.iaload, 1) := by decide +kernel
theorem dX4_isFair_54 : decode cX4_isFair 54 = .ok (.invokevirtual 128, 3) := by decide +kernel
theorem dX4_isFair_57 : decode cX4_isFair 57 = .ok (.istore_n 3, 1) := by decide +kernel
theorem dX4_isFair_58 : decode cX4_isFair 58 = .ok (.aload_n 0, 1) := by decide +kernel
theorem dX4_isFair_59 : decode cX4_isFair 59 = .ok (.iload_n 3, 1) := by decide +kernel
theorem dX4_isFair_60 : decode cX4_isFair 60 = .ok (.invokevirtual 169, 3) := by decide +kernel
theorem dX4_isFair_63 : decode cX4_isFair 63 = .ok (.ifCond .ne 11, 3) := by decide +kernel
theorem dX4_isFair_66 : decode cX4_isFair 66 = .ok (.aload_n 0, 1) := by decide +kernel
theorem dX4_isFair_67 : decode cX4_isFair 67 = .ok (.iload_n 3, 1) := by decide +kernel
theorem dX4_isFair_68 : decode cX4_isFair 68 = .ok (.invokevirtual 172, 3) := by decide +kernel
theorem dX4_isFair_71 : decode cX4_isFair 71 = .ok (.ifCond .eq 7, 3) := by decide +kernel
theorem dX4_isFair_74 : decode cX4_isFair 74 = .ok (.iconst 1, 1) := by decide +kernel
theorem dX4_isFair_75 : decode cX4_isFair 75 = .ok (.goto 4, 3) := by decide +kernel
theorem dX4_isFair_78 : decode cX4_isFair 78 = .ok (.iconst 0, 1) := by decide +kernel
theorem dX4_isFair_79 : decode cX4_isFair 79 = .ok (.istore 4, 2) := by decide +kernel
theorem dX4_isFair_81 : decode cX4_isFair 81 = .ok (.aload_n 0, 1) := by decide +kernel
theorem dX4_isFair_82 : decode cX4_isFair 82 = .ok (.invokevirtual 157, 3) := by decide +kernel
theorem dX4_isFair_85 : decode cX4_isFair 85 = .ok (.iload_n 1, 1) := by decide +kernel
theorem dX4_isFair_86 : decode cX4_isFair 86 = .ok (.ifCond .eq 12, 3) := by decide +kernel
theorem dX4_isFair_89 : decode cX4_isFair 89 = .ok (.iload 4, 2) := by decide +kernel
theorem dX4_isFair_91 : decode cX4_isFair 91 = .ok (.ifCond .ne 7, 3) := by decide +kernel
theorem dX4_isFair_94 : decode cX4_isFair 94 = .ok (.iconst 1, 1) := by decide +kernel
theorem dX4_isFair_95 : decode cX4_isFair 95 = .ok (.goto 4, 3) := by decide +kernel
theorem dX4_isFair_98 : decode cX4_isFair 98 = .ok (.iconst 0, 1) := by decide +kernel
theorem dX4_isFair_99 : decode cX4_isFair 99 = .ok (.istore_n 1, 1) := by decide +kernel
theorem dX4_isFair_100 : decode cX4_isFair 100 = .ok (.iinc 2 1, 3) := by decide +kernel
theorem dX4_isFair_103 : decode cX4_isFair 103 = .ok (.goto (-64), 3) := by decide +kernel
theorem dX4_isFair_106 : decode cX4_isFair 106 = .ok (.iconst 0, 1) := by decide +kernel
theorem dX4_isFair_107 : decode cX4_isFair 107 = .ok (.istore_n 2, 1) := by decide +kernel
theorem dX4_isFair_108 : decode cX4_isFair 108 = .ok (.iload_n 2, 1) := by decide +kernel
theorem dX4_isFair_109 : decode cX4_isFair 109 = .ok (.aload_n 0, 1) := by decide +kernel
theorem dX4_isFair_110 : decode cX4_isFair 110 = .ok (.getfield 16, 3) := by decide +kernel
theorem dX4_isFair_113 : decode cX4_isFair 113 = .ok (.if_icmp .ge 33, 3) := by decide +kernel
theorem dX4_isFair_116 : decode cX4_isFair 116 = .ok (.iload_n 1, 1) := by decide +kernel
theorem dX4_isFair_117 : decode cX4_isFair 117 = .ok (.ifCond .eq 21, 3) := by decide +kernel
theorem dX4_isFair_120 : decode cX4_isFair 120 = .ok (.aload_n 0, 1) := by decide +kernel
theorem dX4_isFair_121 : decode cX4_isFair 121 = .ok (.iload_n 2, 1) := by decide +kernel
theorem dX4_isFair_122 : decode cX4_isFair 122 = .ok (.invokevirtual 222, 3) := by decide +kernel
theorem dX4_isFair_125 : decode cX4_isFair 125 = .ok (.aload_n 0, 1) := by decide +kernel
theorem dX4_isFair_126 : decode cX4_isFair 126 = .ok (.getfield 79, 3) := by decide +kernel
theorem dX4_isFair_129 : decode cX4_isFair 129 = .ok (.iload_n 2, 1) := by decide +kernel
theorem dX4_isFair_130 : decode cX4_isFair 130 = .ok (.iaload, 1) := by decide +kernel
theorem dX4_isFair_131 : decode cX4_isFair 131 = .ok (.if_icmp .gt 7, 3) := by decide +kernel
theorem dX4_isFair_134 : decode cX4_isFair 134 = .ok (.iconst 1, 1) := by decide +kernel
theorem dX4_isFair_135 : decode cX4_isFair 135 = .ok (.goto 4, 3) := by decide +kernel
theorem dX4_isFair_138 : decode cX4_isFair 138 = .ok (.iconst 0, 1) := by decide +kernel
theorem dX4_isFair_139 : decode cX4_isFair 139 = .ok (.istore_n 1, 1) := by decide +kernel
theorem dX4_isFair_140 : decode cX4_isFair 140 = .ok (.iinc 2 1, 3) := by decide +kernel
theorem dX4_isFair_143 : decode cX4_isFair 143 = .ok (.goto (-35), 3) := by decide +kernel
theorem dX4_isFair_146 : decode cX4_isFair 146 = .ok (.iload_n 1, 1) := by decide +kernel
theorem dX4_isFair_147 : decode cX4_isFair 147 = .ok (.ireturn, 1) := by decide +kernel
theorem dJ9_max_7cf53_0 : decode cJ9_max_7cf53 0 = .ok (.iload_n 0, 1) := by decide +kernel
theorem dJ9_max_7cf53_1 : decode cJ9_max_7cf53 1 = .ok (.iload_n 1, 1) := by decide +kernel
theorem dJ9_max_7cf53_2 : decode cJ9_max_7cf53 2 = .ok (.if_icmp .lt 7, 3) := by decide +kernel
theorem dJ9_max_7cf53_5 : decode cJ9_max_7cf53 5 = .ok (.iload_n 0, 1) := by decide +kernel
theorem dJ9_max_7cf53_6 : decode cJ9_max_7cf53 6 = .ok (.goto 4, 3) := by decide +kernel
theorem dJ9_max_7cf53_9 : decode cJ9_max_7cf53 9 = .ok (.iload_n 1, 1) := by decide +kernel
theorem dJ9_max_7cf53_10 : decode cJ9_max_7cf53 10 = .ok (.ireturn, 1) := by decide +kernel
theorem dJ9_min_7cf53_0 : decode cJ9_min_7cf53 0 = .ok (.iload_n 0, 1) := by decide +kernel
theorem dJ9_min_7cf53_1 : decode cJ9_min_7cf53 1 = .ok (.iload_n 1, 1) := by decide +kernel
theorem dJ9_min_7cf53_2 : decode cJ9_min_7cf53 2 = .ok (.if_icmp .gt 7, 3) := by decide +kernel
theorem dJ9_min_7cf53_5 : decode cJ9_min_7cf53 5 = .ok (.iload_n 0, 1) := by decide +kernel
theorem dJ9_min_7cf53_6 : decode cJ9_min_7cf53 6 = .ok (.goto 4, 3) := by decide +kernel
theorem dJ9_min_7cf53_9 : decode cJ9_min_7cf53 9 = .ok (.iload_n 1, 1) := by decide +kernel
theorem dJ9_min_7cf53_10 : decode cJ9_min_7cf53 10 = .ok (.ireturn, 1) := by decide +kernel
theorem dJxa1e45_init_da8c8_0 : decode cJxa1e45_init_da8c8 0 = .ok (.aload_n 0, 1) := by decide +kernel
theorem dJxa1e45_init_da8c8_1 : decode cJxa1e45_init_da8c8 1 = .ok (.invokespecial 1, 3) := by decide +kernel
theorem dJxa1e45_init_da8c8_4 : decode cJxa1e45_init_da8c8 4 = .ok (.return_, 1) := by decide +kernel
theorem dJxc12de_init_da8c8_0 : decode cJxc12de_init_da8c8 0 = .ok (.aload_n 0, 1) := by decide +kernel
theorem dJxc12de_init_da8c8_1 : decode cJxc12de_init_da8c8 1 = .ok (.invokespecial 1, 3) := by decide +kernel
theorem dJxc12de_init_da8c8_4 : decode cJxc12de_init_da8c8 4 = .ok (.aload_n 0, 1) := by decide +kernel
theorem dJxc12de_init_da8c8_5 : decode cJxc12de_init_da8c8 5 = .ok (.iconst 0, 1) := by decide +kernel
theorem dJxc12de_init_da8c8_6 : decode cJxc12de_init_da8c8 6 = .ok (.putfield 7, 3) := by decide +kernel
theorem dJxc12de_init_da8c8_9 : decode cJxc12de_init_da8c8 9 = .ok (.return_, 1) := by decide +kernel
theorem dJx4a65c_init_da8c8_0 : decode cJx4a65c_init_da8c8 0 = .ok (.aload_n 0, 1) := by decide +kernel
theorem dJx4a65c_init_da8c8_1 : decode cJx4a65c_init_da8c8 1 = .ok (.invokespecial 1, 3) := by decide +kernel
theorem dJx4a65c_init_da8c8_4 : decode cJx4a65c_init_da8c8 4 = .ok (.aload_n 0, 1) := by decide +kernel
theorem dJx4a65c_init_da8c8_5 : decode cJx4a65c_init_da8c8 5 = .ok (.getstatic 39, 3) := by decide +kernel
theorem dJx4a65c_init_da8c8_8 : decode cJx4a65c_init_da8c8 8 = .ok (.putfield 9, 3) := by decide +kernel
theorem dJx4a65c_init_da8c8_11 : decode cJx4a65c_init_da8c8 11 = .ok (.return_, 1) := by decide +kernel
theorem dJx4a65c_grow_92f84_0 : decode cJx4a65c_grow_92f84 0 = .ok (.aload_n 0, 1) := by decide +kernel
theorem dJx4a65c_grow_92f84_1 : decode cJx4a65c_grow_92f84 1 = .ok (.getfield 9, 3) := by decide +kernel
theorem dJx4a65c_grow_92f84_4 : decode cJx4a65c_grow_92f84 4 = .ok (.arraylength, 1) := by decide +kernel
theorem dJx4a65c_grow_92f84_5 : decode cJx4a65c_grow_92f84 5 = .ok (.istore_n 2, 1) := by decide +kernel
theorem dJx4a65c_grow_92f84_6 : decode cJx4a65c_grow_92f84 6 = .ok (.iload_n 2, 1) := by decide +kernel
theorem dJx4a65c_grow_92f84_7 : decode cJx4a65c_grow_92f84 7 = .ok (.ifCond .gt 13, 3) := by decide +kernel
theorem dJx4a65c_grow_92f84_10 : decode cJx4a65c_grow_92f84 10 = .ok (.aload_n 0, 1) := by decide +kernel
theorem dJx4a65c_grow_92f84_11 : decode cJx4a65c_grow_92f84 11 = .ok (.getfield 9, 3) := by decide +kernel
theorem dJx4a65c_grow_92f84_14 : decode cJx4a65c_grow_92f84 14 = .ok (.getstatic 39, 3) := by decide +kernel
theorem dJx4a65c_grow_92f84_17 : decode cJx4a65c_grow_92f84 17 = .ok (.if_acmp .eq 28, 3) := by decide +kernel
theorem dJx4a65c_grow_92f84_20 : decode cJx4a65c_grow_92f84 20 = .ok (.iload_n 2, 1) := by decide +kernel
theorem dJx4a65c_grow_92f84_21 : decode cJx4a65c_grow_92f84 21 = .ok (.iload_n 1, 1) := by decide +kernel
theorem dJx4a65c_grow_92f84_22 : decode cJx4a65c_grow_92f84 22 = .ok (.iload_n 2, 1) := by decide +kernel
theorem dJx4a65c_grow_92f84_23 : decode cJx4a65c_grow_92f84 23 = .ok (.isub, 1) := by decide +kernel
theorem dJx4a65c_grow_92f84_24 : decode cJx4a65c_grow_92f84 24 = .ok (.iload_n 2, 1) := by decide +kernel
theorem dJx4a65c_grow_92f84_25 : decode cJx4a65c_grow_92f84 25 = .ok (.iconst 1, 1) := by decide +kernel
theorem dJx4a65c_grow_92f84_26 : decode cJx4a65c_grow_92f84 26 = .ok (.ishr, 1) := by decide +kernel
theorem dJx4a65c_grow_92f84_27 : decode cJx4a65c_grow_92f84 27 = .ok (.invokestatic 73, 3) := by decide +kernel
theorem dJx4a65c_grow_92f84_30 : decode cJx4a65c_grow_92f84 30 = .ok (.istore_n 3, 1) := by decide +kernel
theorem dJx4a65c_grow_92f84_31 : decode cJx4a65c_grow_92f84 31 = .ok (.aload_n 0, 1) := by decide +kernel
theorem dJx4a65c_grow_92f84_32 : decode cJx4a65c_grow_92f84 32 = .ok (.aload_n 0, 1) := by decide +kernel
theorem dJx4a65c_grow_92f84_33 : decode cJx4a65c_grow_92f84 33 = .ok (.getfield 9, 3) := by decide +kernel
theorem dJx4a65c_grow_92f84_36 : decode cJx4a65c_grow_92f84 36 = .ok (.iload_n 3, 1) := by decide +kernel
theorem dJx4a65c_grow_92f84_37 : decode cJx4a65c_grow_92f84 37 = .ok (.invokestatic 66, 3) := by decide +kernel
theorem dJx4a65c_grow_92f84_40 : decode cJx4a65c_grow_92f84 40 = .ok (.dup_x1, 1) := by decide +kernel
theorem dJx4a65c_grow_92f84_41 : decode cJx4a65c_grow_92f84 41 = .ok (.putfield 9, 3) := by decide +kernel
theorem dJx4a65c_grow_92f84_44 : decode cJx4a65c_grow_92f84 44 = .ok (.areturn, 1) := by decide +kernel
theorem dJx4a65c_grow_92f84_45 : decode cJx4a65c_grow_92f84 45 = .ok (.aload_n 0, 1) := by decide +kernel
theorem dJx4a65c_grow_92f84_46 : decode cJx4a65c_grow_92f84 46 = .ok (.bipush 10, 2) := by decide +kernel
theorem dJx4a65c_grow_92f84_48 : decode cJx4a65c_grow_92f84 48 = .ok (.iload_n 1, 1) := by decide +kernel
theorem dJx4a65c_grow_92f84_49 : decode cJx4a65c_grow_92f84 49 = .ok (.invokestatic 79, 3) := by decide +kernel
theorem dJx4a65c_grow_92f84_52 : decode cJx4a65c_grow_92f84 52 = .ok (.anewarray 7, 3) := by decide +kernel
theorem dJx4a65c_grow_92f84_55 : decode cJx4a65c_grow_92f84 55 = .ok (.dup_x1, 1) := by decide +kernel
theorem dJx4a65c_grow_92f84_56 : decode cJx4a65c_grow_92f84 56 = .ok (.putfield 9, 3) := by decide +kernel
theorem dJx4a65c_grow_92f84_59 : decode cJx4a65c_grow_92f84 59 = .ok (.areturn, 1) := by decide +kernel
theorem dJx4a65c_grow_d5877_0 : decode cJx4a65c_grow_d5877 0 = .ok (.aload_n 0, 1) := by decide +kernel
theorem dJx4a65c_grow_d5877_1 : decode cJx4a65c_grow_d5877 1 = .ok (.aload_n 0, 1) := by decide +kernel
theorem dJx4a65c_grow_d5877_2 : decode cJx4a65c_grow_d5877 2 = .ok (.getfield 48, 3) := by decide +kernel
theorem dJx4a65c_grow_d5877_5 : decode cJx4a65c_grow_d5877 5 = .ok (.iconst 1, 1) := by decide +kernel
theorem dJx4a65c_grow_d5877_6 : decode cJx4a65c_grow_d5877 6 = .ok (.iadd, 1) := by decide +kernel
theorem dJx4a65c_grow_d5877_7 : decode cJx4a65c_grow_d5877 7 = .ok (.invokevirtual 69, 3) := by decide +kernel
theorem dJx4a65c_grow_d5877_10 : decode cJx4a65c_grow_d5877 10 = .ok (.areturn, 1) := by decide +kernel
theorem dJx4a65c_size_8abf5_0 : decode cJx4a65c_size_8abf5 0 = .ok (.aload_n 0, 1) := by decide +kernel
theorem dJx4a65c_size_8abf5_1 : decode cJx4a65c_size_8abf5 1 = .ok (.getfield 48, 3) := by decide +kernel
theorem dJx4a65c_size_8abf5_4 : decode cJx4a65c_size_8abf5 4 = .ok (.ireturn, 1) := by decide +kernel
theorem dJx4a65c_isEmpty_aae02_0 : decode cJx4a65c_isEmpty_aae02 0 = .ok (.aload_n 0, 1) := by decide +kernel
theorem dJx4a65c_isEmpty_aae02_1 : decode cJx4a65c_isEmpty_aae02 1 = .ok (.getfield 48, 3) := by decide +kernel
theorem dJx4a65c_isEmpty_aae02_4 : decode cJx4a65c_isEmpty_aae02 4 = .ok (.ifCond .ne 7, 3) := by decide +kernel
theorem dJx4a65c_isEmpty_aae02_7 : decode cJx4a65c_isEmpty_aae02 7 = .ok (.iconst 1, 1) := by decide +kernel
theorem dJx4a65c_isEmpty_aae02_8 : decode cJx4a65c_isEmpty_aae02 8 = .ok (.goto 4, 3) := by decide +kernel
theorem dJx4a65c_isEmpty_aae02_11 : decode cJx4a65c_isEmpty_aae02 11 = .ok (.iconst 0, 1) := by decide +kernel
theorem dJx4a65c_isEmpty_aae02_12 : decode cJx4a65c_isEmpty_aae02 12 = .ok (.ireturn, 1) := by decide +kernel
theorem dJx4a65c_elementData_915e3_0 : decode cJx4a65c_elementData_915e3 0 = .ok (.aload_n 0, 1) := by decide +kernel
theorem dJx4a65c_elementData_915e3_1 : decode cJx4a65c_elementData_915e3 1 = .ok (.getfield 9, 3) := by decide +kernel
theorem dJx4a65c_elementData_915e3_4 : decode cJx4a65c_elementData_915e3 4 = .ok (.iload_n 1, 1) := by decide +kernel
theorem dJx4a65c_elementData_915e3_5 : decode cJx4a65c_elementData_915e3 5 = .ok (.aaload, 1) := by decide +kernel
theorem dJx4a65c_elementData_915e3_6 : decode cJx4a65c_elementData_915e3 6 = .ok (.areturn, 1) := by decide +kernel
theorem dJx4a65c_get_915e3_0 : decode cJx4a65c_get_915e3 0 = .ok (.iload_n 1, 1) := by decide +kernel
theorem dJx4a65c_get_915e3_1 : decode cJx4a65c_get_915e3 1 = .ok (.aload_n 0, 1) := by decide +kernel
theorem dJx4a65c_get_915e3_2 : decode cJx4a65c_get_915e3 2 = .ok (.getfield 48, 3) := by decide +kernel
theorem dJx4a65c_get_915e3_5 : decode cJx4a65c_get_915e3 5 = .ok (.invokestatic 118, 3) := by decide +kernel
theorem dJx4a65c_get_915e3_8 : decode cJx4a65c_get_915e3 8 = .ok (.pop, 1) := by decide +kernel
theorem dJx4a65c_get_915e3_9 : decode cJx4a65c_get_915e3 9 = .ok (.aload_n 0, 1) := by decide +kernel
theorem dJx4a65c_get_915e3_10 : decode cJx4a65c_get_915e3 10 = .ok (.iload_n 1, 1) := by decide +kernel
theorem dJx4a65c_get_915e3_11 : decode cJx4a65c_get_915e3 11 = .ok (.invokevirtual 123, 3) := by decide +kernel
theorem dJx4a65c_get_915e3_14 : decode cJx4a65c_get_915e3 14 = .ok (.areturn, 1) := by decide +kernel
theorem dJx4a65c_add_72be8_0 : decode cJx4a65c_add_72be8 0 = .ok (.iload_n 3, 1) := by decide +kernel
theorem dJx4a65c_add_72be8_1 : decode cJx4a65c_add_72be8 1 = .ok (.aload_n 2, 1) := by decide +kernel
theorem dJx4a65c_add_72be8_2 : decode cJx4a65c_add_72be8 2 = .ok (.arraylength, 1) := by decide +kernel
theorem dJx4a65c_add_72be8_3 : decode cJx4a65c_add_72be8 3 = .ok (.if_icmp .ne 8, 3) := by decide +kernel
theorem dJx4a65c_add_72be8_6 : decode cJx4a65c_add_72be8 6 = .ok (.aload_n 0, 1) := by decide +kernel
theorem dJx4a65c_add_72be8_7 : decode cJx4a65c_add_72be8 7 = .ok (.invokevirtual 129, 3) := by decide +kernel
theorem dJx4a65c_add_72be8_10 : decode cJx4a65c_add_72be8 10 = .ok (.astore_n 2, 1) := by decide +kernel
theorem dJx4a65c_add_72be8_11 : decode cJx4a65c_add_72be8 11 = .ok (.aload_n 2, 1) := by decide +kernel
theorem dJx4a65c_add_72be8_12 : decode cJx4a65c_add_72be8 12 = .ok (.iload_n 3, 1) := by decide +kernel
theorem dJx4a65c_add_72be8_13 : decode cJx4a65c_add_72be8 13 = .ok (.aload_n 1, 1) := by decide +kernel
theorem dJx4a65c_add_72be8_14 : decode cJx4a65c_add_72be8 14 = .ok (.aastore, 1) := by decide +kernel
theorem dJx4a65c_add_72be8_15 : decode cJx4a65c_add_72be8 15 = .ok (.aload_n 0, 1) := by decide +kernel
theorem dJx4a65c_add_72be8_16 : decode cJx4a65c_add_72be8 16 = .ok (.iload_n 3, 1) := by decide +kernel
theorem dJx4a65c_add_72be8_17 : decode cJx4a65c_add_72be8 17 = .ok (.iconst 1, 1) := by decide +kernel
theorem dJx4a65c_add_72be8_18 : decode cJx4a65c_add_72be8 18 = .ok (.iadd, 1) := by decide +kernel
theorem dJx4a65c_add_72be8_19 : decode cJx4a65c_add_72be8 19 = .ok (.putfield 48, 3) := by decide +kernel
theorem dJx4a65c_add_72be8_22 : decode cJx4a65c_add_72be8 22 = .ok (.return_, 1) := by decide +kernel
theorem dJx4a65c_add_9ea2d_0 : decode cJx4a65c_add_9ea2d 0 = .ok (.aload_n 0, 1) := by decide +kernel
theorem dJx4a65c_add_9ea2d_1 : decode cJx4a65c_add_9ea2d 1 = .ok (.dup, 1) := by decide +kernel
theorem dJx4a65c_add_9ea2d_2 : decode cJx4a65c_add_9ea2d 2 = .ok (.getfield 63, 3) := by decide +kernel
theorem dJx4a65c_add_9ea2d_5 : decode cJx4a65c_add_9ea2d 5 = .ok (.iconst 1, 1) := by decide +kernel
theorem dJx4a65c_add_9ea2d_6 : decode cJx4a65c_add_9ea2d 6 = .ok (.iadd, 1) := by decide +kernel
theorem dJx4a65c_add_9ea2d_7 : decode cJx4a65c_add_9ea2d 7 = .ok (.putfield 63, 3) := by decide +kernel
theorem dJx4a65c_add_9ea2d_10 : decode cJx4a65c_add_9ea2d 10 = .ok (.aload_n 0, 1) := by decide +kernel
theorem dJx4a65c_add_9ea2d_11 : decode cJx4a65c_add_9ea2d 11 = .ok (.aload_n 1, 1) := by decide +kernel
theorem dJx4a65c_add_9ea2d_12 : decode cJx4a65c_add_9ea2d 12 = .ok (.aload_n 0, 1) := by decide +kernel
theorem dJx4a65c_add_9ea2d_13 : decode cJx4a65c_add_9ea2d 13 = .ok (.getfield 9, 3) := by decide +kernel
theorem dJx4a65c_add_9ea2d_16 : decode cJx4a65c_add_9ea2d 16 = .ok (.aload_n 0, 1) := by decide +kernel
theorem dJx4a65c_add_9ea2d_17 : decode cJx4a65c_add_9ea2d 17 = .ok (.getfield 48, 3) := by decide +kernel
theorem dJx4a65c_add_9ea2d_20 : decode cJx4a65c_add_9ea2d 20 = .ok (.invokevirtual 131, 3) := by decide +kernel
theorem dJx4a65c_add_9ea2d_23 : decode cJx4a65c_add_9ea2d 23 = .ok (.iconst 1, 1) := by decide +kernel
theorem dJx4a65c_add_9ea2d_24 : decode cJx4a65c_add_9ea2d 24 = .ok (.ireturn, 1) := by decide +kernel
theorem dJx4a65c_add_7a177_0 : decode cJx4a65c_add_7a177 0 = .ok (.aload_n 0, 1) := by decide +kernel
theorem dJx4a65c_add_7a177_1 : decode cJx4a65c_add_7a177 1 = .ok (.iload_n 1, 1) := by decide +kernel
theorem dJx4a65c_add_7a177_2 : decode cJx4a65c_add_7a177 2 = .ok (.invokevirtual 135, 3) := by decide +kernel
theorem dJx4a65c_add_7a177_5 : decode cJx4a65c_add_7a177 5 = .ok (.aload_n 0, 1) := by decide +kernel
theorem dJx4a65c_add_7a177_6 : decode cJx4a65c_add_7a177 6 = .ok (.dup, 1) := by decide +kernel
theorem dJx4a65c_add_7a177_7 : decode cJx4a65c_add_7a177 7 = .ok (.getfield 63, 3) := by decide +kernel
theorem dJx4a65c_add_7a177_10 : decode cJx4a65c_add_7a177 10 = .ok (.iconst 1, 1) := by decide +kernel
theorem dJx4a65c_add_7a177_11 : decode cJx4a65c_add_7a177 11 = .ok (.iadd, 1) := by decide +kernel
theorem dJx4a65c_add_7a177_12 : decode cJx4a65c_add_7a177 12 = .ok (.putfield 63, 3) := by decide +kernel
theorem dJx4a65c_add_7a177_15 : decode cJx4a65c_add_7a177 15 = .ok (.aload_n 0, 1) := by decide +kernel
theorem dJx4a65c_add_7a177_16 : decode cJx4a65c_add_7a177 16 = .ok (.getfield 48, 3) := by decide +kernel
theorem dJx4a65c_add_7a177_19 : decode cJx4a65c_add_7a177 19 = .ok (.dup, 1) := by decide +kernel
theorem dJx4a65c_add_7a177_20 : decode cJx4a65c_add_7a177 20 = .ok (.istore_n 3, 1) := by decide +kernel
theorem dJx4a65c_add_7a177_21 : decode cJx4a65c_add_7a177 21 = .ok (.aload_n 0, 1) := by decide +kernel
theorem dJx4a65c_add_7a177_22 : decode cJx4a65c_add_7a177 22 = .ok (.getfield 9, 3) := by decide +kernel
theorem dJx4a65c_add_7a177_25 : decode cJx4a65c_add_7a177 25 = .ok (.dup, 1) := by decide +kernel
theorem dJx4a65c_add_7a177_26 : decode cJx4a65c_add_7a177 26 = .ok (.astore 4, 2) := by decide +kernel
theorem dJx4a65c_add_7a177_28 : decode cJx4a65c_add_7a177 28 = .ok (.arraylength, 1) := by decide +kernel
theorem dJx4a65c_add_7a177_29 : decode cJx4a65c_add_7a177 29 = .ok (.if_icmp .ne 9, 3) := by decide +kernel
theorem dJx4a65c_add_7a177_32 : decode cJx4a65c_add_7a177 32 = .ok (.aload_n 0, 1) := by decide +kernel
theorem dJx4a65c_add_7a177_33 : decode cJx4a65c_add_7a177 33 = .ok (.invokevirtual 129, 3) := by decide +kernel
theorem dJx4a65c_add_7a177_36 : decode cJx4a65c_add_7a177 36 = .ok (.astore 4, 2) := by decide +kernel
theorem dJx4a65c_add_7a177_38 : decode cJx4a65c_add_7a177 38 = .ok (.aload 4, 2) := by decide +kernel
theorem dJx4a65c_add_7a177_40 : decode cJx4a65c_add_7a177 40 = .ok (.iload_n 1, 1) := by decide +kernel
theorem dJx4a65c_add_7a177_41 : decode cJx4a65c_add_7a177 41 = .ok (.aload 4, 2) := by decide +kernel
theorem dJx4a65c_add_7a177_43 : decode cJx4a65c_add_7a177 43 = .ok (.iload_n 1, 1) := by decide +kernel
theorem dJx4a65c_add_7a177_44 : decode cJx4a65c_add_7a177 44 = .ok (.iconst 1, 1) := by decide +kernel
theorem dJx4a65c_add_7a177_45 : decode cJx4a65c_add_7a177 45 = .ok (.iadd, 1) := by decide +kernel
theorem dJx4a65c_add_7a177_46 : decode cJx4a65c_add_7a177 46 = .ok (.iload_n 3, 1) := by decide +kernel
theorem dJx4a65c_add_7a177_47 : decode cJx4a65c_add_7a177 47 = .ok (.iload_n 1, 1) := by decide +kernel
theorem dJx4a65c_add_7a177_48 : decode cJx4a65c_add_7a177 48 = .ok (.isub, 1) := by decide +kernel
theorem dJx4a65c_add_7a177_49 : decode cJx4a65c_add_7a177 49 = .ok (.invokestatic 112, 3) := by decide +kernel
theorem dJx4a65c_add_7a177_52 : decode cJx4a65c_add_7a177 52 = .ok (.aload 4, 2) := by decide +kernel
theorem dJx4a65c_add_7a177_54 : decode cJx4a65c_add_7a177 54 = .ok (.iload_n 1, 1) := by decide +kernel
theorem dJx4a65c_add_7a177_55 : decode cJx4a65c_add_7a177 55 = .ok (.aload_n 2, 1) := by decide +kernel
theorem dJx4a65c_add_7a177_56 : decode cJx4a65c_add_7a177 56 = .ok (.aastore, 1) := by decide +kernel
theorem dJx4a65c_add_7a177_57 : decode cJx4a65c_add_7a177 57 = .ok (.aload_n 0, 1) := by decide +kernel
theorem dJx4a65c_add_7a177_58 : decode cJx4a65c_add_7a177 58 = .ok (.iload_n 3, 1) := by decide +kernel
theorem dJx4a65c_add_7a177_59 : decode cJx4a65c_add_7a177 59 = .ok (.iconst 1, 1) := by decide +kernel
theorem dJx4a65c_add_7a177_60 : decode cJx4a65c_add_7a177 60 = .ok (.iadd, 1) := by decide +kernel
theorem dJx4a65c_add_7a177_61 : decode cJx4a65c_add_7a177 61 = .ok (.putfield 48, 3) := by decide +kernel
theorem dJx4a65c_add_7a177_64 : decode cJx4a65c_add_7a177 64 = .ok (.return_, 1) := by decide +kernel
theorem dJx4a65c_remove_915e3_0 : decode cJx4a65c_remove_915e3 0 = .ok (.iload_n 1, 1) := by decide +kernel
theorem dJx4a65c_remove_915e3_1 : decode cJx4a65c_remove_915e3 1 = .ok (.aload_n 0, 1) := by decide +kernel
theorem dJx4a65c_remove_915e3_2 : decode cJx4a65c_remove_915e3 2 = .ok (.getfield 48, 3) := by decide +kernel
theorem dJx4a65c_remove_915e3_5 : decode cJx4a65c_remove_915e3 5 = .ok (.invokestatic 118, 3) := by decide +kernel
theorem dJx4a65c_remove_915e3_8 : decode cJx4a65c_remove_915e3 8 = .ok (.pop, 1) := by decide +kernel
theorem dJx4a65c_remove_915e3_9 : decode cJx4a65c_remove_915e3 9 = .ok (.aload_n 0, 1) := by decide +kernel
theorem dJx4a65c_remove_915e3_10 : decode cJx4a65c_remove_915e3 10 = .ok (.getfield 9, 3) := by decide +kernel
theorem dJx4a65c_remove_915e3_13 : decode cJx4a65c_remove_915e3 13 = .ok (.astore_n 2, 1) := by decide +kernel
theorem dJx4a65c_remove_915e3_14 : decode cJx4a65c_remove_915e3 14 = .ok (.aload_n 2, 1) := by decide +kernel
theorem dJx4a65c_remove_915e3_15 : decode cJx4a65c_remove_915e3 15 = .ok (.iload_n 1, 1) := by decide +kernel
theorem dJx4a65c_remove_915e3_16 : decode cJx4a65c_remove_915e3 16 = .ok (.aaload, 1) := by decide +kernel
theorem dJx4a65c_remove_915e3_17 : decode cJx4a65c_remove_915e3 17 = .ok (.astore_n 3, 1) := by decide +kernel
theorem dJx4a65c_remove_915e3_18 : decode cJx4a65c_remove_915e3 18 = .ok (.aload_n 0, 1) := by decide +kernel
theorem dJx4a65c_remove_915e3_19 : decode cJx4a65c_remove_915e3 19 = .ok (.aload_n 2, 1) := by decide +kernel
theorem dJx4a65c_remove_915e3_20 : decode cJx4a65c_remove_915e3 20 = .ok (.iload_n 1, 1) := by decide +kernel
theorem dJx4a65c_remove_915e3_21 : decode cJx4a65c_remove_915e3 21 = .ok (.invokevirtual 144, 3) := by decide +kernel
theorem dJx4a65c_remove_915e3_24 : decode cJx4a65c_remove_915e3 24 = .ok (.aload_n 3, 1) := by decide +kernel
theorem dJx4a65c_remove_915e3_25 : decode cJx4a65c_remove_915e3 25 = .ok (.areturn, 1) := by decide +kernel
theorem dJx4a65c_fastRemove_b59b0_0 : decode cJx4a65c_fastRemove_b59b0 0 = .ok (.aload_n 0, 1) := by decide +kernel
theorem dJx4a65c_fastRemove_b59b0_1 : decode cJx4a65c_fastRemove_b59b0 1 = .ok (.dup, 1) := by decide +kernel
theorem dJx4a65c_fastRemove_b59b0_2 : decode cJx4a65c_fastRemove_b59b0 2 = .ok (.getfield 63, 3) := by decide +kernel
theorem dJx4a65c_fastRemove_b59b0_5 : decode cJx4a65c_fastRemove_b59b0 5 = .ok (.iconst 1, 1) := by decide +kernel
theorem dJx4a65c_fastRemove_b59b0_6 : decode cJx4a65c_fastRemove_b59b0 6 = .ok (.iadd, 1) := by decide +kernel
theorem dJx4a65c_fastRemove_b59b0_7 : decode cJx4a65c_fastRemove_b59b0 7 = .ok (.putfield 63, 3) := by decide +kernel
theorem dJx4a65c_fastRemove_b59b0_10 : decode cJx4a65c_fastRemove_b59b0 10 = .ok (.aload_n 0, 1) := by decide +kernel
theorem dJx4a65c_fastRemove_b59b0_11 : decode cJx4a65c_fastRemove_b59b0 11 = .ok (.getfield 48, 3) := by decide +kernel
theorem dJx4a65c_fastRemove_b59b0_14 : decode cJx4a65c_fastRemove_b59b0 14 = .ok (.iconst 1, 1) := by decide +kernel
theorem dJx4a65c_fastRemove_b59b0_15 : decode cJx4a65c_fastRemove_b59b0 15 = .ok (.isub, 1) := by decide +kernel
theorem dJx4a65c_fastRemove_b59b0_16 : decode cJx4a65c_fastRemove_b59b0 16 = .ok (.dup, 1) := by decide +kernel
theorem dJx4a65c_fastRemove_b59b0_17 : decode cJx4a65c_fastRemove_b59b0 17 = .ok (.istore_n 3, 1) := by decide +kernel
theorem dJx4a65c_fastRemove_b59b0_18 : decode cJx4a65c_fastRemove_b59b0 18 = .ok (.iload_n 2, 1) := by decide +kernel
theorem dJx4a65c_fastRemove_b59b0_19 : decode cJx4a65c_fastRemove_b59b0 19 = .ok (.if_icmp .le 15, 3) := by decide +kernel
theorem dJx4a65c_fastRemove_b59b0_22 : decode cJx4a65c_fastRemove_b59b0 22 = .ok (.aload_n 1, 1) := by decide +kernel
theorem dJx4a65c_fastRemove_b59b0_23 : decode cJx4a65c_fastRemove_b59b0 23 = .ok (.iload_n 2, 1) := by decide +kernel
theorem dJx4a65c_fastRemove_b59b0_24 : decode cJx4a65c_fastRemove_b59b0 24 = .ok (.iconst 1, 1) := by decide +kernel
theorem dJx4a65c_fastRemove_b59b0_25 : decode cJx4a65c_fastRemove_b59b0 25 = .ok (.iadd, 1) := by decide +kernel
theorem dJx4a65c_fastRemove_b59b0_26 : decode cJx4a65c_fastRemove_b59b0 26 = .ok (.aload_n 1, 1) := by decide +kernel
theorem dJx4a65c_fastRemove_b59b0_27 : decode cJx4a65c_fastRemove_b59b0 27 = .ok (.iload_n 2, 1) := by decide +kernel
theorem dJx4a65c_fastRemove_b59b0_28 : decode cJx4a65c_fastRemove_b59b0 28 = .ok (.iload_n 3, 1) := by decide +kernel
theorem dJx4a65c_fastRemove_b59b0_29 : decode cJx4a65c_fastRemove_b59b0 29 = .ok (.iload_n 2, 1) := by decide +kernel
theorem dJx4a65c_fastRemove_b59b0_30 : decode cJx4a65c_fastRemove_b59b0 30 = .ok (.isub, 1) := by decide +kernel
theorem dJx4a65c_fastRemove_b59b0_31 : decode cJx4a65c_fastRemove_b59b0 31 = .ok (.invokestatic 112, 3) := by decide +kernel
theorem dJx4a65c_fastRemove_b59b0_34 : decode cJx4a65c_fastRemove_b59b0 34 = .ok (.aload_n 1, 1) := by decide +kernel
theorem dJx4a65c_fastRemove_b59b0_35 : decode cJx4a65c_fastRemove_b59b0 35 = .ok (.aload_n 0, 1) := by decide +kernel
theorem dJx4a65c_fastRemove_b59b0_36 : decode cJx4a65c_fastRemove_b59b0 36 = .ok (.iload_n 3, 1) := by decide +kernel
theorem dJx4a65c_fastRemove_b59b0_37 : decode cJx4a65c_fastRemove_b59b0 37 = .ok (.dup_x1, 1) := by decide +kernel
theorem dJx4a65c_fastRemove_b59b0_38 : decode cJx4a65c_fastRemove_b59b0 38 = .ok (.putfield 48, 3) := by decide +kernel
theorem dJx4a65c_fastRemove_b59b0_41 : decode cJx4a65c_fastRemove_b59b0 41 = .ok (.aconst_null, 1) := by decide +kernel
theorem dJx4a65c_fastRemove_b59b0_42 : decode cJx4a65c_fastRemove_b59b0 42 = .ok (.aastore, 1) := by decide +kernel
theorem dJx4a65c_fastRemove_b59b0_43 : decode cJx4a65c_fastRemove_b59b0 43 = .ok (.return_, 1) := by decide +kernel
theorem dJx4a65c_clear_da8c8_0 : decode cJx4a65c_clear_da8c8 0 = .ok (.aload_n 0, 1) := by decide +kernel
theorem dJx4a65c_clear_da8c8_1 : decode cJx4a65c_clear_da8c8 1 = .ok (.dup, 1) := by decide +kernel
theorem dJx4a65c_clear_da8c8_2 : decode cJx4a65c_clear_da8c8 2 = .ok (.getfield 63, 3) := by decide +kernel
theorem dJx4a65c_clear_da8c8_5 : decode cJx4a65c_clear_da8c8 5 = .ok (.iconst 1, 1) := by decide +kernel
theorem dJx4a65c_clear_da8c8_6 : decode cJx4a65c_clear_da8c8 6 = .ok (.iadd, 1) := by decide +kernel
theorem dJx4a65c_clear_da8c8_7 : decode cJx4a65c_clear_da8c8 7 = .ok (.putfield 63, 3) := by decide +kernel
theorem dJx4a65c_clear_da8c8_10 : decode cJx4a65c_clear_da8c8 10 = .ok (.aload_n 0, 1) := by decide +kernel
theorem dJx4a65c_clear_da8c8_11 : decode cJx4a65c_clear_da8c8 11 = .ok (.getfield 9, 3) := by decide +kernel
theorem dJx4a65c_clear_da8c8_14 : decode cJx4a65c_clear_da8c8 14 = .ok (.astore_n 1, 1) := by decide +kernel
theorem dJx4a65c_clear_da8c8_15 : decode cJx4a65c_clear_da8c8 15 = .ok (.aload_n 0, 1) := by decide +kernel
theorem dJx4a65c_clear_da8c8_16 : decode cJx4a65c_clear_da8c8 16 = .ok (.getfield 48, 3) := by decide +kernel
theorem dJx4a65c_clear_da8c8_19 : decode cJx4a65c_clear_da8c8 19 = .ok (.istore_n 2, 1) := by decide +kernel
theorem dJx4a65c_clear_da8c8_20 : decode cJx4a65c_clear_da8c8 20 = .ok (.aload_n 0, 1) := by decide +kernel
theorem dJx4a65c_clear_da8c8_21 : decode cJx4a65c_clear_da8c8 21 = .ok (.iconst 0, 1) := by decide +kernel
theorem dJx4a65c_clear_da8c8_22 : decode cJx4a65c_clear_da8c8 22 = .ok (.dup_x1, 1) := by decide +kernel
theorem dJx4a65c_clear_da8c8_23 : decode cJx4a65c_clear_da8c8 23 = .ok (.putfield 48, 3) := by decide +kernel
theorem dJx4a65c_clear_da8c8_26 : decode cJx4a65c_clear_da8c8 26 = .ok (.istore_n 3, 1) := by decide +kernel
theorem dJx4a65c_clear_da8c8_27 : decode cJx4a65c_clear_da8c8 27 = .ok (.iload_n 3, 1) := by decide +kernel
theorem dJx4a65c_clear_da8c8_28 : decode cJx4a65c_clear_da8c8 28 = .ok (.iload_n 2, 1) := by decide +kernel
theorem dJx4a65c_clear_da8c8_29 : decode cJx4a65c_clear_da8c8 29 = .ok (.if_icmp .ge 13, 3) := by decide +kernel
theorem dJx4a65c_clear_da8c8_32 : decode cJx4a65c_clear_da8c8 32 = .ok (.aload_n 1, 1) := by decide +kernel
theorem dJx4a65c_clear_da8c8_33 : decode cJx4a65c_clear_da8c8 33 = .ok (.iload_n 3, 1) := by decide +kernel
theorem dJx4a65c_clear_da8c8_34 : decode cJx4a65c_clear_da8c8 34 = .ok (.aconst_null, 1) := by decide +kernel
theorem dJx4a65c_clear_da8c8_35 : decode cJx4a65c_clear_da8c8 35 = .ok (.aastore, 1) := by decide +kernel
theorem dJx4a65c_clear_da8c8_36 : decode cJx4a65c_clear_da8c8 36 = .ok (.iinc 3 1, 3) := by decide +kernel
theorem dJx4a65c_clear_da8c8_39 : decode cJx4a65c_clear_da8c8 39 = .ok (.goto (-12), 3) := by decide +kernel
theorem dJx4a65c_clear_da8c8_42 : decode cJx4a65c_clear_da8c8 42 = .ok (.return_, 1) := by decide +kernel
theorem dJx4a65c_rangeCheckForAdd_d00df_0 : decode cJx4a65c_rangeCheckForAdd_d00df 0 = .ok (.iload_n 1, 1) := by decide +kernel
theorem dJx4a65c_rangeCheckForAdd_d00df_1 : decode cJx4a65c_rangeCheckForAdd_d00df 1 = .ok (.aload_n 0, 1) := by decide +kernel
theorem dJx4a65c_rangeCheckForAdd_d00df_2 : decode cJx4a65c_rangeCheckForAdd_d00df 2 = .ok (.getfield 48, 3) := by decide +kernel
theorem dJx4a65c_rangeCheckForAdd_d00df_5 : decode cJx4a65c_rangeCheckForAdd_d00df 5 = .ok (.if_icmp .gt 7, 3) := by decide +kernel
theorem dJx4a65c_rangeCheckForAdd_d00df_8 : decode cJx4a65c_rangeCheckForAdd_d00df 8 = .ok (.iload_n 1, 1) := by decide +kernel
theorem dJx4a65c_rangeCheckForAdd_d00df_9 : decode cJx4a65c_rangeCheckForAdd_d00df 9 = .ok (.ifCond .ge 16, 3) := by decide +kernel
theorem dJx4a65c_rangeCheckForAdd_d00df_12 : decode cJx4a65c_rangeCheckForAdd_d00df 12 = .ok (.new 187, 3) := by decide +kernel
theorem dJx4a65c_rangeCheckForAdd_d00df_15 : decode cJx4a65c_rangeCheckForAdd_d00df 15 = .ok (.dup, 1) := by decide +kernel
theorem dJx4a65c_rangeCheckForAdd_d00df_16 : decode cJx4a65c_rangeCheckForAdd_d00df 16 = .ok (.aload_n 0, 1) := by decide +kernel
theorem dJx4a65c_rangeCheckForAdd_d00df_17 : decode cJx4a65c_rangeCheckForAdd_d00df 17 = .ok (.iload_n 1, 1) := by decide +kernel
theorem dJx4a65c_rangeCheckForAdd_d00df_18 : decode cJx4a65c_rangeCheckForAdd_d00df 18 = .ok (.invokevirtual 198, 3) := by decide +kernel
theorem dJx4a65c_rangeCheckForAdd_d00df_21 : decode cJx4a65c_rangeCheckForAdd_d00df 21 = .ok (.invokespecial 193, 3) := by decide +kernel
theorem dJx4a65c_rangeCheckForAdd_d00df_24 : decode cJx4a65c_rangeCheckForAdd_d00df 24 = .ok (.athrow, 1) := by decide +kernel
theorem dJx4a65c_rangeCheckForAdd_d00df_25 : decode cJx4a65c_rangeCheckForAdd_d00df 25 = .ok (.return_, 1) := by decide +kernel
theorem dJ7_copyOf_1904c_0 : decode cJ7_copyOf_1904c 0 = .ok (.aload_n 0, 1) := by decide +kernel
theorem dJ7_copyOf_1904c_1 : decode cJ7_copyOf_1904c 1 = .ok (.iload_n 1, 1) := by decide +kernel
theorem dJ7_copyOf_1904c_2 : decode cJ7_copyOf_1904c 2 = .ok (.aload_n 0, 1) := by decide +kernel
theorem dJ7_copyOf_1904c_3 : decode cJ7_copyOf_1904c 3 = .ok (.invokevirtual 86, 3) := by decide +kernel
theorem dJ7_copyOf_1904c_6 : decode cJ7_copyOf_1904c 6 = .ok (.invokestatic 300, 3) := by decide +kernel
theorem dJ7_copyOf_1904c_9 : decode cJ7_copyOf_1904c 9 = .ok (.areturn, 1) := by decide +kernel
theorem dJ7_copyOf_6403c_0 : decode cJ7_copyOf_6403c 0 = .ok (.aload_n 2, 1) := by decide +kernel
theorem dJ7_copyOf_6403c_1 : decode cJ7_copyOf_6403c 1 = .ok (.ldc 110, 2) := by decide +kernel
theorem dJ7_copyOf_6403c_3 : decode cJ7_copyOf_6403c 3 = .ok (.if_acmp .ne 10, 3) := by decide +kernel
theorem dJ7_copyOf_6403c_6 : decode cJ7_copyOf_6403c 6 = .ok (.iload_n 1, 1) := by decide +kernel
theorem dJ7_copyOf_6403c_7 : decode cJ7_copyOf_6403c 7 = .ok (.anewarray 2, 3) := by decide +kernel
theorem dJ7_copyOf_6403c_10 : decode cJ7_copyOf_6403c 10 = .ok (.goto 14, 3) := by decide +kernel
theorem dJ7_copyOf_6403c_13 : decode cJ7_copyOf_6403c 13 = .ok (.aload_n 2, 1) := by decide +kernel
theorem dJ7_copyOf_6403c_14 : decode cJ7_copyOf_6403c 14 = .ok (.invokevirtual 90, 3) := by decide +kernel
theorem dJ7_copyOf_6403c_17 : decode cJ7_copyOf_6403c 17 = .ok (.iload_n 1, 1) := by decide +kernel
theorem dJ7_copyOf_6403c_18 : decode cJ7_copyOf_6403c 18 = .ok (.invokestatic 95, 3) := by decide +kernel
theorem dJ7_copyOf_6403c_21 : decode cJ7_copyOf_6403c 21 = .ok (.checkcast 110, 3) := by decide +kernel
theorem dJ7_copyOf_6403c_24 : decode cJ7_copyOf_6403c 24 = .ok (.astore_n 3, 1) := by decide +kernel
theorem dJ7_copyOf_6403c_25 : decode cJ7_copyOf_6403c 25 = .ok (.aload_n 0, 1) := by decide +kernel
theorem dJ7_copyOf_6403c_26 : decode cJ7_copyOf_6403c 26 = .ok (.iconst 0, 1) := by decide +kernel
theorem dJ7_copyOf_6403c_27 : decode cJ7_copyOf_6403c 27 = .ok (.aload_n 3, 1) := by decide +kernel
theorem dJ7_copyOf_6403c_28 : decode cJ7_copyOf_6403c 28 = .ok (.iconst 0, 1) := by decide +kernel
theorem dJ7_copyOf_6403c_29 : decode cJ7_copyOf_6403c 29 = .ok (.aload_n 0, 1) := by decide +kernel
theorem dJ7_copyOf_6403c_30 : decode cJ7_copyOf_6403c 30 = .ok (.arraylength, 1) := by decide +kernel
theorem dJ7_copyOf_6403c_31 : decode cJ7_copyOf_6403c 31 = .ok (.iload_n 1, 1) := by decide +kernel
theorem dJ7_copyOf_6403c_32 : decode cJ7_copyOf_6403c 32 = .ok (.invokestatic 304, 3) := by decide +kernel
theorem dJ7_copyOf_6403c_35 : decode cJ7_copyOf_6403c 35 = .ok (.invokestatic 150, 3) := by decide +kernel
theorem dJ7_copyOf_6403c_38 : decode cJ7_copyOf_6403c 38 = .ok (.aload_n 3, 1) := by decide +kernel
theorem dJ7_copyOf_6403c_39 : decode cJ7_copyOf_6403c 39 = .ok (.areturn, 1) := by decide +kernel
theorem dJ15_checkIndex_7cf53_0 : decode cJ15_checkIndex_7cf53 0 = .ok (.iload_n 0, 1) := by decide +kernel
theorem dJ15_checkIndex_7cf53_1 : decode cJ15_checkIndex_7cf53 1 = .ok (.iload_n 1, 1) := by decide +kernel
theorem dJ15_checkIndex_7cf53_2 : decode cJ15_checkIndex_7cf53 2 = .ok (.aconst_null, 1) := by decide +kernel
theorem dJ15_checkIndex_7cf53_3 : decode cJ15_checkIndex_7cf53 3 = .ok (.invokestatic 105, 3) := by decide +kernel
theorem dJ15_checkIndex_7cf53_6 : decode cJ15_checkIndex_7cf53 6 = .ok (.ireturn, 1) := by decide +kernel
theorem dJ8_newLength_cabcc_0 : decode cJ8_newLength_cabcc 0 = .ok (.iload_n 0, 1) := by decide +kernel
theorem dJ8_newLength_cabcc_1 : decode cJ8_newLength_cabcc 1 = .ok (.iload_n 1, 1) := by decide +kernel
theorem dJ8_newLength_cabcc_2 : decode cJ8_newLength_cabcc 2 = .ok (.iload_n 2, 1) := by decide +kernel
theorem dJ8_newLength_cabcc_3 : decode cJ8_newLength_cabcc 3 = .ok (.invokestatic 194, 3) := by decide +kernel
theorem dJ8_newLength_cabcc_6 : decode cJ8_newLength_cabcc 6 = .ok (.iadd, 1) := by decide +kernel
theorem dJ8_newLength_cabcc_7 : decode cJ8_newLength_cabcc 7 = .ok (.istore_n 3, 1) := by decide +kernel
theorem dJ8_newLength_cabcc_8 : decode cJ8_newLength_cabcc 8 = .ok (.iconst 0, 1) := by decide +kernel
theorem dJ8_newLength_cabcc_9 : decode cJ8_newLength_cabcc 9 = .ok (.iload_n 3, 1) := by decide +kernel
theorem dJ8_newLength_cabcc_10 : decode cJ8_newLength_cabcc 10 = .ok (.if_icmp .ge 11, 3) := by decide +kernel
theorem dJ8_newLength_cabcc_13 : decode cJ8_newLength_cabcc 13 = .ok (.iload_n 3, 1) := by decide +kernel
theorem dJ8_newLength_cabcc_14 : decode cJ8_newLength_cabcc 14 = .ok (.ldc 200, 2) := by decide +kernel
theorem dJ8_newLength_cabcc_16 : decode cJ8_newLength_cabcc 16 = .ok (.if_icmp .gt 5, 3) := by decide +kernel
theorem dJ8_newLength_cabcc_19 : decode cJ8_newLength_cabcc 19 = .ok (.iload_n 3, 1) := by decide +kernel
theorem dJ8_newLength_cabcc_20 : decode cJ8_newLength_cabcc 20 = .ok (.ireturn, 1) := by decide +kernel
theorem dJ8_newLength_cabcc_21 : decode cJ8_newLength_cabcc 21 = .ok (.iload_n 0, 1) := by decide +kernel
theorem dJ8_newLength_cabcc_22 : decode cJ8_newLength_cabcc 22 = .ok (.iload_n 1, 1) := by decide +kernel
theorem dJ8_newLength_cabcc_23 : decode cJ8_newLength_cabcc 23 = .ok (.invokestatic 201, 3) := by decide +kernel
theorem dJ8_newLength_cabcc_26 : decode cJ8_newLength_cabcc 26 = .ok (.ireturn, 1) := by decide +kernel
theorem dJ3_checkIndex_8e157_0 : decode cJ3_checkIndex_8e157 0 = .ok (.iload_n 0, 1) := by decide +kernel
theorem dJ3_checkIndex_8e157_1 : decode cJ3_checkIndex_8e157 1 = .ok (.ifCond .lt 8, 3) := by decide +kernel
theorem dJ3_checkIndex_8e157_4 : decode cJ3_checkIndex_8e157 4 = .ok (.iload_n 0, 1) := by decide +kernel
theorem dJ3_checkIndex_8e157_5 : decode cJ3_checkIndex_8e157 5 = .ok (.iload_n 1, 1) := by decide +kernel
theorem dJ3_checkIndex_8e157_6 : decode cJ3_checkIndex_8e157 6 = .ok (.if_icmp .lt 10, 3) := by decide +kernel
theorem dJ3_checkIndex_8e157_9 : decode cJ3_checkIndex_8e157 9 = .ok (.aload_n 2, 1) := by decide +kernel
theorem dJ3_checkIndex_8e157_10 : decode cJ3_checkIndex_8e157 10 = .ok (.iload_n 0, 1) := by decide +kernel
theorem dJ3_checkIndex_8e157_11 : decode cJ3_checkIndex_8e157 11 = .ok (.iload_n 1, 1) := by decide +kernel
theorem dJ3_checkIndex_8e157_12 : decode cJ3_checkIndex_8e157 12 = .ok (.invokestatic 95, 3) := by decide +kernel
theorem dJ3_checkIndex_8e157_15 : decode cJ3_checkIndex_8e157 15 = .ok (.athrow, 1) := by decide +kernel
theorem dJ3_checkIndex_8e157_16 : decode cJ3_checkIndex_8e157 16 = .ok (.iload_n 0, 1) := by decide +kernel
theorem dJ3_checkIndex_8e157_17 : decode cJ3_checkIndex_8e157 17 = .ok (.ireturn, 1) := by decide +kernel
theorem dL_addTeam_0 : decode cL_addTeam 0 = .ok (.aload_n 3, 1) := by decide +kernel
theorem dL_addTeam_1 : decode cL_addTeam 1 = .ok (.iconst 0, 1) := by decide +kernel
theorem dL_addTeam_2 : decode cL_addTeam 2 = .ok (.aload_n 0, 1) := by decide +kernel
theorem dL_addTeam_3 : decode cL_addTeam 3 = .ok (.iload_n 1, 1) := by decide +kernel
theorem dL_addTeam_4 : decode cL_addTeam 4 = .ok (.iload_n 2, 1) := by decide +kernel
theorem dL_addTeam_5 : decode cL_addTeam 5 = .ok (.invokevirtual 7, 3) := by decide +kernel
theorem dL_addTeam_8 : decode cL_addTeam 8 = .ok (.i2l, 1) := by decide +kernel
theorem dL_addTeam_9 : decode cL_addTeam 9 = .ok (.lastore, 1) := by decide +kernel
theorem dL_addTeam_10 : decode cL_addTeam 10 = .ok (.goto 15, 3) := by decide +kernel
theorem dL_addTeam_13 : decode cL_addTeam 13 = .ok (.astore 4, 2) := by decide +kernel
theorem dL_addTeam_15 : decode cL_addTeam 15 = .ok (.iconst 1, 1) := by decide +kernel
theorem dL_addTeam_16 : decode cL_addTeam 16 = .ok (.ireturn, 1) := by decide +kernel
theorem dL_addTeam_17 : decode cL_addTeam 17 = .ok (.astore 4, 2) := by decide +kernel
theorem dL_addTeam_19 : decode cL_addTeam 19 = .ok (.iconst 2, 1) := by decide +kernel
theorem dL_addTeam_20 : decode cL_addTeam 20 = .ok (.ireturn, 1) := by decide +kernel
theorem dL_addTeam_21 : decode cL_addTeam 21 = .ok (.astore 4, 2) := by decide +kernel
theorem dL_addTeam_23 : decode cL_addTeam 23 = .ok (.iconst 3, 1) := by decide +kernel
theorem dL_addTeam_24 : decode cL_addTeam 24 = .ok (.ireturn, 1) := by decide +kernel
theorem dL_addTeam_25 : decode cL_addTeam 25 = .ok (.iconst 0, 1) := by decide +kernel
theorem dL_addTeam_26 : decode cL_addTeam 26 = .ok (.ireturn, 1) := by decide +kernel
theorem dL_setWeight_0 : decode cL_setWeight 0 = .ok (.aload_n 3, 1) := by decide +kernel
theorem dL_setWeight_1 : decode cL_setWeight 1 = .ok (.iconst 0, 1) := by decide +kernel
theorem dL_setWeight_2 : decode cL_setWeight 2 = .ok (.aload_n 0, 1) := by decide +kernel
theorem dL_setWeight_3 : decode cL_setWeight 3 = .ok (.iload_n 1, 1) := by decide +kernel
theorem dL_setWeight_4 : decode cL_setWeight 4 = .ok (.iload_n 2, 1) := by decide +kernel
theorem dL_setWeight_5 : decode cL_setWeight 5 = .ok (.invokevirtual 19, 3) := by decide +kernel
theorem dL_setWeight_8 : decode cL_setWeight 8 = .ok (.i2l, 1) := by decide +kernel
theorem dL_setWeight_9 : decode cL_setWeight 9 = .ok (.lastore, 1) := by decide +kernel
theorem dL_setWeight_10 : decode cL_setWeight 10 = .ok (.goto 15, 3) := by decide +kernel
theorem dL_setWeight_13 : decode cL_setWeight 13 = .ok (.astore 4, 2) := by decide +kernel
theorem dL_setWeight_15 : decode cL_setWeight 15 = .ok (.iconst 1, 1) := by decide +kernel
theorem dL_setWeight_16 : decode cL_setWeight 16 = .ok (.ireturn, 1) := by decide +kernel
theorem dL_setWeight_17 : decode cL_setWeight 17 = .ok (.astore 4, 2) := by decide +kernel
theorem dL_setWeight_19 : decode cL_setWeight 19 = .ok (.iconst 2, 1) := by decide +kernel
theorem dL_setWeight_20 : decode cL_setWeight 20 = .ok (.ireturn, 1) := by decide +kernel
theorem dL_setWeight_21 : decode cL_setWeight 21 = .ok (.astore 4, 2) := by decide +kernel
theorem dL_setWeight_23 : decode cL_setWeight 23 = .ok (.iconst 3, 1) := by decide +kernel
theorem dL_setWeight_24 : decode cL_setWeight 24 = .ok (.ireturn, 1) := by decide +kernel
theorem dL_setWeight_25 : decode cL_setWeight 25 = .ok (.iconst 0, 1) := by decide +kernel
theorem dL_setWeight_26 : decode cL_setWeight 26 = .ok (.ireturn, 1) := by decide +kernel
theorem dL_setLimit_0 : decode cL_setLimit 0 = .ok (.aload_n 3, 1) := by decide +kernel
theorem dL_setLimit_1 : decode cL_setLimit 1 = .ok (.iconst 0, 1) := by decide +kernel
theorem dL_setLimit_2 : decode cL_setLimit 2 = .ok (.aload_n 0, 1) := by decide +kernel
theorem dL_setLimit_3 : decode cL_setLimit 3 = .ok (.iload_n 1, 1) := by decide +kernel
theorem dL_setLimit_4 : decode cL_setLimit 4 = .ok (.iload_n 2, 1) := by decide +kernel
theorem dL_setLimit_5 : decode cL_setLimit 5 = .ok (.invokevirtual 24, 3) := by decide +kernel
theorem dL_setLimit_8 : decode cL_setLimit 8 = .ok (.i2l, 1) := by decide +kernel
theorem dL_setLimit_9 : decode cL_setLimit 9 = .ok (.lastore, 1) := by decide +kernel
theorem dL_setLimit_10 : decode cL_setLimit 10 = .ok (.goto 15, 3) := by decide +kernel
theorem dL_setLimit_13 : decode cL_setLimit 13 = .ok (.astore 4, 2) := by decide +kernel
theorem dL_setLimit_15 : decode cL_setLimit 15 = .ok (.iconst 1, 1) := by decide +kernel
theorem dL_setLimit_16 : decode cL_setLimit 16 = .ok (.ireturn, 1) := by decide +kernel
theorem dL_setLimit_17 : decode cL_setLimit 17 = .ok (.astore 4, 2) := by decide +kernel
theorem dL_setLimit_19 : decode cL_setLimit 19 = .ok (.iconst 2, 1) := by decide +kernel
theorem dL_setLimit_20 : decode cL_setLimit 20 = .ok (.ireturn, 1) := by decide +kernel
theorem dL_setLimit_21 : decode cL_setLimit 21 = .ok (.astore 4, 2) := by decide +kernel
theorem dL_setLimit_23 : decode cL_setLimit 23 = .ok (.iconst 3, 1) := by decide +kernel
theorem dL_setLimit_24 : decode cL_setLimit 24 = .ok (.ireturn, 1) := by decide +kernel
theorem dL_setLimit_25 : decode cL_setLimit 25 = .ok (.iconst 0, 1) := by decide +kernel
theorem dL_setLimit_26 : decode cL_setLimit 26 = .ok (.ireturn, 1) := by decide +kernel
theorem dL_setCapacity_0 : decode cL_setCapacity 0 = .ok (.aload_n 2, 1) := by decide +kernel
theorem dL_setCapacity_1 : decode cL_setCapacity 1 = .ok (.iconst 0, 1) := by decide +kernel
theorem dL_setCapacity_2 : decode cL_setCapacity 2 = .ok (.aload_n 0, 1) := by decide +kernel
theorem dL_setCapacity_3 : decode cL_setCapacity 3 = .ok (.iload_n 1, 1) := by decide +kernel
theorem dL_setCapacity_4 : decode cL_setCapacity 4 = .ok (.invokevirtual 27, 3) := by decide +kernel
theorem dL_setCapacity_7 : decode cL_setCapacity 7 = .ok (.i2l, 1) := by decide +kernel
theorem dL_setCapacity_8 : decode cL_setCapacity 8 = .ok (.lastore, 1) := by decide +kernel
theorem dL_setCapacity_9 : decode cL_setCapacity 9 = .ok (.goto 9, 3) := by decide +kernel
theorem dL_setCapacity_12 : decode cL_setCapacity 12 = .ok (.astore_n 3, 1) := by decide +kernel
theorem dL_setCapacity_13 : decode cL_setCapacity 13 = .ok (.iconst 1, 1) := by decide +kernel
theorem dL_setCapacity_14 : decode cL_setCapacity 14 = .ok (.ireturn, 1) := by decide +kernel
theorem dL_setCapacity_15 : decode cL_setCapacity 15 = .ok (.astore_n 3, 1) := by decide +kernel
theorem dL_setCapacity_16 : decode cL_setCapacity 16 = .ok (.iconst 2, 1) := by decide +kernel
theorem dL_setCapacity_17 : decode cL_setCapacity 17 = .ok (.ireturn, 1) := by decide +kernel
theorem dL_setCapacity_18 : decode cL_setCapacity 18 = .ok (.iconst 0, 1) := by decide +kernel
theorem dL_setCapacity_19 : decode cL_setCapacity 19 = .ok (.ireturn, 1) := by decide +kernel
theorem dL_setHalfTime_0 : decode cL_setHalfTime 0 = .ok (.aload_n 2, 1) := by decide +kernel
theorem dL_setHalfTime_1 : decode cL_setHalfTime 1 = .ok (.iconst 0, 1) := by decide +kernel
theorem dL_setHalfTime_2 : decode cL_setHalfTime 2 = .ok (.aload_n 0, 1) := by decide +kernel
theorem dL_setHalfTime_3 : decode cL_setHalfTime 3 = .ok (.iload_n 1, 1) := by decide +kernel
theorem dL_setHalfTime_4 : decode cL_setHalfTime 4 = .ok (.invokevirtual 31, 3) := by decide +kernel
theorem dL_setHalfTime_7 : decode cL_setHalfTime 7 = .ok (.i2l, 1) := by decide +kernel
theorem dL_setHalfTime_8 : decode cL_setHalfTime 8 = .ok (.lastore, 1) := by decide +kernel
theorem dL_setHalfTime_9 : decode cL_setHalfTime 9 = .ok (.goto 6, 3) := by decide +kernel
theorem dL_setHalfTime_12 : decode cL_setHalfTime 12 = .ok (.astore_n 3, 1) := by decide +kernel
theorem dL_setHalfTime_13 : decode cL_setHalfTime 13 = .ok (.iconst 1, 1) := by decide +kernel
theorem dL_setHalfTime_14 : decode cL_setHalfTime 14 = .ok (.ireturn, 1) := by decide +kernel
theorem dL_setHalfTime_15 : decode cL_setHalfTime 15 = .ok (.iconst 0, 1) := by decide +kernel
theorem dL_setHalfTime_16 : decode cL_setHalfTime 16 = .ok (.ireturn, 1) := by decide +kernel
theorem dL_parentOf_0 : decode cL_parentOf 0 = .ok (.aload_n 2, 1) := by decide +kernel
theorem dL_parentOf_1 : decode cL_parentOf 1 = .ok (.iconst 0, 1) := by decide +kernel
theorem dL_parentOf_2 : decode cL_parentOf 2 = .ok (.aload_n 0, 1) := by decide +kernel
theorem dL_parentOf_3 : decode cL_parentOf 3 = .ok (.iload_n 1, 1) := by decide +kernel
theorem dL_parentOf_4 : decode cL_parentOf 4 = .ok (.invokevirtual 34, 3) := by decide +kernel
theorem dL_parentOf_7 : decode cL_parentOf 7 = .ok (.i2l, 1) := by decide +kernel
theorem dL_parentOf_8 : decode cL_parentOf 8 = .ok (.lastore, 1) := by decide +kernel
theorem dL_parentOf_9 : decode cL_parentOf 9 = .ok (.goto 9, 3) := by decide +kernel
theorem dL_parentOf_12 : decode cL_parentOf 12 = .ok (.astore_n 3, 1) := by decide +kernel
theorem dL_parentOf_13 : decode cL_parentOf 13 = .ok (.iconst 1, 1) := by decide +kernel
theorem dL_parentOf_14 : decode cL_parentOf 14 = .ok (.ireturn, 1) := by decide +kernel
theorem dL_parentOf_15 : decode cL_parentOf 15 = .ok (.astore_n 3, 1) := by decide +kernel
theorem dL_parentOf_16 : decode cL_parentOf 16 = .ok (.iconst 2, 1) := by decide +kernel
theorem dL_parentOf_17 : decode cL_parentOf 17 = .ok (.ireturn, 1) := by decide +kernel
theorem dL_parentOf_18 : decode cL_parentOf 18 = .ok (.iconst 0, 1) := by decide +kernel
theorem dL_parentOf_19 : decode cL_parentOf 19 = .ok (.ireturn, 1) := by decide +kernel
theorem dL_children_0 : decode cL_children 0 = .ok (.aload_n 2, 1) := by decide +kernel
theorem dL_children_1 : decode cL_children 1 = .ok (.iconst 0, 1) := by decide +kernel
theorem dL_children_2 : decode cL_children 2 = .ok (.aload_n 0, 1) := by decide +kernel
theorem dL_children_3 : decode cL_children 3 = .ok (.iload_n 1, 1) := by decide +kernel
theorem dL_children_4 : decode cL_children 4 = .ok (.invokevirtual 37, 3) := by decide +kernel
theorem dL_children_7 : decode cL_children 7 = .ok (.i2l, 1) := by decide +kernel
theorem dL_children_8 : decode cL_children 8 = .ok (.lastore, 1) := by decide +kernel
theorem dL_children_9 : decode cL_children 9 = .ok (.goto 6, 3) := by decide +kernel
theorem dL_children_12 : decode cL_children 12 = .ok (.astore_n 3, 1) := by decide +kernel
theorem dL_children_13 : decode cL_children 13 = .ok (.iconst 1, 1) := by decide +kernel
theorem dL_children_14 : decode cL_children 14 = .ok (.ireturn, 1) := by decide +kernel
theorem dL_children_15 : decode cL_children 15 = .ok (.iconst 0, 1) := by decide +kernel
theorem dL_children_16 : decode cL_children 16 = .ok (.ireturn, 1) := by decide +kernel
theorem dL_submit_0 : decode cL_submit 0 = .ok (.aload 4, 2) := by decide +kernel
theorem dL_submit_2 : decode cL_submit 2 = .ok (.iconst 0, 1) := by decide +kernel
theorem dL_submit_3 : decode cL_submit 3 = .ok (.aload_n 0, 1) := by decide +kernel
theorem dL_submit_4 : decode cL_submit 4 = .ok (.iload_n 1, 1) := by decide +kernel
theorem dL_submit_5 : decode cL_submit 5 = .ok (.iload_n 2, 1) := by decide +kernel
theorem dL_submit_6 : decode cL_submit 6 = .ok (.iload_n 3, 1) := by decide +kernel
theorem dL_submit_7 : decode cL_submit 7 = .ok (.invokevirtual 40, 3) := by decide +kernel
theorem dL_submit_10 : decode cL_submit 10 = .ok (.i2l, 1) := by decide +kernel
theorem dL_submit_11 : decode cL_submit 11 = .ok (.lastore, 1) := by decide +kernel
theorem dL_submit_12 : decode cL_submit 12 = .ok (.goto 19, 3) := by decide +kernel
theorem dL_submit_15 : decode cL_submit 15 = .ok (.astore 5, 2) := by decide +kernel
theorem dL_submit_17 : decode cL_submit 17 = .ok (.iconst 1, 1) := by decide +kernel
theorem dL_submit_18 : decode cL_submit 18 = .ok (.ireturn, 1) := by decide +kernel
theorem dL_submit_19 : decode cL_submit 19 = .ok (.astore 5, 2) := by decide +kernel
theorem dL_submit_21 : decode cL_submit 21 = .ok (.iconst 2, 1) := by decide +kernel
theorem dL_submit_22 : decode cL_submit 22 = .ok (.ireturn, 1) := by decide +kernel
theorem dL_submit_23 : decode cL_submit 23 = .ok (.astore 5, 2) := by decide +kernel
theorem dL_submit_25 : decode cL_submit 25 = .ok (.iconst 3, 1) := by decide +kernel
theorem dL_submit_26 : decode cL_submit 26 = .ok (.ireturn, 1) := by decide +kernel
theorem dL_submit_27 : decode cL_submit 27 = .ok (.astore 5, 2) := by decide +kernel
theorem dL_submit_29 : decode cL_submit 29 = .ok (.iconst 4, 1) := by decide +kernel
theorem dL_submit_30 : decode cL_submit 30 = .ok (.ireturn, 1) := by decide +kernel
theorem dL_submit_31 : decode cL_submit 31 = .ok (.iconst 0, 1) := by decide +kernel
theorem dL_submit_32 : decode cL_submit 32 = .ok (.ireturn, 1) := by decide +kernel
theorem dL_cancel_0 : decode cL_cancel 0 = .ok (.aload_n 2, 1) := by decide +kernel
theorem dL_cancel_1 : decode cL_cancel 1 = .ok (.iconst 0, 1) := by decide +kernel
theorem dL_cancel_2 : decode cL_cancel 2 = .ok (.aload_n 0, 1) := by decide +kernel
theorem dL_cancel_3 : decode cL_cancel 3 = .ok (.iload_n 1, 1) := by decide +kernel
theorem dL_cancel_4 : decode cL_cancel 4 = .ok (.invokevirtual 44, 3) := by decide +kernel
theorem dL_cancel_7 : decode cL_cancel 7 = .ok (.i2l, 1) := by decide +kernel
theorem dL_cancel_8 : decode cL_cancel 8 = .ok (.lastore, 1) := by decide +kernel
theorem dL_cancel_9 : decode cL_cancel 9 = .ok (.goto 9, 3) := by decide +kernel
theorem dL_cancel_12 : decode cL_cancel 12 = .ok (.astore_n 3, 1) := by decide +kernel
theorem dL_cancel_13 : decode cL_cancel 13 = .ok (.iconst 1, 1) := by decide +kernel
theorem dL_cancel_14 : decode cL_cancel 14 = .ok (.ireturn, 1) := by decide +kernel
theorem dL_cancel_15 : decode cL_cancel 15 = .ok (.astore_n 3, 1) := by decide +kernel
theorem dL_cancel_16 : decode cL_cancel 16 = .ok (.iconst 2, 1) := by decide +kernel
theorem dL_cancel_17 : decode cL_cancel 17 = .ok (.ireturn, 1) := by decide +kernel
theorem dL_cancel_18 : decode cL_cancel 18 = .ok (.iconst 0, 1) := by decide +kernel
theorem dL_cancel_19 : decode cL_cancel 19 = .ok (.ireturn, 1) := by decide +kernel
theorem dL_pass_0 : decode cL_pass 0 = .ok (.aload_n 2, 1) := by decide +kernel
theorem dL_pass_1 : decode cL_pass 1 = .ok (.iconst 0, 1) := by decide +kernel
theorem dL_pass_2 : decode cL_pass 2 = .ok (.aload_n 0, 1) := by decide +kernel
theorem dL_pass_3 : decode cL_pass 3 = .ok (.iload_n 1, 1) := by decide +kernel
theorem dL_pass_4 : decode cL_pass 4 = .ok (.invokevirtual 49, 3) := by decide +kernel
theorem dL_pass_7 : decode cL_pass 7 = .ok (.i2l, 1) := by decide +kernel
theorem dL_pass_8 : decode cL_pass 8 = .ok (.lastore, 1) := by decide +kernel
theorem dL_pass_9 : decode cL_pass 9 = .ok (.goto 6, 3) := by decide +kernel
theorem dL_pass_12 : decode cL_pass 12 = .ok (.astore_n 3, 1) := by decide +kernel
theorem dL_pass_13 : decode cL_pass 13 = .ok (.iconst 1, 1) := by decide +kernel
theorem dL_pass_14 : decode cL_pass 14 = .ok (.ireturn, 1) := by decide +kernel
theorem dL_pass_15 : decode cL_pass 15 = .ok (.iconst 0, 1) := by decide +kernel
theorem dL_pass_16 : decode cL_pass 16 = .ok (.ireturn, 1) := by decide +kernel
theorem dL_stateOf_0 : decode cL_stateOf 0 = .ok (.aload_n 2, 1) := by decide +kernel
theorem dL_stateOf_1 : decode cL_stateOf 1 = .ok (.iconst 0, 1) := by decide +kernel
theorem dL_stateOf_2 : decode cL_stateOf 2 = .ok (.aload_n 0, 1) := by decide +kernel
theorem dL_stateOf_3 : decode cL_stateOf 3 = .ok (.iload_n 1, 1) := by decide +kernel
theorem dL_stateOf_4 : decode cL_stateOf 4 = .ok (.invokevirtual 52, 3) := by decide +kernel
theorem dL_stateOf_7 : decode cL_stateOf 7 = .ok (.i2l, 1) := by decide +kernel
theorem dL_stateOf_8 : decode cL_stateOf 8 = .ok (.lastore, 1) := by decide +kernel
theorem dL_stateOf_9 : decode cL_stateOf 9 = .ok (.goto 6, 3) := by decide +kernel
theorem dL_stateOf_12 : decode cL_stateOf 12 = .ok (.astore_n 3, 1) := by decide +kernel
theorem dL_stateOf_13 : decode cL_stateOf 13 = .ok (.iconst 1, 1) := by decide +kernel
theorem dL_stateOf_14 : decode cL_stateOf 14 = .ok (.ireturn, 1) := by decide +kernel
theorem dL_stateOf_15 : decode cL_stateOf 15 = .ok (.iconst 0, 1) := by decide +kernel
theorem dL_stateOf_16 : decode cL_stateOf 16 = .ok (.ireturn, 1) := by decide +kernel
theorem dL_toGo_0 : decode cL_toGo 0 = .ok (.aload_n 2, 1) := by decide +kernel
theorem dL_toGo_1 : decode cL_toGo 1 = .ok (.iconst 0, 1) := by decide +kernel
theorem dL_toGo_2 : decode cL_toGo 2 = .ok (.aload_n 0, 1) := by decide +kernel
theorem dL_toGo_3 : decode cL_toGo 3 = .ok (.iload_n 1, 1) := by decide +kernel
theorem dL_toGo_4 : decode cL_toGo 4 = .ok (.invokevirtual 56, 3) := by decide +kernel
theorem dL_toGo_7 : decode cL_toGo 7 = .ok (.i2l, 1) := by decide +kernel
theorem dL_toGo_8 : decode cL_toGo 8 = .ok (.lastore, 1) := by decide +kernel
theorem dL_toGo_9 : decode cL_toGo 9 = .ok (.goto 9, 3) := by decide +kernel
theorem dL_toGo_12 : decode cL_toGo 12 = .ok (.astore_n 3, 1) := by decide +kernel
theorem dL_toGo_13 : decode cL_toGo 13 = .ok (.iconst 1, 1) := by decide +kernel
theorem dL_toGo_14 : decode cL_toGo 14 = .ok (.ireturn, 1) := by decide +kernel
theorem dL_toGo_15 : decode cL_toGo 15 = .ok (.astore_n 3, 1) := by decide +kernel
theorem dL_toGo_16 : decode cL_toGo 16 = .ok (.iconst 2, 1) := by decide +kernel
theorem dL_toGo_17 : decode cL_toGo 17 = .ok (.ireturn, 1) := by decide +kernel
theorem dL_toGo_18 : decode cL_toGo 18 = .ok (.iconst 0, 1) := by decide +kernel
theorem dL_toGo_19 : decode cL_toGo 19 = .ok (.ireturn, 1) := by decide +kernel
theorem dL_stops_0 : decode cL_stops 0 = .ok (.aload_n 2, 1) := by decide +kernel
theorem dL_stops_1 : decode cL_stops 1 = .ok (.iconst 0, 1) := by decide +kernel
theorem dL_stops_2 : decode cL_stops 2 = .ok (.aload_n 0, 1) := by decide +kernel
theorem dL_stops_3 : decode cL_stops 3 = .ok (.iload_n 1, 1) := by decide +kernel
theorem dL_stops_4 : decode cL_stops 4 = .ok (.invokevirtual 59, 3) := by decide +kernel
theorem dL_stops_7 : decode cL_stops 7 = .ok (.i2l, 1) := by decide +kernel
theorem dL_stops_8 : decode cL_stops 8 = .ok (.lastore, 1) := by decide +kernel
theorem dL_stops_9 : decode cL_stops 9 = .ok (.goto 6, 3) := by decide +kernel
theorem dL_stops_12 : decode cL_stops 12 = .ok (.astore_n 3, 1) := by decide +kernel
theorem dL_stops_13 : decode cL_stops 13 = .ok (.iconst 1, 1) := by decide +kernel
theorem dL_stops_14 : decode cL_stops 14 = .ok (.ireturn, 1) := by decide +kernel
theorem dL_stops_15 : decode cL_stops 15 = .ok (.iconst 0, 1) := by decide +kernel
theorem dL_stops_16 : decode cL_stops 16 = .ok (.ireturn, 1) := by decide +kernel
theorem dL_firstOf_0 : decode cL_firstOf 0 = .ok (.aload_n 2, 1) := by decide +kernel
theorem dL_firstOf_1 : decode cL_firstOf 1 = .ok (.iconst 0, 1) := by decide +kernel
theorem dL_firstOf_2 : decode cL_firstOf 2 = .ok (.aload_n 0, 1) := by decide +kernel
theorem dL_firstOf_3 : decode cL_firstOf 3 = .ok (.iload_n 1, 1) := by decide +kernel
theorem dL_firstOf_4 : decode cL_firstOf 4 = .ok (.invokevirtual 62, 3) := by decide +kernel
theorem dL_firstOf_7 : decode cL_firstOf 7 = .ok (.i2l, 1) := by decide +kernel
theorem dL_firstOf_8 : decode cL_firstOf 8 = .ok (.lastore, 1) := by decide +kernel
theorem dL_firstOf_9 : decode cL_firstOf 9 = .ok (.goto 12, 3) := by decide +kernel
theorem dL_firstOf_12 : decode cL_firstOf 12 = .ok (.astore_n 3, 1) := by decide +kernel
theorem dL_firstOf_13 : decode cL_firstOf 13 = .ok (.iconst 1, 1) := by decide +kernel
theorem dL_firstOf_14 : decode cL_firstOf 14 = .ok (.ireturn, 1) := by decide +kernel
theorem dL_firstOf_15 : decode cL_firstOf 15 = .ok (.astore_n 3, 1) := by decide +kernel
theorem dL_firstOf_16 : decode cL_firstOf 16 = .ok (.iconst 2, 1) := by decide +kernel
theorem dL_firstOf_17 : decode cL_firstOf 17 = .ok (.ireturn, 1) := by decide +kernel
theorem dL_firstOf_18 : decode cL_firstOf 18 = .ok (.astore_n 3, 1) := by decide +kernel
theorem dL_firstOf_19 : decode cL_firstOf 19 = .ok (.iconst 3, 1) := by decide +kernel
theorem dL_firstOf_20 : decode cL_firstOf 20 = .ok (.ireturn, 1) := by decide +kernel
theorem dL_firstOf_21 : decode cL_firstOf 21 = .ok (.iconst 0, 1) := by decide +kernel
theorem dL_firstOf_22 : decode cL_firstOf 22 = .ok (.ireturn, 1) := by decide +kernel
theorem dL_inLine_0 : decode cL_inLine 0 = .ok (.aload_n 2, 1) := by decide +kernel
theorem dL_inLine_1 : decode cL_inLine 1 = .ok (.iconst 0, 1) := by decide +kernel
theorem dL_inLine_2 : decode cL_inLine 2 = .ok (.aload_n 0, 1) := by decide +kernel
theorem dL_inLine_3 : decode cL_inLine 3 = .ok (.iload_n 1, 1) := by decide +kernel
theorem dL_inLine_4 : decode cL_inLine 4 = .ok (.invokevirtual 65, 3) := by decide +kernel
theorem dL_inLine_7 : decode cL_inLine 7 = .ok (.i2l, 1) := by decide +kernel
theorem dL_inLine_8 : decode cL_inLine 8 = .ok (.lastore, 1) := by decide +kernel
theorem dL_inLine_9 : decode cL_inLine 9 = .ok (.goto 6, 3) := by decide +kernel
theorem dL_inLine_12 : decode cL_inLine 12 = .ok (.astore_n 3, 1) := by decide +kernel
theorem dL_inLine_13 : decode cL_inLine 13 = .ok (.iconst 1, 1) := by decide +kernel
theorem dL_inLine_14 : decode cL_inLine 14 = .ok (.ireturn, 1) := by decide +kernel
theorem dL_inLine_15 : decode cL_inLine 15 = .ok (.iconst 0, 1) := by decide +kernel
theorem dL_inLine_16 : decode cL_inLine 16 = .ok (.ireturn, 1) := by decide +kernel
theorem dL_reserve_0 : decode cL_reserve 0 = .ok (.aload 5, 2) := by decide +kernel
theorem dL_reserve_2 : decode cL_reserve 2 = .ok (.iconst 0, 1) := by decide +kernel
theorem dL_reserve_3 : decode cL_reserve 3 = .ok (.aload_n 0, 1) := by decide +kernel
theorem dL_reserve_4 : decode cL_reserve 4 = .ok (.iload_n 1, 1) := by decide +kernel
theorem dL_reserve_5 : decode cL_reserve 5 = .ok (.iload_n 2, 1) := by decide +kernel
theorem dL_reserve_6 : decode cL_reserve 6 = .ok (.iload_n 3, 1) := by decide +kernel
theorem dL_reserve_7 : decode cL_reserve 7 = .ok (.iload 4, 2) := by decide +kernel
theorem dL_reserve_9 : decode cL_reserve 9 = .ok (.invokevirtual 68, 3) := by decide +kernel
theorem dL_reserve_12 : decode cL_reserve 12 = .ok (.i2l, 1) := by decide +kernel
theorem dL_reserve_13 : decode cL_reserve 13 = .ok (.lastore, 1) := by decide +kernel
theorem dL_reserve_14 : decode cL_reserve 14 = .ok (.goto 19, 3) := by decide +kernel
theorem dL_reserve_17 : decode cL_reserve 17 = .ok (.astore 6, 2) := by decide +kernel
theorem dL_reserve_19 : decode cL_reserve 19 = .ok (.iconst 1, 1) := by decide +kernel
theorem dL_reserve_20 : decode cL_reserve 20 = .ok (.ireturn, 1) := by decide +kernel
theorem dL_reserve_21 : decode cL_reserve 21 = .ok (.astore 6, 2) := by decide +kernel
theorem dL_reserve_23 : decode cL_reserve 23 = .ok (.iconst 2, 1) := by decide +kernel
theorem dL_reserve_24 : decode cL_reserve 24 = .ok (.ireturn, 1) := by decide +kernel
theorem dL_reserve_25 : decode cL_reserve 25 = .ok (.astore 6, 2) := by decide +kernel
theorem dL_reserve_27 : decode cL_reserve 27 = .ok (.iconst 3, 1) := by decide +kernel
theorem dL_reserve_28 : decode cL_reserve 28 = .ok (.ireturn, 1) := by decide +kernel
theorem dL_reserve_29 : decode cL_reserve 29 = .ok (.astore 6, 2) := by decide +kernel
theorem dL_reserve_31 : decode cL_reserve 31 = .ok (.iconst 4, 1) := by decide +kernel
theorem dL_reserve_32 : decode cL_reserve 32 = .ok (.ireturn, 1) := by decide +kernel
theorem dL_reserve_33 : decode cL_reserve 33 = .ok (.iconst 0, 1) := by decide +kernel
theorem dL_reserve_34 : decode cL_reserve 34 = .ok (.ireturn, 1) := by decide +kernel
theorem dL_drop_0 : decode cL_drop 0 = .ok (.aload 4, 2) := by decide +kernel
theorem dL_drop_2 : decode cL_drop 2 = .ok (.iconst 0, 1) := by decide +kernel
theorem dL_drop_3 : decode cL_drop 3 = .ok (.aload_n 0, 1) := by decide +kernel
theorem dL_drop_4 : decode cL_drop 4 = .ok (.iload_n 1, 1) := by decide +kernel
theorem dL_drop_5 : decode cL_drop 5 = .ok (.iload_n 2, 1) := by decide +kernel
theorem dL_drop_6 : decode cL_drop 6 = .ok (.iload_n 3, 1) := by decide +kernel
theorem dL_drop_7 : decode cL_drop 7 = .ok (.invokevirtual 72, 3) := by decide +kernel
theorem dL_drop_10 : decode cL_drop 10 = .ok (.i2l, 1) := by decide +kernel
theorem dL_drop_11 : decode cL_drop 11 = .ok (.lastore, 1) := by decide +kernel
theorem dL_drop_12 : decode cL_drop 12 = .ok (.goto 7, 3) := by decide +kernel
theorem dL_drop_15 : decode cL_drop 15 = .ok (.astore 5, 2) := by decide +kernel
theorem dL_drop_17 : decode cL_drop 17 = .ok (.iconst 1, 1) := by decide +kernel
theorem dL_drop_18 : decode cL_drop 18 = .ok (.ireturn, 1) := by decide +kernel
theorem dL_drop_19 : decode cL_drop 19 = .ok (.iconst 0, 1) := by decide +kernel
theorem dL_drop_20 : decode cL_drop 20 = .ok (.ireturn, 1) := by decide +kernel
theorem dL_reserved_0 : decode cL_reserved 0 = .ok (.aload_n 2, 1) := by decide +kernel
theorem dL_reserved_1 : decode cL_reserved 1 = .ok (.iconst 0, 1) := by decide +kernel
theorem dL_reserved_2 : decode cL_reserved 2 = .ok (.aload_n 0, 1) := by decide +kernel
theorem dL_reserved_3 : decode cL_reserved 3 = .ok (.iload_n 1, 1) := by decide +kernel
theorem dL_reserved_4 : decode cL_reserved 4 = .ok (.invokevirtual 75, 3) := by decide +kernel
theorem dL_reserved_7 : decode cL_reserved 7 = .ok (.i2l, 1) := by decide +kernel
theorem dL_reserved_8 : decode cL_reserved 8 = .ok (.lastore, 1) := by decide +kernel
theorem dL_reserved_9 : decode cL_reserved 9 = .ok (.goto 9, 3) := by decide +kernel
theorem dL_reserved_12 : decode cL_reserved 12 = .ok (.astore_n 3, 1) := by decide +kernel
theorem dL_reserved_13 : decode cL_reserved 13 = .ok (.iconst 1, 1) := by decide +kernel
theorem dL_reserved_14 : decode cL_reserved 14 = .ok (.ireturn, 1) := by decide +kernel
theorem dL_reserved_15 : decode cL_reserved 15 = .ok (.astore_n 3, 1) := by decide +kernel
theorem dL_reserved_16 : decode cL_reserved 16 = .ok (.iconst 2, 1) := by decide +kernel
theorem dL_reserved_17 : decode cL_reserved 17 = .ok (.ireturn, 1) := by decide +kernel
theorem dL_reserved_18 : decode cL_reserved 18 = .ok (.iconst 0, 1) := by decide +kernel
theorem dL_reserved_19 : decode cL_reserved 19 = .ok (.ireturn, 1) := by decide +kernel
theorem dL_running_0 : decode cL_running 0 = .ok (.aload_n 2, 1) := by decide +kernel
theorem dL_running_1 : decode cL_running 1 = .ok (.iconst 0, 1) := by decide +kernel
theorem dL_running_2 : decode cL_running 2 = .ok (.aload_n 0, 1) := by decide +kernel
theorem dL_running_3 : decode cL_running 3 = .ok (.iload_n 1, 1) := by decide +kernel
theorem dL_running_4 : decode cL_running 4 = .ok (.invokevirtual 78, 3) := by decide +kernel
theorem dL_running_7 : decode cL_running 7 = .ok (.i2l, 1) := by decide +kernel
theorem dL_running_8 : decode cL_running 8 = .ok (.lastore, 1) := by decide +kernel
theorem dL_running_9 : decode cL_running 9 = .ok (.goto 6, 3) := by decide +kernel
theorem dL_running_12 : decode cL_running 12 = .ok (.astore_n 3, 1) := by decide +kernel
theorem dL_running_13 : decode cL_running 13 = .ok (.iconst 1, 1) := by decide +kernel
theorem dL_running_14 : decode cL_running 14 = .ok (.ireturn, 1) := by decide +kernel
theorem dL_running_15 : decode cL_running 15 = .ok (.iconst 0, 1) := by decide +kernel
theorem dL_running_16 : decode cL_running 16 = .ok (.ireturn, 1) := by decide +kernel
theorem dL_demand_0 : decode cL_demand 0 = .ok (.aload_n 2, 1) := by decide +kernel
theorem dL_demand_1 : decode cL_demand 1 = .ok (.iconst 0, 1) := by decide +kernel
theorem dL_demand_2 : decode cL_demand 2 = .ok (.aload_n 0, 1) := by decide +kernel
theorem dL_demand_3 : decode cL_demand 3 = .ok (.iload_n 1, 1) := by decide +kernel
theorem dL_demand_4 : decode cL_demand 4 = .ok (.invokevirtual 81, 3) := by decide +kernel
theorem dL_demand_7 : decode cL_demand 7 = .ok (.i2l, 1) := by decide +kernel
theorem dL_demand_8 : decode cL_demand 8 = .ok (.lastore, 1) := by decide +kernel
theorem dL_demand_9 : decode cL_demand 9 = .ok (.goto 6, 3) := by decide +kernel
theorem dL_demand_12 : decode cL_demand 12 = .ok (.astore_n 3, 1) := by decide +kernel
theorem dL_demand_13 : decode cL_demand 13 = .ok (.iconst 1, 1) := by decide +kernel
theorem dL_demand_14 : decode cL_demand 14 = .ok (.ireturn, 1) := by decide +kernel
theorem dL_demand_15 : decode cL_demand 15 = .ok (.iconst 0, 1) := by decide +kernel
theorem dL_demand_16 : decode cL_demand 16 = .ok (.ireturn, 1) := by decide +kernel
theorem dL_share_0 : decode cL_share 0 = .ok (.aload_n 2, 1) := by decide +kernel
theorem dL_share_1 : decode cL_share 1 = .ok (.iconst 0, 1) := by decide +kernel
theorem dL_share_2 : decode cL_share 2 = .ok (.aload_n 0, 1) := by decide +kernel
theorem dL_share_3 : decode cL_share 3 = .ok (.iload_n 1, 1) := by decide +kernel
theorem dL_share_4 : decode cL_share 4 = .ok (.invokevirtual 84, 3) := by decide +kernel
theorem dL_share_7 : decode cL_share 7 = .ok (.i2l, 1) := by decide +kernel
theorem dL_share_8 : decode cL_share 8 = .ok (.lastore, 1) := by decide +kernel
theorem dL_share_9 : decode cL_share 9 = .ok (.goto 6, 3) := by decide +kernel
theorem dL_share_12 : decode cL_share 12 = .ok (.astore_n 3, 1) := by decide +kernel
theorem dL_share_13 : decode cL_share 13 = .ok (.iconst 1, 1) := by decide +kernel
theorem dL_share_14 : decode cL_share 14 = .ok (.ireturn, 1) := by decide +kernel
theorem dL_share_15 : decode cL_share 15 = .ok (.iconst 0, 1) := by decide +kernel
theorem dL_share_16 : decode cL_share 16 = .ok (.ireturn, 1) := by decide +kernel
theorem dL_shareByLevels_0 : decode cL_shareByLevels 0 = .ok (.aload_n 2, 1) := by decide +kernel
theorem dL_shareByLevels_1 : decode cL_shareByLevels 1 = .ok (.iconst 0, 1) := by decide +kernel
theorem dL_shareByLevels_2 : decode cL_shareByLevels 2 = .ok (.aload_n 0, 1) := by decide +kernel
theorem dL_shareByLevels_3 : decode cL_shareByLevels 3 = .ok (.iload_n 1, 1) := by decide +kernel
theorem dL_shareByLevels_4 : decode cL_shareByLevels 4 = .ok (.invokevirtual 87, 3) := by decide +kernel
theorem dL_shareByLevels_7 : decode cL_shareByLevels 7 = .ok (.i2l, 1) := by decide +kernel
theorem dL_shareByLevels_8 : decode cL_shareByLevels 8 = .ok (.lastore, 1) := by decide +kernel
theorem dL_shareByLevels_9 : decode cL_shareByLevels 9 = .ok (.goto 6, 3) := by decide +kernel
theorem dL_shareByLevels_12 : decode cL_shareByLevels 12 = .ok (.astore_n 3, 1) := by decide +kernel
theorem dL_shareByLevels_13 : decode cL_shareByLevels 13 = .ok (.iconst 1, 1) := by decide +kernel
theorem dL_shareByLevels_14 : decode cL_shareByLevels 14 = .ok (.ireturn, 1) := by decide +kernel
theorem dL_shareByLevels_15 : decode cL_shareByLevels 15 = .ok (.iconst 0, 1) := by decide +kernel
theorem dL_shareByLevels_16 : decode cL_shareByLevels 16 = .ok (.ireturn, 1) := by decide +kernel
theorem dL_due_0 : decode cL_due 0 = .ok (.aload_n 2, 1) := by decide +kernel
theorem dL_due_1 : decode cL_due 1 = .ok (.iconst 0, 1) := by decide +kernel
theorem dL_due_2 : decode cL_due 2 = .ok (.aload_n 0, 1) := by decide +kernel
theorem dL_due_3 : decode cL_due 3 = .ok (.iload_n 1, 1) := by decide +kernel
theorem dL_due_4 : decode cL_due 4 = .ok (.invokevirtual 90, 3) := by decide +kernel
theorem dL_due_7 : decode cL_due 7 = .ok (.i2l, 1) := by decide +kernel
theorem dL_due_8 : decode cL_due 8 = .ok (.lastore, 1) := by decide +kernel
theorem dL_due_9 : decode cL_due 9 = .ok (.goto 9, 3) := by decide +kernel
theorem dL_due_12 : decode cL_due 12 = .ok (.astore_n 3, 1) := by decide +kernel
theorem dL_due_13 : decode cL_due 13 = .ok (.iconst 1, 1) := by decide +kernel
theorem dL_due_14 : decode cL_due 14 = .ok (.ireturn, 1) := by decide +kernel
theorem dL_due_15 : decode cL_due 15 = .ok (.astore_n 3, 1) := by decide +kernel
theorem dL_due_16 : decode cL_due 16 = .ok (.iconst 2, 1) := by decide +kernel
theorem dL_due_17 : decode cL_due 17 = .ok (.ireturn, 1) := by decide +kernel
theorem dL_due_18 : decode cL_due 18 = .ok (.iconst 0, 1) := by decide +kernel
theorem dL_due_19 : decode cL_due 19 = .ok (.ireturn, 1) := by decide +kernel
theorem dL_freeFor_0 : decode cL_freeFor 0 = .ok (.aload_n 2, 1) := by decide +kernel
theorem dL_freeFor_1 : decode cL_freeFor 1 = .ok (.iconst 0, 1) := by decide +kernel
theorem dL_freeFor_2 : decode cL_freeFor 2 = .ok (.aload_n 0, 1) := by decide +kernel
theorem dL_freeFor_3 : decode cL_freeFor 3 = .ok (.iload_n 1, 1) := by decide +kernel
theorem dL_freeFor_4 : decode cL_freeFor 4 = .ok (.invokevirtual 93, 3) := by decide +kernel
theorem dL_freeFor_7 : decode cL_freeFor 7 = .ok (.i2l, 1) := by decide +kernel
theorem dL_freeFor_8 : decode cL_freeFor 8 = .ok (.lastore, 1) := by decide +kernel
theorem dL_freeFor_9 : decode cL_freeFor 9 = .ok (.goto 9, 3) := by decide +kernel
theorem dL_freeFor_12 : decode cL_freeFor 12 = .ok (.astore_n 3, 1) := by decide +kernel
theorem dL_freeFor_13 : decode cL_freeFor 13 = .ok (.iconst 1, 1) := by decide +kernel
theorem dL_freeFor_14 : decode cL_freeFor 14 = .ok (.ireturn, 1) := by decide +kernel
theorem dL_freeFor_15 : decode cL_freeFor 15 = .ok (.astore_n 3, 1) := by decide +kernel
theorem dL_freeFor_16 : decode cL_freeFor 16 = .ok (.iconst 2, 1) := by decide +kernel
theorem dL_freeFor_17 : decode cL_freeFor 17 = .ok (.ireturn, 1) := by decide +kernel
theorem dL_freeFor_18 : decode cL_freeFor 18 = .ok (.iconst 0, 1) := by decide +kernel
theorem dL_freeFor_19 : decode cL_freeFor 19 = .ok (.ireturn, 1) := by decide +kernel
theorem dL_use_0 : decode cL_use 0 = .ok (.aload_n 2, 1) := by decide +kernel
theorem dL_use_1 : decode cL_use 1 = .ok (.iconst 0, 1) := by decide +kernel
theorem dL_use_2 : decode cL_use 2 = .ok (.aload_n 0, 1) := by decide +kernel
theorem dL_use_3 : decode cL_use 3 = .ok (.iload_n 1, 1) := by decide +kernel
theorem dL_use_4 : decode cL_use 4 = .ok (.invokevirtual 96, 3) := by decide +kernel
theorem dL_use_7 : decode cL_use 7 = .ok (.lastore, 1) := by decide +kernel
theorem dL_use_8 : decode cL_use 8 = .ok (.goto 9, 3) := by decide +kernel
theorem dL_use_11 : decode cL_use 11 = .ok (.astore_n 3, 1) := by decide +kernel
theorem dL_use_12 : decode cL_use 12 = .ok (.iconst 1, 1) := by decide +kernel
theorem dL_use_13 : decode cL_use 13 = .ok (.ireturn, 1) := by decide +kernel
theorem dL_use_14 : decode cL_use 14 = .ok (.astore_n 3, 1) := by decide +kernel
theorem dL_use_15 : decode cL_use 15 = .ok (.iconst 2, 1) := by decide +kernel
theorem dL_use_16 : decode cL_use 16 = .ok (.ireturn, 1) := by decide +kernel
theorem dL_use_17 : decode cL_use 17 = .ok (.iconst 0, 1) := by decide +kernel
theorem dL_use_18 : decode cL_use 18 = .ok (.ireturn, 1) := by decide +kernel
theorem dL_usedShare_0 : decode cL_usedShare 0 = .ok (.aload_n 1, 1) := by decide +kernel
theorem dL_usedShare_1 : decode cL_usedShare 1 = .ok (.iconst 0, 1) := by decide +kernel
theorem dL_usedShare_2 : decode cL_usedShare 2 = .ok (.aload_n 0, 1) := by decide +kernel
theorem dL_usedShare_3 : decode cL_usedShare 3 = .ok (.invokevirtual 100, 3) := by decide +kernel
theorem dL_usedShare_6 : decode cL_usedShare 6 = .ok (.f2d, 1) := by decide +kernel
theorem dL_usedShare_7 : decode cL_usedShare 7 = .ok (.dastore, 1) := by decide +kernel
theorem dL_usedShare_8 : decode cL_usedShare 8 = .ok (.goto 6, 3) := by decide +kernel
theorem dL_usedShare_11 : decode cL_usedShare 11 = .ok (.astore_n 2, 1) := by decide +kernel
theorem dL_usedShare_12 : decode cL_usedShare 12 = .ok (.iconst 1, 1) := by decide +kernel
theorem dL_usedShare_13 : decode cL_usedShare 13 = .ok (.ireturn, 1) := by decide +kernel
theorem dL_usedShare_14 : decode cL_usedShare 14 = .ok (.iconst 0, 1) := by decide +kernel
theorem dL_usedShare_15 : decode cL_usedShare 15 = .ok (.ireturn, 1) := by decide +kernel
theorem dL_meanStops_0 : decode cL_meanStops 0 = .ok (.aload_n 1, 1) := by decide +kernel
theorem dL_meanStops_1 : decode cL_meanStops 1 = .ok (.iconst 0, 1) := by decide +kernel
theorem dL_meanStops_2 : decode cL_meanStops 2 = .ok (.aload_n 0, 1) := by decide +kernel
theorem dL_meanStops_3 : decode cL_meanStops 3 = .ok (.invokevirtual 106, 3) := by decide +kernel
theorem dL_meanStops_6 : decode cL_meanStops 6 = .ok (.dastore, 1) := by decide +kernel
theorem dL_meanStops_7 : decode cL_meanStops 7 = .ok (.goto 6, 3) := by decide +kernel
theorem dL_meanStops_10 : decode cL_meanStops 10 = .ok (.astore_n 2, 1) := by decide +kernel
theorem dL_meanStops_11 : decode cL_meanStops 11 = .ok (.iconst 1, 1) := by decide +kernel
theorem dL_meanStops_12 : decode cL_meanStops 12 = .ok (.ireturn, 1) := by decide +kernel
theorem dL_meanStops_13 : decode cL_meanStops 13 = .ok (.iconst 0, 1) := by decide +kernel
theorem dL_meanStops_14 : decode cL_meanStops 14 = .ok (.ireturn, 1) := by decide +kernel
theorem dL_law_0 : decode cL_law 0 = .ok (.new 8, 3) := by decide +kernel
theorem dL_law_3 : decode cL_law 3 = .ok (.dup, 1) := by decide +kernel
theorem dL_law_4 : decode cL_law 4 = .ok (.invokespecial 110, 3) := by decide +kernel
theorem dL_law_7 : decode cL_law 7 = .ok (.astore_n 1, 1) := by decide +kernel
theorem dL_law_8 : decode cL_law 8 = .ok (.new 111, 3) := by decide +kernel
theorem dL_law_11 : decode cL_law 11 = .ok (.dup, 1) := by decide +kernel
theorem dL_law_12 : decode cL_law 12 = .ok (.invokespecial 113, 3) := by decide +kernel
theorem dL_law_15 : decode cL_law 15 = .ok (.astore_n 2, 1) := by decide +kernel
theorem dL_law_16 : decode cL_law 16 = .ok (.iconst 1, 1) := by decide +kernel
theorem dL_law_17 : decode cL_law 17 = .ok (.newarray .long, 2) := by decide +kernel
theorem dL_law_19 : decode cL_law 19 = .ok (.astore_n 3, 1) := by decide +kernel
theorem dL_law_20 : decode cL_law 20 = .ok (.iconst 1, 1) := by decide +kernel
theorem dL_law_21 : decode cL_law 21 = .ok (.newarray .double, 2) := by decide +kernel
theorem dL_law_23 : decode cL_law 23 = .ok (.astore 4, 2) := by decide +kernel
theorem dL_law_25 : decode cL_law 25 = .ok (.iconst 0, 1) := by decide +kernel
theorem dL_law_26 : decode cL_law 26 = .ok (.istore 5, 2) := by decide +kernel
theorem dL_law_28 : decode cL_law 28 = .ok (.iload 5, 2) := by decide +kernel
theorem dL_law_30 : decode cL_law 30 = .ok (.aload_n 0, 1) := by decide +kernel
theorem dL_law_31 : decode cL_law 31 = .ok (.arraylength, 1) := by decide +kernel
theorem dL_law_32 : decode cL_law 32 = .ok (.iconst 5, 1) := by decide +kernel
theorem dL_law_33 : decode cL_law 33 = .ok (.isub, 1) := by decide +kernel
theorem dL_law_34 : decode cL_law 34 = .ok (.if_icmp .gt 1858, 3) := by decide +kernel
theorem dL_law_37 : decode cL_law 37 = .ok (.aload_n 0, 1) := by decide +kernel
theorem dL_law_38 : decode cL_law 38 = .ok (.iload 5, 2) := by decide +kernel
theorem dL_law_40 : decode cL_law 40 = .ok (.iaload, 1) := by decide +kernel
theorem dL_law_41 : decode cL_law 41 = .ok (.bipush 31, 2) := by decide +kernel
theorem dL_law_43 : decode cL_law 43 = .ok (.iand, 1) := by decide +kernel
theorem dL_law_44 : decode cL_law 44 = .ok (.tableswitch 1842 0 30 #[140, 208, 276, 344, 400, 456, 469, 525, 581, 661, 717, 773, 786, 799, 855, 911, 967, 1023, 1079, 1171, 1251, 1307, 1363, 1419, 1475, 1531, 1587, 1643, 1698, 1764, 1829], 140) := by decide +kernel
theorem dL_law_184 : decode cL_law 184 = .ok (.aload_n 1, 1) := by decide +kernel
theorem dL_law_185 : decode cL_law 185 = .ok (.aload_n 0, 1) := by decide +kernel
theorem dL_law_186 : decode cL_law 186 = .ok (.iload 5, 2) := by decide +kernel
theorem dL_law_188 : decode cL_law 188 = .ok (.iconst 1, 1) := by decide +kernel
theorem dL_law_189 : decode cL_law 189 = .ok (.iadd, 1) := by decide +kernel
theorem dL_law_190 : decode cL_law 190 = .ok (.iaload, 1) := by decide +kernel
theorem dL_law_191 : decode cL_law 191 = .ok (.aload_n 0, 1) := by decide +kernel
theorem dL_law_192 : decode cL_law 192 = .ok (.iload 5, 2) := by decide +kernel
theorem dL_law_194 : decode cL_law 194 = .ok (.iconst 2, 1) := by decide +kernel
theorem dL_law_195 : decode cL_law 195 = .ok (.iadd, 1) := by decide +kernel
theorem dL_law_196 : decode cL_law 196 = .ok (.iaload, 1) := by decide +kernel
theorem dL_law_197 : decode cL_law 197 = .ok (.aload_n 3, 1) := by decide +kernel
theorem dL_law_198 : decode cL_law 198 = .ok (.invokestatic 114, 3) := by decide +kernel
theorem dL_law_201 : decode cL_law 201 = .ok (.istore 6, 2) := by decide +kernel
theorem dL_law_203 : decode cL_law 203 = .ok (.aload_n 2, 1) := by decide +kernel
theorem dL_law_204 : decode cL_law 204 = .ok (.aload_n 0, 1) := by decide +kernel
theorem dL_law_205 : decode cL_law 205 = .ok (.iload 5, 2) := by decide +kernel
theorem dL_law_207 : decode cL_law 207 = .ok (.iconst 1, 1) := by decide +kernel
theorem dL_law_208 : decode cL_law 208 = .ok (.iadd, 1) := by decide +kernel
theorem dL_law_209 : decode cL_law 209 = .ok (.iaload, 1) := by decide +kernel
theorem dL_law_210 : decode cL_law 210 = .ok (.aload_n 0, 1) := by decide +kernel
theorem dL_law_211 : decode cL_law 211 = .ok (.iload 5, 2) := by decide +kernel
theorem dL_law_213 : decode cL_law 213 = .ok (.iconst 2, 1) := by decide +kernel
theorem dL_law_214 : decode cL_law 214 = .ok (.iadd, 1) := by decide +kernel
theorem dL_law_215 : decode cL_law 215 = .ok (.iaload, 1) := by decide +kernel
theorem dL_law_216 : decode cL_law 216 = .ok (.invokevirtual 119, 3) := by decide +kernel
theorem dL_law_219 : decode cL_law 219 = .ok (.istore 7, 2) := by decide +kernel
theorem dL_law_221 : decode cL_law 221 = .ok (.aload_n 2, 1) := by decide +kernel
theorem dL_law_222 : decode cL_law 222 = .ok (.invokevirtual 120, 3) := by decide +kernel
theorem dL_law_225 : decode cL_law 225 = .ok (.iload 6, 2) := by decide +kernel
theorem dL_law_227 : decode cL_law 227 = .ok (.if_icmp .eq 5, 3) := by decide +kernel
theorem dL_law_230 : decode cL_law 230 = .ok (.iconst 0, 1) := by decide +kernel
theorem dL_law_231 : decode cL_law 231 = .ok (.ireturn, 1) := by decide +kernel
theorem dL_law_232 : decode cL_law 232 = .ok (.iload 6, 2) := by decide +kernel
theorem dL_law_234 : decode cL_law 234 = .ok (.ifCond .ne 15, 3) := by decide +kernel
theorem dL_law_237 : decode cL_law 237 = .ok (.aload_n 3, 1) := by decide +kernel
theorem dL_law_238 : decode cL_law 238 = .ok (.iconst 0, 1) := by decide +kernel
theorem dL_law_239 : decode cL_law 239 = .ok (.laload, 1) := by decide +kernel
theorem dL_law_240 : decode cL_law 240 = .ok (.iload 7, 2) := by decide +kernel
theorem dL_law_242 : decode cL_law 242 = .ok (.i2l, 1) := by decide +kernel
theorem dL_law_243 : decode cL_law 243 = .ok (.lcmp, 1) := by decide +kernel
theorem dL_law_244 : decode cL_law 244 = .ok (.ifCond .eq 5, 3) := by decide +kernel
theorem dL_law_247 : decode cL_law 247 = .ok (.iconst 0, 1) := by decide +kernel
theorem dL_law_248 : decode cL_law 248 = .ok (.ireturn, 1) := by decide +kernel
theorem dL_law_249 : decode cL_law 249 = .ok (.goto 1637, 3) := by decide +kernel
theorem dL_law_252 : decode cL_law 252 = .ok (.aload_n 1, 1) := by decide +kernel
theorem dL_law_253 : decode cL_law 253 = .ok (.aload_n 0, 1) := by decide +kernel
theorem dL_law_254 : decode cL_law 254 = .ok (.iload 5, 2) := by decide +kernel
theorem dL_law_256 : decode cL_law 256 = .ok (.iconst 1, 1) := by decide +kernel
theorem dL_law_257 : decode cL_law 257 = .ok (.iadd, 1) := by decide +kernel
theorem dL_law_258 : decode cL_law 258 = .ok (.iaload, 1) := by decide +kernel
theorem dL_law_259 : decode cL_law 259 = .ok (.aload_n 0, 1) := by decide +kernel
theorem dL_law_260 : decode cL_law 260 = .ok (.iload 5, 2) := by decide +kernel
theorem dL_law_262 : decode cL_law 262 = .ok (.iconst 2, 1) := by decide +kernel
theorem dL_law_263 : decode cL_law 263 = .ok (.iadd, 1) := by decide +kernel
theorem dL_law_264 : decode cL_law 264 = .ok (.iaload, 1) := by decide +kernel
theorem dL_law_265 : decode cL_law 265 = .ok (.aload_n 3, 1) := by decide +kernel
theorem dL_law_266 : decode cL_law 266 = .ok (.invokestatic 124, 3) := by decide +kernel
theorem dL_law_269 : decode cL_law 269 = .ok (.istore 6, 2) := by decide +kernel
theorem dL_law_271 : decode cL_law 271 = .ok (.aload_n 2, 1) := by decide +kernel
theorem dL_law_272 : decode cL_law 272 = .ok (.aload_n 0, 1) := by decide +kernel
theorem dL_law_273 : decode cL_law 273 = .ok (.iload 5, 2) := by decide +kernel
theorem dL_law_275 : decode cL_law 275 = .ok (.iconst 1, 1) := by decide +kernel
theorem dL_law_276 : decode cL_law 276 = .ok (.iadd, 1) := by decide +kernel
theorem dL_law_277 : decode cL_law 277 = .ok (.iaload, 1) := by decide +kernel
theorem dL_law_278 : decode cL_law 278 = .ok (.aload_n 0, 1) := by decide +kernel
theorem dL_law_279 : decode cL_law 279 = .ok (.iload 5, 2) := by decide +kernel
theorem dL_law_281 : decode cL_law 281 = .ok (.iconst 2, 1) := by decide +kernel
theorem dL_law_282 : decode cL_law 282 = .ok (.iadd, 1) := by decide +kernel
theorem dL_law_283 : decode cL_law 283 = .ok (.iaload, 1) := by decide +kernel
theorem dL_law_284 : decode cL_law 284 = .ok (.invokevirtual 126, 3) := by decide +kernel
theorem dL_law_287 : decode cL_law 287 = .ok (.istore 7, 2) := by decide +kernel
theorem dL_law_289 : decode cL_law 289 = .ok (.aload_n 2, 1) := by decide +kernel
theorem dL_law_290 : decode cL_law 290 = .ok (.invokevirtual 120, 3) := by decide +kernel
theorem dL_law_293 : decode cL_law 293 = .ok (.iload 6, 2) := by decide +kernel
theorem dL_law_295 : decode cL_law 295 = .ok (.if_icmp .eq 5, 3) := by decide +kernel
theorem dL_law_298 : decode cL_law 298 = .ok (.iconst 0, 1) := by decide +kernel
theorem dL_law_299 : decode cL_law 299 = .ok (.ireturn, 1) := by decide +kernel
theorem dL_law_300 : decode cL_law 300 = .ok (.iload 6, 2) := by decide +kernel
theorem dL_law_302 : decode cL_law 302 = .ok (.ifCond .ne 15, 3) := by decide +kernel
theorem dL_law_305 : decode cL_law 305 = .ok (.aload_n 3, 1) := by decide +kernel
theorem dL_law_306 : decode cL_law 306 = .ok (.iconst 0, 1) := by decide +kernel
theorem dL_law_307 : decode cL_law 307 = .ok (.laload, 1) := by decide +kernel
theorem dL_law_308 : decode cL_law 308 = .ok (.iload 7, 2) := by decide +kernel
theorem dL_law_310 : decode cL_law 310 = .ok (.i2l, 1) := by decide +kernel
theorem dL_law_311 : decode cL_law 311 = .ok (.lcmp, 1) := by decide +kernel
theorem dL_law_312 : decode cL_law 312 = .ok (.ifCond .eq 5, 3) := by decide +kernel
theorem dL_law_315 : decode cL_law 315 = .ok (.iconst 0, 1) := by decide +kernel
theorem dL_law_316 : decode cL_law 316 = .ok (.ireturn, 1) := by decide +kernel
theorem dL_law_317 : decode cL_law 317 = .ok (.goto 1569, 3) := by decide +kernel
theorem dL_law_320 : decode cL_law 320 = .ok (.aload_n 1, 1) := by decide +kernel
theorem dL_law_321 : decode cL_law 321 = .ok (.aload_n 0, 1) := by decide +kernel
theorem dL_law_322 : decode cL_law 322 = .ok (.iload 5, 2) := by decide +kernel
theorem dL_law_324 : decode cL_law 324 = .ok (.iconst 1, 1) := by decide +kernel
theorem dL_law_325 : decode cL_law 325 = .ok (.iadd, 1) := by decide +kernel
theorem dL_law_326 : decode cL_law 326 = .ok (.iaload, 1) := by decide +kernel
theorem dL_law_327 : decode cL_law 327 = .ok (.aload_n 0, 1) := by decide +kernel
theorem dL_law_328 : decode cL_law 328 = .ok (.iload 5, 2) := by decide +kernel
theorem dL_law_330 : decode cL_law 330 = .ok (.iconst 2, 1) := by decide +kernel
theorem dL_law_331 : decode cL_law 331 = .ok (.iadd, 1) := by decide +kernel
theorem dL_law_332 : decode cL_law 332 = .ok (.iaload, 1) := by decide +kernel
theorem dL_law_333 : decode cL_law 333 = .ok (.aload_n 3, 1) := by decide +kernel
theorem dL_law_334 : decode cL_law 334 = .ok (.invokestatic 127, 3) := by decide +kernel
theorem dL_law_337 : decode cL_law 337 = .ok (.istore 6, 2) := by decide +kernel
theorem dL_law_339 : decode cL_law 339 = .ok (.aload_n 2, 1) := by decide +kernel
theorem dL_law_340 : decode cL_law 340 = .ok (.aload_n 0, 1) := by decide +kernel
theorem dL_law_341 : decode cL_law 341 = .ok (.iload 5, 2) := by decide +kernel
theorem dL_law_343 : decode cL_law 343 = .ok (.iconst 1, 1) := by decide +kernel
theorem dL_law_344 : decode cL_law 344 = .ok (.iadd, 1) := by decide +kernel
theorem dL_law_345 : decode cL_law 345 = .ok (.iaload, 1) := by decide +kernel
theorem dL_law_346 : decode cL_law 346 = .ok (.aload_n 0, 1) := by decide +kernel
theorem dL_law_347 : decode cL_law 347 = .ok (.iload 5, 2) := by decide +kernel
theorem dL_law_349 : decode cL_law 349 = .ok (.iconst 2, 1) := by decide +kernel
theorem dL_law_350 : decode cL_law 350 = .ok (.iadd, 1) := by decide +kernel
theorem dL_law_351 : decode cL_law 351 = .ok (.iaload, 1) := by decide +kernel
theorem dL_law_352 : decode cL_law 352 = .ok (.invokevirtual 129, 3) := by decide +kernel
theorem dL_law_355 : decode cL_law 355 = .ok (.istore 7, 2) := by decide +kernel
theorem dL_law_357 : decode cL_law 357 = .ok (.aload_n 2, 1) := by decide +kernel
theorem dL_law_358 : decode cL_law 358 = .ok (.invokevirtual 120, 3) := by decide +kernel
theorem dL_law_361 : decode cL_law 361 = .ok (.iload 6, 2) := by decide +kernel
theorem dL_law_363 : decode cL_law 363 = .ok (.if_icmp .eq 5, 3) := by decide +kernel
theorem dL_law_366 : decode cL_law 366 = .ok (.iconst 0, 1) := by decide +kernel
theorem dL_law_367 : decode cL_law 367 = .ok (.ireturn, 1) := by decide +kernel
theorem dL_law_368 : decode cL_law 368 = .ok (.iload 6, 2) := by decide +kernel
theorem dL_law_370 : decode cL_law 370 = .ok (.ifCond .ne 15, 3) := by decide +kernel
theorem dL_law_373 : decode cL_law 373 = .ok (.aload_n 3, 1) := by decide +kernel
theorem dL_law_374 : decode cL_law 374 = .ok (.iconst 0, 1) := by decide +kernel
theorem dL_law_375 : decode cL_law 375 = .ok (.laload, 1) := by decide +kernel
theorem dL_law_376 : decode cL_law 376 = .ok (.iload 7, 2) := by decide +kernel
theorem dL_law_378 : decode cL_law 378 = .ok (.i2l, 1) := by decide +kernel
theorem dL_law_379 : decode cL_law 379 = .ok (.lcmp, 1) := by decide +kernel
theorem dL_law_380 : decode cL_law 380 = .ok (.ifCond .eq 5, 3) := by decide +kernel
theorem dL_law_383 : decode cL_law 383 = .ok (.iconst 0, 1) := by decide +kernel
theorem dL_law_384 : decode cL_law 384 = .ok (.ireturn, 1) := by decide +kernel
theorem dL_law_385 : decode cL_law 385 = .ok (.goto 1501, 3) := by decide +kernel
theorem dL_law_388 : decode cL_law 388 = .ok (.aload_n 1, 1) := by decide +kernel
theorem dL_law_389 : decode cL_law 389 = .ok (.aload_n 0, 1) := by decide +kernel
theorem dL_law_390 : decode cL_law 390 = .ok (.iload 5, 2) := by decide +kernel
theorem dL_law_392 : decode cL_law 392 = .ok (.iconst 1, 1) := by decide +kernel
theorem dL_law_393 : decode cL_law 393 = .ok (.iadd, 1) := by decide +kernel
theorem dL_law_394 : decode cL_law 394 = .ok (.iaload, 1) := by decide +kernel
theorem dL_law_395 : decode cL_law 395 = .ok (.aload_n 3, 1) := by decide +kernel
theorem dL_law_396 : decode cL_law 396 = .ok (.invokestatic 130, 3) := by decide +kernel
theorem dL_law_399 : decode cL_law 399 = .ok (.istore 6, 2) := by decide +kernel
theorem dL_law_401 : decode cL_law 401 = .ok (.aload_n 2, 1) := by decide +kernel
theorem dL_law_402 : decode cL_law 402 = .ok (.aload_n 0, 1) := by decide +kernel
theorem dL_law_403 : decode cL_law 403 = .ok (.iload 5, 2) := by decide +kernel
theorem dL_law_405 : decode cL_law 405 = .ok (.iconst 1, 1) := by decide +kernel
theorem dL_law_406 : decode cL_law 406 = .ok (.iadd, 1) := by decide +kernel
theorem dL_law_407 : decode cL_law 407 = .ok (.iaload, 1) := by decide +kernel
theorem dL_law_408 : decode cL_law 408 = .ok (.invokevirtual 133, 3) := by decide +kernel
theorem dL_law_411 : decode cL_law 411 = .ok (.istore 7, 2) := by decide +kernel
theorem dL_law_413 : decode cL_law 413 = .ok (.aload_n 2, 1) := by decide +kernel
theorem dL_law_414 : decode cL_law 414 = .ok (.invokevirtual 120, 3) := by decide +kernel
theorem dL_law_417 : decode cL_law 417 = .ok (.iload 6, 2) := by decide +kernel
theorem dL_law_419 : decode cL_law 419 = .ok (.if_icmp .eq 5, 3) := by decide +kernel
theorem dL_law_422 : decode cL_law 422 = .ok (.iconst 0, 1) := by decide +kernel
theorem dL_law_423 : decode cL_law 423 = .ok (.ireturn, 1) := by decide +kernel
theorem dL_law_424 : decode cL_law 424 = .ok (.iload 6, 2) := by decide +kernel
theorem dL_law_426 : decode cL_law 426 = .ok (.ifCond .ne 15, 3) := by decide +kernel
theorem dL_law_429 : decode cL_law 429 = .ok (.aload_n 3, 1) := by decide +kernel
theorem dL_law_430 : decode cL_law 430 = .ok (.iconst 0, 1) := by decide +kernel
theorem dL_law_431 : decode cL_law 431 = .ok (.laload, 1) := by decide +kernel
theorem dL_law_432 : decode cL_law 432 = .ok (.iload 7, 2) := by decide +kernel
theorem dL_law_434 : decode cL_law 434 = .ok (.i2l, 1) := by decide +kernel
theorem dL_law_435 : decode cL_law 435 = .ok (.lcmp, 1) := by decide +kernel
theorem dL_law_436 : decode cL_law 436 = .ok (.ifCond .eq 5, 3) := by decide +kernel
theorem dL_law_439 : decode cL_law 439 = .ok (.iconst 0, 1) := by decide +kernel
theorem dL_law_440 : decode cL_law 440 = .ok (.ireturn, 1) := by decide +kernel
theorem dL_law_441 : decode cL_law 441 = .ok (.goto 1445, 3) := by decide +kernel
theorem dL_law_444 : decode cL_law 444 = .ok (.aload_n 1, 1) := by decide +kernel
theorem dL_law_445 : decode cL_law 445 = .ok (.aload_n 0, 1) := by decide +kernel
theorem dL_law_446 : decode cL_law 446 = .ok (.iload 5, 2) := by decide +kernel
theorem dL_law_448 : decode cL_law 448 = .ok (.iconst 1, 1) := by decide +kernel
theorem dL_law_449 : decode cL_law 449 = .ok (.iadd, 1) := by decide +kernel
theorem dL_law_450 : decode cL_law 450 = .ok (.iaload, 1) := by decide +kernel
theorem dL_law_451 : decode cL_law 451 = .ok (.aload_n 3, 1) := by decide +kernel
theorem dL_law_452 : decode cL_law 452 = .ok (.invokestatic 134, 3) := by decide +kernel
theorem dL_law_455 : decode cL_law 455 = .ok (.istore 6, 2) := by decide +kernel
theorem dL_law_457 : decode cL_law 457 = .ok (.aload_n 2, 1) := by decide +kernel
theorem dL_law_458 : decode cL_law 458 = .ok (.aload_n 0, 1) := by decide +kernel
theorem dL_law_459 : decode cL_law 459 = .ok (.iload 5, 2) := by decide +kernel
theorem dL_law_461 : decode cL_law 461 = .ok (.iconst 1, 1) := by decide +kernel
theorem dL_law_462 : decode cL_law 462 = .ok (.iadd, 1) := by decide +kernel
theorem dL_law_463 : decode cL_law 463 = .ok (.iaload, 1) := by decide +kernel
theorem dL_law_464 : decode cL_law 464 = .ok (.invokevirtual 136, 3) := by decide +kernel
theorem dL_law_467 : decode cL_law 467 = .ok (.istore 7, 2) := by decide +kernel
theorem dL_law_469 : decode cL_law 469 = .ok (.aload_n 2, 1) := by decide +kernel
theorem dL_law_470 : decode cL_law 470 = .ok (.invokevirtual 120, 3) := by decide +kernel
theorem dL_law_473 : decode cL_law 473 = .ok (.iload 6, 2) := by decide +kernel
theorem dL_law_475 : decode cL_law 475 = .ok (.if_icmp .eq 5, 3) := by decide +kernel
theorem dL_law_478 : decode cL_law 478 = .ok (.iconst 0, 1) := by decide +kernel
theorem dL_law_479 : decode cL_law 479 = .ok (.ireturn, 1) := by decide +kernel
theorem dL_law_480 : decode cL_law 480 = .ok (.iload 6, 2) := by decide +kernel
theorem dL_law_482 : decode cL_law 482 = .ok (.ifCond .ne 15, 3) := by decide +kernel
theorem dL_law_485 : decode cL_law 485 = .ok (.aload_n 3, 1) := by decide +kernel
theorem dL_law_486 : decode cL_law 486 = .ok (.iconst 0, 1) := by decide +kernel
theorem dL_law_487 : decode cL_law 487 = .ok (.laload, 1) := by decide +kernel
theorem dL_law_488 : decode cL_law 488 = .ok (.iload 7, 2) := by decide +kernel
theorem dL_law_490 : decode cL_law 490 = .ok (.i2l, 1) := by decide +kernel
theorem dL_law_491 : decode cL_law 491 = .ok (.lcmp, 1) := by decide +kernel
theorem dL_law_492 : decode cL_law 492 = .ok (.ifCond .eq 5, 3) := by decide +kernel
theorem dL_law_495 : decode cL_law 495 = .ok (.iconst 0, 1) := by decide +kernel
theorem dL_law_496 : decode cL_law 496 = .ok (.ireturn, 1) := by decide +kernel
theorem dL_law_497 : decode cL_law 497 = .ok (.goto 1389, 3) := by decide +kernel
theorem dL_law_500 : decode cL_law 500 = .ok (.aload_n 1, 1) := by decide +kernel
theorem dL_law_501 : decode cL_law 501 = .ok (.invokevirtual 137, 3) := by decide +kernel
theorem dL_law_504 : decode cL_law 504 = .ok (.aload_n 2, 1) := by decide +kernel
theorem dL_law_505 : decode cL_law 505 = .ok (.invokevirtual 140, 3) := by decide +kernel
theorem dL_law_508 : decode cL_law 508 = .ok (.if_icmp .eq 1378, 3) := by decide +kernel
theorem dL_law_511 : decode cL_law 511 = .ok (.iconst 0, 1) := by decide +kernel
theorem dL_law_512 : decode cL_law 512 = .ok (.ireturn, 1) := by decide +kernel
theorem dL_law_513 : decode cL_law 513 = .ok (.aload_n 1, 1) := by decide +kernel
theorem dL_law_514 : decode cL_law 514 = .ok (.aload_n 0, 1) := by decide +kernel
theorem dL_law_515 : decode cL_law 515 = .ok (.iload 5, 2) := by decide +kernel
theorem dL_law_517 : decode cL_law 517 = .ok (.iconst 1, 1) := by decide +kernel
theorem dL_law_518 : decode cL_law 518 = .ok (.iadd, 1) := by decide +kernel
theorem dL_law_519 : decode cL_law 519 = .ok (.iaload, 1) := by decide +kernel
theorem dL_law_520 : decode cL_law 520 = .ok (.aload_n 3, 1) := by decide +kernel
theorem dL_law_521 : decode cL_law 521 = .ok (.invokestatic 141, 3) := by decide +kernel
theorem dL_law_524 : decode cL_law 524 = .ok (.istore 6, 2) := by decide +kernel
theorem dL_law_526 : decode cL_law 526 = .ok (.aload_n 2, 1) := by decide +kernel
theorem dL_law_527 : decode cL_law 527 = .ok (.aload_n 0, 1) := by decide +kernel
theorem dL_law_528 : decode cL_law 528 = .ok (.iload 5, 2) := by decide +kernel
theorem dL_law_530 : decode cL_law 530 = .ok (.iconst 1, 1) := by decide +kernel
theorem dL_law_531 : decode cL_law 531 = .ok (.iadd, 1) := by decide +kernel
theorem dL_law_532 : decode cL_law 532 = .ok (.iaload, 1) := by decide +kernel
theorem dL_law_533 : decode cL_law 533 = .ok (.invokevirtual 143, 3) := by decide +kernel
theorem dL_law_536 : decode cL_law 536 = .ok (.istore 7, 2) := by decide +kernel
theorem dL_law_538 : decode cL_law 538 = .ok (.aload_n 2, 1) := by decide +kernel
theorem dL_law_539 : decode cL_law 539 = .ok (.invokevirtual 120, 3) := by decide +kernel
theorem dL_law_542 : decode cL_law 542 = .ok (.iload 6, 2) := by decide +kernel
theorem dL_law_544 : decode cL_law 544 = .ok (.if_icmp .eq 5, 3) := by decide +kernel
theorem dL_law_547 : decode cL_law 547 = .ok (.iconst 0, 1) := by decide +kernel
theorem dL_law_548 : decode cL_law 548 = .ok (.ireturn, 1) := by decide +kernel
theorem dL_law_549 : decode cL_law 549 = .ok (.iload 6, 2) := by decide +kernel
theorem dL_law_551 : decode cL_law 551 = .ok (.ifCond .ne 15, 3) := by decide +kernel
theorem dL_law_554 : decode cL_law 554 = .ok (.aload_n 3, 1) := by decide +kernel
theorem dL_law_555 : decode cL_law 555 = .ok (.iconst 0, 1) := by decide +kernel
theorem dL_law_556 : decode cL_law 556 = .ok (.laload, 1) := by decide +kernel
theorem dL_law_557 : decode cL_law 557 = .ok (.iload 7, 2) := by decide +kernel
theorem dL_law_559 : decode cL_law 559 = .ok (.i2l, 1) := by decide +kernel
theorem dL_law_560 : decode cL_law 560 = .ok (.lcmp, 1) := by decide +kernel
theorem dL_law_561 : decode cL_law 561 = .ok (.ifCond .eq 5, 3) := by decide +kernel
theorem dL_law_564 : decode cL_law 564 = .ok (.iconst 0, 1) := by decide +kernel
theorem dL_law_565 : decode cL_law 565 = .ok (.ireturn, 1) := by decide +kernel
theorem dL_law_566 : decode cL_law 566 = .ok (.goto 1320, 3) := by decide +kernel
theorem dL_law_569 : decode cL_law 569 = .ok (.aload_n 1, 1) := by decide +kernel
theorem dL_law_570 : decode cL_law 570 = .ok (.aload_n 0, 1) := by decide +kernel
theorem dL_law_571 : decode cL_law 571 = .ok (.iload 5, 2) := by decide +kernel
theorem dL_law_573 : decode cL_law 573 = .ok (.iconst 1, 1) := by decide +kernel
theorem dL_law_574 : decode cL_law 574 = .ok (.iadd, 1) := by decide +kernel
theorem dL_law_575 : decode cL_law 575 = .ok (.iaload, 1) := by decide +kernel
theorem dL_law_576 : decode cL_law 576 = .ok (.aload_n 3, 1) := by decide +kernel
theorem dL_law_577 : decode cL_law 577 = .ok (.invokestatic 144, 3) := by decide +kernel
theorem dL_law_580 : decode cL_law 580 = .ok (.istore 6, 2) := by decide +kernel
theorem dL_law_582 : decode cL_law 582 = .ok (.aload_n 2, 1) := by decide +kernel
theorem dL_law_583 : decode cL_law 583 = .ok (.aload_n 0, 1) := by decide +kernel
theorem dL_law_584 : decode cL_law 584 = .ok (.iload 5, 2) := by decide +kernel
theorem dL_law_586 : decode cL_law 586 = .ok (.iconst 1, 1) := by decide +kernel
theorem dL_law_587 : decode cL_law 587 = .ok (.iadd, 1) := by decide +kernel
theorem dL_law_588 : decode cL_law 588 = .ok (.iaload, 1) := by decide +kernel
theorem dL_law_589 : decode cL_law 589 = .ok (.invokevirtual 146, 3) := by decide +kernel
theorem dL_law_592 : decode cL_law 592 = .ok (.istore 7, 2) := by decide +kernel
theorem dL_law_594 : decode cL_law 594 = .ok (.aload_n 2, 1) := by decide +kernel
theorem dL_law_595 : decode cL_law 595 = .ok (.invokevirtual 120, 3) := by decide +kernel
theorem dL_law_598 : decode cL_law 598 = .ok (.iload 6, 2) := by decide +kernel
theorem dL_law_600 : decode cL_law 600 = .ok (.if_icmp .eq 5, 3) := by decide +kernel
theorem dL_law_603 : decode cL_law 603 = .ok (.iconst 0, 1) := by decide +kernel
theorem dL_law_604 : decode cL_law 604 = .ok (.ireturn, 1) := by decide +kernel
theorem dL_law_605 : decode cL_law 605 = .ok (.iload 6, 2) := by decide +kernel
theorem dL_law_607 : decode cL_law 607 = .ok (.ifCond .ne 15, 3) := by decide +kernel
theorem dL_law_610 : decode cL_law 610 = .ok (.aload_n 3, 1) := by decide +kernel
theorem dL_law_611 : decode cL_law 611 = .ok (.iconst 0, 1) := by decide +kernel
theorem dL_law_612 : decode cL_law 612 = .ok (.laload, 1) := by decide +kernel
theorem dL_law_613 : decode cL_law 613 = .ok (.iload 7, 2) := by decide +kernel
theorem dL_law_615 : decode cL_law 615 = .ok (.i2l, 1) := by decide +kernel
theorem dL_law_616 : decode cL_law 616 = .ok (.lcmp, 1) := by decide +kernel
theorem dL_law_617 : decode cL_law 617 = .ok (.ifCond .eq 5, 3) := by decide +kernel
theorem dL_law_620 : decode cL_law 620 = .ok (.iconst 0, 1) := by decide +kernel
theorem dL_law_621 : decode cL_law 621 = .ok (.ireturn, 1) := by decide +kernel
theorem dL_law_622 : decode cL_law 622 = .ok (.goto 1264, 3) := by decide +kernel
theorem dL_law_625 : decode cL_law 625 = .ok (.aload_n 1, 1) := by decide +kernel
theorem dL_law_626 : decode cL_law 626 = .ok (.aload_n 0, 1) := by decide +kernel
theorem dL_law_627 : decode cL_law 627 = .ok (.iload 5, 2) := by decide +kernel
theorem dL_law_629 : decode cL_law 629 = .ok (.iconst 1, 1) := by decide +kernel
theorem dL_law_630 : decode cL_law 630 = .ok (.iadd, 1) := by decide +kernel
theorem dL_law_631 : decode cL_law 631 = .ok (.iaload, 1) := by decide +kernel
theorem dL_law_632 : decode cL_law 632 = .ok (.aload_n 0, 1) := by decide +kernel
theorem dL_law_633 : decode cL_law 633 = .ok (.iload 5, 2) := by decide +kernel
theorem dL_law_635 : decode cL_law 635 = .ok (.iconst 2, 1) := by decide +kernel
theorem dL_law_636 : decode cL_law 636 = .ok (.iadd, 1) := by decide +kernel
theorem dL_law_637 : decode cL_law 637 = .ok (.iaload, 1) := by decide +kernel
theorem dL_law_638 : decode cL_law 638 = .ok (.aload_n 0, 1) := by decide +kernel
theorem dL_law_639 : decode cL_law 639 = .ok (.iload 5, 2) := by decide +kernel
theorem dL_law_641 : decode cL_law 641 = .ok (.iconst 3, 1) := by decide +kernel
theorem dL_law_642 : decode cL_law 642 = .ok (.iadd, 1) := by decide +kernel
theorem dL_law_643 : decode cL_law 643 = .ok (.iaload, 1) := by decide +kernel
theorem dL_law_644 : decode cL_law 644 = .ok (.aload_n 3, 1) := by decide +kernel
theorem dL_law_645 : decode cL_law 645 = .ok (.invokestatic 147, 3) := by decide +kernel
theorem dL_law_648 : decode cL_law 648 = .ok (.istore 6, 2) := by decide +kernel
theorem dL_law_650 : decode cL_law 650 = .ok (.aload_n 2, 1) := by decide +kernel
theorem dL_law_651 : decode cL_law 651 = .ok (.aload_n 0, 1) := by decide +kernel
theorem dL_law_652 : decode cL_law 652 = .ok (.iload 5, 2) := by decide +kernel
theorem dL_law_654 : decode cL_law 654 = .ok (.iconst 1, 1) := by decide +kernel
theorem dL_law_655 : decode cL_law 655 = .ok (.iadd, 1) := by decide +kernel
theorem dL_law_656 : decode cL_law 656 = .ok (.iaload, 1) := by decide +kernel
theorem dL_law_657 : decode cL_law 657 = .ok (.aload_n 0, 1) := by decide +kernel
theorem dL_law_658 : decode cL_law 658 = .ok (.iload 5, 2) := by decide +kernel
theorem dL_law_660 : decode cL_law 660 = .ok (.iconst 2, 1) := by decide +kernel
theorem dL_law_661 : decode cL_law 661 = .ok (.iadd, 1) := by decide +kernel
theorem dL_law_662 : decode cL_law 662 = .ok (.iaload, 1) := by decide +kernel
theorem dL_law_663 : decode cL_law 663 = .ok (.aload_n 0, 1) := by decide +kernel
theorem dL_law_664 : decode cL_law 664 = .ok (.iload 5, 2) := by decide +kernel
theorem dL_law_666 : decode cL_law 666 = .ok (.iconst 3, 1) := by decide +kernel
theorem dL_law_667 : decode cL_law 667 = .ok (.iadd, 1) := by decide +kernel
theorem dL_law_668 : decode cL_law 668 = .ok (.iaload, 1) := by decide +kernel
theorem dL_law_669 : decode cL_law 669 = .ok (.invokevirtual 150, 3) := by decide +kernel
theorem dL_law_672 : decode cL_law 672 = .ok (.istore 7, 2) := by decide +kernel
theorem dL_law_674 : decode cL_law 674 = .ok (.aload_n 2, 1) := by decide +kernel
theorem dL_law_675 : decode cL_law 675 = .ok (.invokevirtual 120, 3) := by decide +kernel
theorem dL_law_678 : decode cL_law 678 = .ok (.iload 6, 2) := by decide +kernel
theorem dL_law_680 : decode cL_law 680 = .ok (.if_icmp .eq 5, 3) := by decide +kernel
theorem dL_law_683 : decode cL_law 683 = .ok (.iconst 0, 1) := by decide +kernel
theorem dL_law_684 : decode cL_law 684 = .ok (.ireturn, 1) := by decide +kernel
theorem dL_law_685 : decode cL_law 685 = .ok (.iload 6, 2) := by decide +kernel
theorem dL_law_687 : decode cL_law 687 = .ok (.ifCond .ne 15, 3) := by decide +kernel
theorem dL_law_690 : decode cL_law 690 = .ok (.aload_n 3, 1) := by decide +kernel
theorem dL_law_691 : decode cL_law 691 = .ok (.iconst 0, 1) := by decide +kernel
theorem dL_law_692 : decode cL_law 692 = .ok (.laload, 1) := by decide +kernel
theorem dL_law_693 : decode cL_law 693 = .ok (.iload 7, 2) := by decide +kernel
theorem dL_law_695 : decode cL_law 695 = .ok (.i2l, 1) := by decide +kernel
theorem dL_law_696 : decode cL_law 696 = .ok (.lcmp, 1) := by decide +kernel
theorem dL_law_697 : decode cL_law 697 = .ok (.ifCond .eq 5, 3) := by decide +kernel
theorem dL_law_700 : decode cL_law 700 = .ok (.iconst 0, 1) := by decide +kernel
theorem dL_law_701 : decode cL_law 701 = .ok (.ireturn, 1) := by decide +kernel
theorem dL_law_702 : decode cL_law 702 = .ok (.goto 1184, 3) := by decide +kernel
theorem dL_law_705 : decode cL_law 705 = .ok (.aload_n 1, 1) := by decide +kernel
theorem dL_law_706 : decode cL_law 706 = .ok (.aload_n 0, 1) := by decide +kernel
theorem dL_law_707 : decode cL_law 707 = .ok (.iload 5, 2) := by decide +kernel
theorem dL_law_709 : decode cL_law 709 = .ok (.iconst 1, 1) := by decide +kernel
theorem dL_law_710 : decode cL_law 710 = .ok (.iadd, 1) := by decide +kernel
theorem dL_law_711 : decode cL_law 711 = .ok (.iaload, 1) := by decide +kernel
theorem dL_law_712 : decode cL_law 712 = .ok (.aload_n 3, 1) := by decide +kernel
theorem dL_law_713 : decode cL_law 713 = .ok (.invokestatic 151, 3) := by decide +kernel
theorem dL_law_716 : decode cL_law 716 = .ok (.istore 6, 2) := by decide +kernel
theorem dL_law_718 : decode cL_law 718 = .ok (.aload_n 2, 1) := by decide +kernel
theorem dL_law_719 : decode cL_law 719 = .ok (.aload_n 0, 1) := by decide +kernel
theorem dL_law_720 : decode cL_law 720 = .ok (.iload 5, 2) := by decide +kernel
theorem dL_law_722 : decode cL_law 722 = .ok (.iconst 1, 1) := by decide +kernel
theorem dL_law_723 : decode cL_law 723 = .ok (.iadd, 1) := by decide +kernel
theorem dL_law_724 : decode cL_law 724 = .ok (.iaload, 1) := by decide +kernel
theorem dL_law_725 : decode cL_law 725 = .ok (.invokevirtual 153, 3) := by decide +kernel
theorem dL_law_728 : decode cL_law 728 = .ok (.istore 7, 2) := by decide +kernel
theorem dL_law_730 : decode cL_law 730 = .ok (.aload_n 2, 1) := by decide +kernel
theorem dL_law_731 : decode cL_law 731 = .ok (.invokevirtual 120, 3) := by decide +kernel
theorem dL_law_734 : decode cL_law 734 = .ok (.iload 6, 2) := by decide +kernel
theorem dL_law_736 : decode cL_law 736 = .ok (.if_icmp .eq 5, 3) := by decide +kernel
theorem dL_law_739 : decode cL_law 739 = .ok (.iconst 0, 1) := by decide +kernel
theorem dL_law_740 : decode cL_law 740 = .ok (.ireturn, 1) := by decide +kernel
theorem dL_law_741 : decode cL_law 741 = .ok (.iload 6, 2) := by decide +kernel
theorem dL_law_743 : decode cL_law 743 = .ok (.ifCond .ne 15, 3) := by decide +kernel
theorem dL_law_746 : decode cL_law 746 = .ok (.aload_n 3, 1) := by decide +kernel
theorem dL_law_747 : decode cL_law 747 = .ok (.iconst 0, 1) := by decide +kernel
theorem dL_law_748 : decode cL_law 748 = .ok (.laload, 1) := by decide +kernel
theorem dL_law_749 : decode cL_law 749 = .ok (.iload 7, 2) := by decide +kernel
theorem dL_law_751 : decode cL_law 751 = .ok (.i2l, 1) := by decide +kernel
theorem dL_law_752 : decode cL_law 752 = .ok (.lcmp, 1) := by decide +kernel
theorem dL_law_753 : decode cL_law 753 = .ok (.ifCond .eq 5, 3) := by decide +kernel
theorem dL_law_756 : decode cL_law 756 = .ok (.iconst 0, 1) := by decide +kernel
theorem dL_law_757 : decode cL_law 757 = .ok (.ireturn, 1) := by decide +kernel
theorem dL_law_758 : decode cL_law 758 = .ok (.goto 1128, 3) := by decide +kernel
theorem dL_law_761 : decode cL_law 761 = .ok (.aload_n 1, 1) := by decide +kernel
theorem dL_law_762 : decode cL_law 762 = .ok (.aload_n 0, 1) := by decide +kernel
theorem dL_law_763 : decode cL_law 763 = .ok (.iload 5, 2) := by decide +kernel
theorem dL_law_765 : decode cL_law 765 = .ok (.iconst 1, 1) := by decide +kernel
theorem dL_law_766 : decode cL_law 766 = .ok (.iadd, 1) := by decide +kernel
theorem dL_law_767 : decode cL_law 767 = .ok (.iaload, 1) := by decide +kernel
theorem dL_law_768 : decode cL_law 768 = .ok (.aload_n 3, 1) := by decide +kernel
theorem dL_law_769 : decode cL_law 769 = .ok (.invokestatic 154, 3) := by decide +kernel
theorem dL_law_772 : decode cL_law 772 = .ok (.istore 6, 2) := by decide +kernel
theorem dL_law_774 : decode cL_law 774 = .ok (.aload_n 2, 1) := by decide +kernel
theorem dL_law_775 : decode cL_law 775 = .ok (.aload_n 0, 1) := by decide +kernel
theorem dL_law_776 : decode cL_law 776 = .ok (.iload 5, 2) := by decide +kernel
theorem dL_law_778 : decode cL_law 778 = .ok (.iconst 1, 1) := by decide +kernel
theorem dL_law_779 : decode cL_law 779 = .ok (.iadd, 1) := by decide +kernel
theorem dL_law_780 : decode cL_law 780 = .ok (.iaload, 1) := by decide +kernel
theorem dL_law_781 : decode cL_law 781 = .ok (.invokevirtual 156, 3) := by decide +kernel
theorem dL_law_784 : decode cL_law 784 = .ok (.istore 7, 2) := by decide +kernel
theorem dL_law_786 : decode cL_law 786 = .ok (.aload_n 2, 1) := by decide +kernel
theorem dL_law_787 : decode cL_law 787 = .ok (.invokevirtual 120, 3) := by decide +kernel
theorem dL_law_790 : decode cL_law 790 = .ok (.iload 6, 2) := by decide +kernel
theorem dL_law_792 : decode cL_law 792 = .ok (.if_icmp .eq 5, 3) := by decide +kernel
theorem dL_law_795 : decode cL_law 795 = .ok (.iconst 0, 1) := by decide +kernel
theorem dL_law_796 : decode cL_law 796 = .ok (.ireturn, 1) := by decide +kernel
theorem dL_law_797 : decode cL_law 797 = .ok (.iload 6, 2) := by decide +kernel
theorem dL_law_799 : decode cL_law 799 = .ok (.ifCond .ne 15, 3) := by decide +kernel
theorem dL_law_802 : decode cL_law 802 = .ok (.aload_n 3, 1) := by decide +kernel
theorem dL_law_803 : decode cL_law 803 = .ok (.iconst 0, 1) := by decide +kernel
theorem dL_law_804 : decode cL_law 804 = .ok (.laload, 1) := by decide +kernel
theorem dL_law_805 : decode cL_law 805 = .ok (.iload 7, 2) := by decide +kernel
theorem dL_law_807 : decode cL_law 807 = .ok (.i2l, 1) := by decide +kernel
theorem dL_law_808 : decode cL_law 808 = .ok (.lcmp, 1) := by decide +kernel
theorem dL_law_809 : decode cL_law 809 = .ok (.ifCond .eq 5, 3) := by decide +kernel
theorem dL_law_812 : decode cL_law 812 = .ok (.iconst 0, 1) := by decide +kernel
theorem dL_law_813 : decode cL_law 813 = .ok (.ireturn, 1) := by decide +kernel
theorem dL_law_814 : decode cL_law 814 = .ok (.goto 1072, 3) := by decide +kernel
theorem dL_law_817 : decode cL_law 817 = .ok (.aload_n 1, 1) := by decide +kernel
theorem dL_law_818 : decode cL_law 818 = .ok (.invokevirtual 157, 3) := by decide +kernel
theorem dL_law_821 : decode cL_law 821 = .ok (.aload_n 2, 1) := by decide +kernel
theorem dL_law_822 : decode cL_law 822 = .ok (.invokevirtual 160, 3) := by decide +kernel
theorem dL_law_825 : decode cL_law 825 = .ok (.if_icmp .eq 1061, 3) := by decide +kernel
theorem dL_law_828 : decode cL_law 828 = .ok (.iconst 0, 1) := by decide +kernel
theorem dL_law_829 : decode cL_law 829 = .ok (.ireturn, 1) := by decide +kernel
theorem dL_law_830 : decode cL_law 830 = .ok (.aload_n 1, 1) := by decide +kernel
theorem dL_law_831 : decode cL_law 831 = .ok (.invokevirtual 161, 3) := by decide +kernel
theorem dL_law_834 : decode cL_law 834 = .ok (.aload_n 2, 1) := by decide +kernel
theorem dL_law_835 : decode cL_law 835 = .ok (.invokevirtual 164, 3) := by decide +kernel
theorem dL_law_838 : decode cL_law 838 = .ok (.if_icmp .eq 1048, 3) := by decide +kernel
theorem dL_law_841 : decode cL_law 841 = .ok (.iconst 0, 1) := by decide +kernel
theorem dL_law_842 : decode cL_law 842 = .ok (.ireturn, 1) := by decide +kernel
theorem dL_law_843 : decode cL_law 843 = .ok (.aload_n 1, 1) := by decide +kernel
theorem dL_law_844 : decode cL_law 844 = .ok (.aload_n 0, 1) := by decide +kernel
theorem dL_law_845 : decode cL_law 845 = .ok (.iload 5, 2) := by decide +kernel
theorem dL_law_847 : decode cL_law 847 = .ok (.iconst 1, 1) := by decide +kernel
theorem dL_law_848 : decode cL_law 848 = .ok (.iadd, 1) := by decide +kernel
theorem dL_law_849 : decode cL_law 849 = .ok (.iaload, 1) := by decide +kernel
theorem dL_law_850 : decode cL_law 850 = .ok (.aload_n 3, 1) := by decide +kernel
theorem dL_law_851 : decode cL_law 851 = .ok (.invokestatic 165, 3) := by decide +kernel
theorem dL_law_854 : decode cL_law 854 = .ok (.istore 6, 2) := by decide +kernel
theorem dL_law_856 : decode cL_law 856 = .ok (.aload_n 2, 1) := by decide +kernel
theorem dL_law_857 : decode cL_law 857 = .ok (.aload_n 0, 1) := by decide +kernel
theorem dL_law_858 : decode cL_law 858 = .ok (.iload 5, 2) := by decide +kernel
theorem dL_law_860 : decode cL_law 860 = .ok (.iconst 1, 1) := by decide +kernel
theorem dL_law_861 : decode cL_law 861 = .ok (.iadd, 1) := by decide +kernel
theorem dL_law_862 : decode cL_law 862 = .ok (.iaload, 1) := by decide +kernel
theorem dL_law_863 : decode cL_law 863 = .ok (.invokevirtual 167, 3) := by decide +kernel
theorem dL_law_866 : decode cL_law 866 = .ok (.istore 7, 2) := by decide +kernel
theorem dL_law_868 : decode cL_law 868 = .ok (.aload_n 2, 1) := by decide +kernel
theorem dL_law_869 : decode cL_law 869 = .ok (.invokevirtual 120, 3) := by decide +kernel
theorem dL_law_872 : decode cL_law 872 = .ok (.iload 6, 2) := by decide +kernel
theorem dL_law_874 : decode cL_law 874 = .ok (.if_icmp .eq 5, 3) := by decide +kernel
theorem dL_law_877 : decode cL_law 877 = .ok (.iconst 0, 1) := by decide +kernel
theorem dL_law_878 : decode cL_law 878 = .ok (.ireturn, 1) := by decide +kernel
theorem dL_law_879 : decode cL_law 879 = .ok (.iload 6, 2) := by decide +kernel
theorem dL_law_881 : decode cL_law 881 = .ok (.ifCond .ne 15, 3) := by decide +kernel
theorem dL_law_884 : decode cL_law 884 = .ok (.aload_n 3, 1) := by decide +kernel
theorem dL_law_885 : decode cL_law 885 = .ok (.iconst 0, 1) := by decide +kernel
theorem dL_law_886 : decode cL_law 886 = .ok (.laload, 1) := by decide +kernel
theorem dL_law_887 : decode cL_law 887 = .ok (.iload 7, 2) := by decide +kernel
theorem dL_law_889 : decode cL_law 889 = .ok (.i2l, 1) := by decide +kernel
theorem dL_law_890 : decode cL_law 890 = .ok (.lcmp, 1) := by decide +kernel
theorem dL_law_891 : decode cL_law 891 = .ok (.ifCond .eq 5, 3) := by decide +kernel
theorem dL_law_894 : decode cL_law 894 = .ok (.iconst 0, 1) := by decide +kernel
theorem dL_law_895 : decode cL_law 895 = .ok (.ireturn, 1) := by decide +kernel
theorem dL_law_896 : decode cL_law 896 = .ok (.goto 990, 3) := by decide +kernel
theorem dL_law_899 : decode cL_law 899 = .ok (.aload_n 1, 1) := by decide +kernel
theorem dL_law_900 : decode cL_law 900 = .ok (.aload_n 0, 1) := by decide +kernel
theorem dL_law_901 : decode cL_law 901 = .ok (.iload 5, 2) := by decide +kernel
theorem dL_law_903 : decode cL_law 903 = .ok (.iconst 1, 1) := by decide +kernel
theorem dL_law_904 : decode cL_law 904 = .ok (.iadd, 1) := by decide +kernel
theorem dL_law_905 : decode cL_law 905 = .ok (.iaload, 1) := by decide +kernel
theorem dL_law_906 : decode cL_law 906 = .ok (.aload_n 3, 1) := by decide +kernel
theorem dL_law_907 : decode cL_law 907 = .ok (.invokestatic 168, 3) := by decide +kernel
theorem dL_law_910 : decode cL_law 910 = .ok (.istore 6, 2) := by decide +kernel
theorem dL_law_912 : decode cL_law 912 = .ok (.aload_n 2, 1) := by decide +kernel
theorem dL_law_913 : decode cL_law 913 = .ok (.aload_n 0, 1) := by decide +kernel
theorem dL_law_914 : decode cL_law 914 = .ok (.iload 5, 2) := by decide +kernel
theorem dL_law_916 : decode cL_law 916 = .ok (.iconst 1, 1) := by decide +kernel
theorem dL_law_917 : decode cL_law 917 = .ok (.iadd, 1) := by decide +kernel
theorem dL_law_918 : decode cL_law 918 = .ok (.iaload, 1) := by decide +kernel
theorem dL_law_919 : decode cL_law 919 = .ok (.invokevirtual 170, 3) := by decide +kernel
theorem dL_law_922 : decode cL_law 922 = .ok (.istore 7, 2) := by decide +kernel
theorem dL_law_924 : decode cL_law 924 = .ok (.aload_n 2, 1) := by decide +kernel
theorem dL_law_925 : decode cL_law 925 = .ok (.invokevirtual 120, 3) := by decide +kernel
theorem dL_law_928 : decode cL_law 928 = .ok (.iload 6, 2) := by decide +kernel
theorem dL_law_930 : decode cL_law 930 = .ok (.if_icmp .eq 5, 3) := by decide +kernel
theorem dL_law_933 : decode cL_law 933 = .ok (.iconst 0, 1) := by decide +kernel
theorem dL_law_934 : decode cL_law 934 = .ok (.ireturn, 1) := by decide +kernel
theorem dL_law_935 : decode cL_law 935 = .ok (.iload 6, 2) := by decide +kernel
theorem dL_law_937 : decode cL_law 937 = .ok (.ifCond .ne 15, 3) := by decide +kernel
theorem dL_law_940 : decode cL_law 940 = .ok (.aload_n 3, 1) := by decide +kernel
theorem dL_law_941 : decode cL_law 941 = .ok (.iconst 0, 1) := by decide +kernel
theorem dL_law_942 : decode cL_law 942 = .ok (.laload, 1) := by decide +kernel
theorem dL_law_943 : decode cL_law 943 = .ok (.iload 7, 2) := by decide +kernel
theorem dL_law_945 : decode cL_law 945 = .ok (.i2l, 1) := by decide +kernel
theorem dL_law_946 : decode cL_law 946 = .ok (.lcmp, 1) := by decide +kernel
theorem dL_law_947 : decode cL_law 947 = .ok (.ifCond .eq 5, 3) := by decide +kernel
theorem dL_law_950 : decode cL_law 950 = .ok (.iconst 0, 1) := by decide +kernel
theorem dL_law_951 : decode cL_law 951 = .ok (.ireturn, 1) := by decide +kernel
theorem dL_law_952 : decode cL_law 952 = .ok (.goto 934, 3) := by decide +kernel
theorem dL_law_955 : decode cL_law 955 = .ok (.aload_n 1, 1) := by decide +kernel
theorem dL_law_956 : decode cL_law 956 = .ok (.aload_n 0, 1) := by decide +kernel
theorem dL_law_957 : decode cL_law 957 = .ok (.iload 5, 2) := by decide +kernel
theorem dL_law_959 : decode cL_law 959 = .ok (.iconst 1, 1) := by decide +kernel
theorem dL_law_960 : decode cL_law 960 = .ok (.iadd, 1) := by decide +kernel
theorem dL_law_961 : decode cL_law 961 = .ok (.iaload, 1) := by decide +kernel
theorem dL_law_962 : decode cL_law 962 = .ok (.aload_n 3, 1) := by decide +kernel
theorem dL_law_963 : decode cL_law 963 = .ok (.invokestatic 171, 3) := by decide +kernel
theorem dL_law_966 : decode cL_law 966 = .ok (.istore 6, 2) := by decide +kernel
theorem dL_law_968 : decode cL_law 968 = .ok (.aload_n 2, 1) := by decide +kernel
theorem dL_law_969 : decode cL_law 969 = .ok (.aload_n 0, 1) := by decide +kernel
theorem dL_law_970 : decode cL_law 970 = .ok (.iload 5, 2) := by decide +kernel
theorem dL_law_972 : decode cL_law 972 = .ok (.iconst 1, 1) := by decide +kernel
theorem dL_law_973 : decode cL_law 973 = .ok (.iadd, 1) := by decide +kernel
theorem dL_law_974 : decode cL_law 974 = .ok (.iaload, 1) := by decide +kernel
theorem dL_law_975 : decode cL_law 975 = .ok (.invokevirtual 173, 3) := by decide +kernel
theorem dL_law_978 : decode cL_law 978 = .ok (.istore 7, 2) := by decide +kernel
theorem dL_law_980 : decode cL_law 980 = .ok (.aload_n 2, 1) := by decide +kernel
theorem dL_law_981 : decode cL_law 981 = .ok (.invokevirtual 120, 3) := by decide +kernel
theorem dL_law_984 : decode cL_law 984 = .ok (.iload 6, 2) := by decide +kernel
theorem dL_law_986 : decode cL_law 986 = .ok (.if_icmp .eq 5, 3) := by decide +kernel
theorem dL_law_989 : decode cL_law 989 = .ok (.iconst 0, 1) := by decide +kernel
theorem dL_law_990 : decode cL_law 990 = .ok (.ireturn, 1) := by decide +kernel
theorem dL_law_991 : decode cL_law 991 = .ok (.iload 6, 2) := by decide +kernel
theorem dL_law_993 : decode cL_law 993 = .ok (.ifCond .ne 15, 3) := by decide +kernel
theorem dL_law_996 : decode cL_law 996 = .ok (.aload_n 3, 1) := by decide +kernel
theorem dL_law_997 : decode cL_law 997 = .ok (.iconst 0, 1) := by decide +kernel
theorem dL_law_998 : decode cL_law 998 = .ok (.laload, 1) := by decide +kernel
theorem dL_law_999 : decode cL_law 999 = .ok (.iload 7, 2) := by decide +kernel
theorem dL_law_1001 : decode cL_law 1001 = .ok (.i2l, 1) := by decide +kernel
theorem dL_law_1002 : decode cL_law 1002 = .ok (.lcmp, 1) := by decide +kernel
theorem dL_law_1003 : decode cL_law 1003 = .ok (.ifCond .eq 5, 3) := by decide +kernel
theorem dL_law_1006 : decode cL_law 1006 = .ok (.iconst 0, 1) := by decide +kernel
theorem dL_law_1007 : decode cL_law 1007 = .ok (.ireturn, 1) := by decide +kernel
theorem dL_law_1008 : decode cL_law 1008 = .ok (.goto 878, 3) := by decide +kernel
theorem dL_law_1011 : decode cL_law 1011 = .ok (.aload_n 1, 1) := by decide +kernel
theorem dL_law_1012 : decode cL_law 1012 = .ok (.aload_n 0, 1) := by decide +kernel
theorem dL_law_1013 : decode cL_law 1013 = .ok (.iload 5, 2) := by decide +kernel
theorem dL_law_1015 : decode cL_law 1015 = .ok (.iconst 1, 1) := by decide +kernel
theorem dL_law_1016 : decode cL_law 1016 = .ok (.iadd, 1) := by decide +kernel
theorem dL_law_1017 : decode cL_law 1017 = .ok (.iaload, 1) := by decide +kernel
theorem dL_law_1018 : decode cL_law 1018 = .ok (.aload_n 3, 1) := by decide +kernel
theorem dL_law_1019 : decode cL_law 1019 = .ok (.invokestatic 174, 3) := by decide +kernel
theorem dL_law_1022 : decode cL_law 1022 = .ok (.istore 6, 2) := by decide +kernel
theorem dL_law_1024 : decode cL_law 1024 = .ok (.aload_n 2, 1) := by decide +kernel
theorem dL_law_1025 : decode cL_law 1025 = .ok (.aload_n 0, 1) := by decide +kernel
theorem dL_law_1026 : decode cL_law 1026 = .ok (.iload 5, 2) := by decide +kernel
theorem dL_law_1028 : decode cL_law 1028 = .ok (.iconst 1, 1) := by decide +kernel
theorem dL_law_1029 : decode cL_law 1029 = .ok (.iadd, 1) := by decide +kernel
theorem dL_law_1030 : decode cL_law 1030 = .ok (.iaload, 1) := by decide +kernel
theorem dL_law_1031 : decode cL_law 1031 = .ok (.invokevirtual 176, 3) := by decide +kernel
theorem dL_law_1034 : decode cL_law 1034 = .ok (.istore 7, 2) := by decide +kernel
theorem dL_law_1036 : decode cL_law 1036 = .ok (.aload_n 2, 1) := by decide +kernel
theorem dL_law_1037 : decode cL_law 1037 = .ok (.invokevirtual 120, 3) := by decide +kernel
theorem dL_law_1040 : decode cL_law 1040 = .ok (.iload 6, 2) := by decide +kernel
theorem dL_law_1042 : decode cL_law 1042 = .ok (.if_icmp .eq 5, 3) := by decide +kernel
theorem dL_law_1045 : decode cL_law 1045 = .ok (.iconst 0, 1) := by decide +kernel
theorem dL_law_1046 : decode cL_law 1046 = .ok (.ireturn, 1) := by decide +kernel
theorem dL_law_1047 : decode cL_law 1047 = .ok (.iload 6, 2) := by decide +kernel
theorem dL_law_1049 : decode cL_law 1049 = .ok (.ifCond .ne 15, 3) := by decide +kernel
theorem dL_law_1052 : decode cL_law 1052 = .ok (.aload_n 3, 1) := by decide +kernel
theorem dL_law_1053 : decode cL_law 1053 = .ok (.iconst 0, 1) := by decide +kernel
theorem dL_law_1054 : decode cL_law 1054 = .ok (.laload, 1) := by decide +kernel
theorem dL_law_1055 : decode cL_law 1055 = .ok (.iload 7, 2) := by decide +kernel
theorem dL_law_1057 : decode cL_law 1057 = .ok (.i2l, 1) := by decide +kernel
theorem dL_law_1058 : decode cL_law 1058 = .ok (.lcmp, 1) := by decide +kernel
theorem dL_law_1059 : decode cL_law 1059 = .ok (.ifCond .eq 5, 3) := by decide +kernel
theorem dL_law_1062 : decode cL_law 1062 = .ok (.iconst 0, 1) := by decide +kernel
theorem dL_law_1063 : decode cL_law 1063 = .ok (.ireturn, 1) := by decide +kernel
theorem dL_law_1064 : decode cL_law 1064 = .ok (.goto 822, 3) := by decide +kernel
theorem dL_law_1067 : decode cL_law 1067 = .ok (.aload_n 1, 1) := by decide +kernel
theorem dL_law_1068 : decode cL_law 1068 = .ok (.aload_n 0, 1) := by decide +kernel
theorem dL_law_1069 : decode cL_law 1069 = .ok (.iload 5, 2) := by decide +kernel
theorem dL_law_1071 : decode cL_law 1071 = .ok (.iconst 1, 1) := by decide +kernel
theorem dL_law_1072 : decode cL_law 1072 = .ok (.iadd, 1) := by decide +kernel
theorem dL_law_1073 : decode cL_law 1073 = .ok (.iaload, 1) := by decide +kernel
theorem dL_law_1074 : decode cL_law 1074 = .ok (.aload_n 3, 1) := by decide +kernel
theorem dL_law_1075 : decode cL_law 1075 = .ok (.invokestatic 177, 3) := by decide +kernel
theorem dL_law_1078 : decode cL_law 1078 = .ok (.istore 6, 2) := by decide +kernel
theorem dL_law_1080 : decode cL_law 1080 = .ok (.aload_n 2, 1) := by decide +kernel
theorem dL_law_1081 : decode cL_law 1081 = .ok (.aload_n 0, 1) := by decide +kernel
theorem dL_law_1082 : decode cL_law 1082 = .ok (.iload 5, 2) := by decide +kernel
theorem dL_law_1084 : decode cL_law 1084 = .ok (.iconst 1, 1) := by decide +kernel
theorem dL_law_1085 : decode cL_law 1085 = .ok (.iadd, 1) := by decide +kernel
theorem dL_law_1086 : decode cL_law 1086 = .ok (.iaload, 1) := by decide +kernel
theorem dL_law_1087 : decode cL_law 1087 = .ok (.invokevirtual 179, 3) := by decide +kernel
theorem dL_law_1090 : decode cL_law 1090 = .ok (.istore 7, 2) := by decide +kernel
theorem dL_law_1092 : decode cL_law 1092 = .ok (.aload_n 2, 1) := by decide +kernel
theorem dL_law_1093 : decode cL_law 1093 = .ok (.invokevirtual 120, 3) := by decide +kernel
theorem dL_law_1096 : decode cL_law 1096 = .ok (.iload 6, 2) := by decide +kernel
theorem dL_law_1098 : decode cL_law 1098 = .ok (.if_icmp .eq 5, 3) := by decide +kernel
theorem dL_law_1101 : decode cL_law 1101 = .ok (.iconst 0, 1) := by decide +kernel
theorem dL_law_1102 : decode cL_law 1102 = .ok (.ireturn, 1) := by decide +kernel
theorem dL_law_1103 : decode cL_law 1103 = .ok (.iload 6, 2) := by decide +kernel
theorem dL_law_1105 : decode cL_law 1105 = .ok (.ifCond .ne 15, 3) := by decide +kernel
theorem dL_law_1108 : decode cL_law 1108 = .ok (.aload_n 3, 1) := by decide +kernel
theorem dL_law_1109 : decode cL_law 1109 = .ok (.iconst 0, 1) := by decide +kernel
theorem dL_law_1110 : decode cL_law 1110 = .ok (.laload, 1) := by decide +kernel
theorem dL_law_1111 : decode cL_law 1111 = .ok (.iload 7, 2) := by decide +kernel
theorem dL_law_1113 : decode cL_law 1113 = .ok (.i2l, 1) := by decide +kernel
theorem dL_law_1114 : decode cL_law 1114 = .ok (.lcmp, 1) := by decide +kernel
theorem dL_law_1115 : decode cL_law 1115 = .ok (.ifCond .eq 5, 3) := by decide +kernel
theorem dL_law_1118 : decode cL_law 1118 = .ok (.iconst 0, 1) := by decide +kernel
theorem dL_law_1119 : decode cL_law 1119 = .ok (.ireturn, 1) := by decide +kernel
theorem dL_law_1120 : decode cL_law 1120 = .ok (.goto 766, 3) := by decide +kernel
theorem dL_law_1123 : decode cL_law 1123 = .ok (.aload_n 1, 1) := by decide +kernel
theorem dL_law_1124 : decode cL_law 1124 = .ok (.aload_n 0, 1) := by decide +kernel
theorem dL_law_1125 : decode cL_law 1125 = .ok (.iload 5, 2) := by decide +kernel
theorem dL_law_1127 : decode cL_law 1127 = .ok (.iconst 1, 1) := by decide +kernel
theorem dL_law_1128 : decode cL_law 1128 = .ok (.iadd, 1) := by decide +kernel
theorem dL_law_1129 : decode cL_law 1129 = .ok (.iaload, 1) := by decide +kernel
theorem dL_law_1130 : decode cL_law 1130 = .ok (.aload_n 0, 1) := by decide +kernel
theorem dL_law_1131 : decode cL_law 1131 = .ok (.iload 5, 2) := by decide +kernel
theorem dL_law_1133 : decode cL_law 1133 = .ok (.iconst 2, 1) := by decide +kernel
theorem dL_law_1134 : decode cL_law 1134 = .ok (.iadd, 1) := by decide +kernel
theorem dL_law_1135 : decode cL_law 1135 = .ok (.iaload, 1) := by decide +kernel
theorem dL_law_1136 : decode cL_law 1136 = .ok (.aload_n 0, 1) := by decide +kernel
theorem dL_law_1137 : decode cL_law 1137 = .ok (.iload 5, 2) := by decide +kernel
theorem dL_law_1139 : decode cL_law 1139 = .ok (.iconst 3, 1) := by decide +kernel
theorem dL_law_1140 : decode cL_law 1140 = .ok (.iadd, 1) := by decide +kernel
theorem dL_law_1141 : decode cL_law 1141 = .ok (.iaload, 1) := by decide +kernel
theorem dL_law_1142 : decode cL_law 1142 = .ok (.aload_n 0, 1) := by decide +kernel
theorem dL_law_1143 : decode cL_law 1143 = .ok (.iload 5, 2) := by decide +kernel
theorem dL_law_1145 : decode cL_law 1145 = .ok (.iconst 4, 1) := by decide +kernel
theorem dL_law_1146 : decode cL_law 1146 = .ok (.iadd, 1) := by decide +kernel
theorem dL_law_1147 : decode cL_law 1147 = .ok (.iaload, 1) := by decide +kernel
theorem dL_law_1148 : decode cL_law 1148 = .ok (.aload_n 3, 1) := by decide +kernel
theorem dL_law_1149 : decode cL_law 1149 = .ok (.invokestatic 180, 3) := by decide +kernel
theorem dL_law_1152 : decode cL_law 1152 = .ok (.istore 6, 2) := by decide +kernel
theorem dL_law_1154 : decode cL_law 1154 = .ok (.aload_n 2, 1) := by decide +kernel
theorem dL_law_1155 : decode cL_law 1155 = .ok (.aload_n 0, 1) := by decide +kernel
theorem dL_law_1156 : decode cL_law 1156 = .ok (.iload 5, 2) := by decide +kernel
theorem dL_law_1158 : decode cL_law 1158 = .ok (.iconst 1, 1) := by decide +kernel
theorem dL_law_1159 : decode cL_law 1159 = .ok (.iadd, 1) := by decide +kernel
theorem dL_law_1160 : decode cL_law 1160 = .ok (.iaload, 1) := by decide +kernel
theorem dL_law_1161 : decode cL_law 1161 = .ok (.aload_n 0, 1) := by decide +kernel
theorem dL_law_1162 : decode cL_law 1162 = .ok (.iload 5, 2) := by decide +kernel
theorem dL_law_1164 : decode cL_law 1164 = .ok (.iconst 2, 1) := by decide +kernel
theorem dL_law_1165 : decode cL_law 1165 = .ok (.iadd, 1) := by decide +kernel
theorem dL_law_1166 : decode cL_law 1166 = .ok (.iaload, 1) := by decide +kernel
theorem dL_law_1167 : decode cL_law 1167 = .ok (.aload_n 0, 1) := by decide +kernel
theorem dL_law_1168 : decode cL_law 1168 = .ok (.iload 5, 2) := by decide +kernel
theorem dL_law_1170 : decode cL_law 1170 = .ok (.iconst 3, 1) := by decide +kernel
theorem dL_law_1171 : decode cL_law 1171 = .ok (.iadd, 1) := by decide +kernel
theorem dL_law_1172 : decode cL_law 1172 = .ok (.iaload, 1) := by decide +kernel
theorem dL_law_1173 : decode cL_law 1173 = .ok (.aload_n 0, 1) := by decide +kernel
theorem dL_law_1174 : decode cL_law 1174 = .ok (.iload 5, 2) := by decide +kernel
theorem dL_law_1176 : decode cL_law 1176 = .ok (.iconst 4, 1) := by decide +kernel
theorem dL_law_1177 : decode cL_law 1177 = .ok (.iadd, 1) := by decide +kernel
theorem dL_law_1178 : decode cL_law 1178 = .ok (.iaload, 1) := by decide +kernel
theorem dL_law_1179 : decode cL_law 1179 = .ok (.invokevirtual 183, 3) := by decide +kernel
theorem dL_law_1182 : decode cL_law 1182 = .ok (.istore 7, 2) := by decide +kernel
theorem dL_law_1184 : decode cL_law 1184 = .ok (.aload_n 2, 1) := by decide +kernel
theorem dL_law_1185 : decode cL_law 1185 = .ok (.invokevirtual 120, 3) := by decide +kernel
theorem dL_law_1188 : decode cL_law 1188 = .ok (.iload 6, 2) := by decide +kernel
theorem dL_law_1190 : decode cL_law 1190 = .ok (.if_icmp .eq 5, 3) := by decide +kernel
theorem dL_law_1193 : decode cL_law 1193 = .ok (.iconst 0, 1) := by decide +kernel
theorem dL_law_1194 : decode cL_law 1194 = .ok (.ireturn, 1) := by decide +kernel
theorem dL_law_1195 : decode cL_law 1195 = .ok (.iload 6, 2) := by decide +kernel
theorem dL_law_1197 : decode cL_law 1197 = .ok (.ifCond .ne 15, 3) := by decide +kernel
theorem dL_law_1200 : decode cL_law 1200 = .ok (.aload_n 3, 1) := by decide +kernel
theorem dL_law_1201 : decode cL_law 1201 = .ok (.iconst 0, 1) := by decide +kernel
theorem dL_law_1202 : decode cL_law 1202 = .ok (.laload, 1) := by decide +kernel
theorem dL_law_1203 : decode cL_law 1203 = .ok (.iload 7, 2) := by decide +kernel
theorem dL_law_1205 : decode cL_law 1205 = .ok (.i2l, 1) := by decide +kernel
theorem dL_law_1206 : decode cL_law 1206 = .ok (.lcmp, 1) := by decide +kernel
theorem dL_law_1207 : decode cL_law 1207 = .ok (.ifCond .eq 5, 3) := by decide +kernel
theorem dL_law_1210 : decode cL_law 1210 = .ok (.iconst 0, 1) := by decide +kernel
theorem dL_law_1211 : decode cL_law 1211 = .ok (.ireturn, 1) := by decide +kernel
theorem dL_law_1212 : decode cL_law 1212 = .ok (.goto 674, 3) := by decide +kernel
theorem dL_law_1215 : decode cL_law 1215 = .ok (.aload_n 1, 1) := by decide +kernel
theorem dL_law_1216 : decode cL_law 1216 = .ok (.aload_n 0, 1) := by decide +kernel
theorem dL_law_1217 : decode cL_law 1217 = .ok (.iload 5, 2) := by decide +kernel
theorem dL_law_1219 : decode cL_law 1219 = .ok (.iconst 1, 1) := by decide +kernel
theorem dL_law_1220 : decode cL_law 1220 = .ok (.iadd, 1) := by decide +kernel
theorem dL_law_1221 : decode cL_law 1221 = .ok (.iaload, 1) := by decide +kernel
theorem dL_law_1222 : decode cL_law 1222 = .ok (.aload_n 0, 1) := by decide +kernel
theorem dL_law_1223 : decode cL_law 1223 = .ok (.iload 5, 2) := by decide +kernel
theorem dL_law_1225 : decode cL_law 1225 = .ok (.iconst 2, 1) := by decide +kernel
theorem dL_law_1226 : decode cL_law 1226 = .ok (.iadd, 1) := by decide +kernel
theorem dL_law_1227 : decode cL_law 1227 = .ok (.iaload, 1) := by decide +kernel
theorem dL_law_1228 : decode cL_law 1228 = .ok (.aload_n 0, 1) := by decide +kernel
theorem dL_law_1229 : decode cL_law 1229 = .ok (.iload 5, 2) := by decide +kernel
theorem dL_law_1231 : decode cL_law 1231 = .ok (.iconst 3, 1) := by decide +kernel
theorem dL_law_1232 : decode cL_law 1232 = .ok (.iadd, 1) := by decide +kernel
theorem dL_law_1233 : decode cL_law 1233 = .ok (.iaload, 1) := by decide +kernel
theorem dL_law_1234 : decode cL_law 1234 = .ok (.aload_n 3, 1) := by decide +kernel
theorem dL_law_1235 : decode cL_law 1235 = .ok (.invokestatic 184, 3) := by decide +kernel
theorem dL_law_1238 : decode cL_law 1238 = .ok (.istore 6, 2) := by decide +kernel
theorem dL_law_1240 : decode cL_law 1240 = .ok (.aload_n 2, 1) := by decide +kernel
theorem dL_law_1241 : decode cL_law 1241 = .ok (.aload_n 0, 1) := by decide +kernel
theorem dL_law_1242 : decode cL_law 1242 = .ok (.iload 5, 2) := by decide +kernel
theorem dL_law_1244 : decode cL_law 1244 = .ok (.iconst 1, 1) := by decide +kernel
theorem dL_law_1245 : decode cL_law 1245 = .ok (.iadd, 1) := by decide +kernel
theorem dL_law_1246 : decode cL_law 1246 = .ok (.iaload, 1) := by decide +kernel
theorem dL_law_1247 : decode cL_law 1247 = .ok (.aload_n 0, 1) := by decide +kernel
theorem dL_law_1248 : decode cL_law 1248 = .ok (.iload 5, 2) := by decide +kernel
theorem dL_law_1250 : decode cL_law 1250 = .ok (.iconst 2, 1) := by decide +kernel
theorem dL_law_1251 : decode cL_law 1251 = .ok (.iadd, 1) := by decide +kernel
theorem dL_law_1252 : decode cL_law 1252 = .ok (.iaload, 1) := by decide +kernel
theorem dL_law_1253 : decode cL_law 1253 = .ok (.aload_n 0, 1) := by decide +kernel
theorem dL_law_1254 : decode cL_law 1254 = .ok (.iload 5, 2) := by decide +kernel
theorem dL_law_1256 : decode cL_law 1256 = .ok (.iconst 3, 1) := by decide +kernel
theorem dL_law_1257 : decode cL_law 1257 = .ok (.iadd, 1) := by decide +kernel
theorem dL_law_1258 : decode cL_law 1258 = .ok (.iaload, 1) := by decide +kernel
theorem dL_law_1259 : decode cL_law 1259 = .ok (.invokevirtual 186, 3) := by decide +kernel
theorem dL_law_1262 : decode cL_law 1262 = .ok (.istore 7, 2) := by decide +kernel
theorem dL_law_1264 : decode cL_law 1264 = .ok (.aload_n 2, 1) := by decide +kernel
theorem dL_law_1265 : decode cL_law 1265 = .ok (.invokevirtual 120, 3) := by decide +kernel
theorem dL_law_1268 : decode cL_law 1268 = .ok (.iload 6, 2) := by decide +kernel
theorem dL_law_1270 : decode cL_law 1270 = .ok (.if_icmp .eq 5, 3) := by decide +kernel
theorem dL_law_1273 : decode cL_law 1273 = .ok (.iconst 0, 1) := by decide +kernel
theorem dL_law_1274 : decode cL_law 1274 = .ok (.ireturn, 1) := by decide +kernel
theorem dL_law_1275 : decode cL_law 1275 = .ok (.iload 6, 2) := by decide +kernel
theorem dL_law_1277 : decode cL_law 1277 = .ok (.ifCond .ne 15, 3) := by decide +kernel
theorem dL_law_1280 : decode cL_law 1280 = .ok (.aload_n 3, 1) := by decide +kernel
theorem dL_law_1281 : decode cL_law 1281 = .ok (.iconst 0, 1) := by decide +kernel
theorem dL_law_1282 : decode cL_law 1282 = .ok (.laload, 1) := by decide +kernel
theorem dL_law_1283 : decode cL_law 1283 = .ok (.iload 7, 2) := by decide +kernel
theorem dL_law_1285 : decode cL_law 1285 = .ok (.i2l, 1) := by decide +kernel
theorem dL_law_1286 : decode cL_law 1286 = .ok (.lcmp, 1) := by decide +kernel
theorem dL_law_1287 : decode cL_law 1287 = .ok (.ifCond .eq 5, 3) := by decide +kernel
theorem dL_law_1290 : decode cL_law 1290 = .ok (.iconst 0, 1) := by decide +kernel
theorem dL_law_1291 : decode cL_law 1291 = .ok (.ireturn, 1) := by decide +kernel
theorem dL_law_1292 : decode cL_law 1292 = .ok (.goto 594, 3) := by decide +kernel
theorem dL_law_1295 : decode cL_law 1295 = .ok (.aload_n 1, 1) := by decide +kernel
theorem dL_law_1296 : decode cL_law 1296 = .ok (.aload_n 0, 1) := by decide +kernel
theorem dL_law_1297 : decode cL_law 1297 = .ok (.iload 5, 2) := by decide +kernel
theorem dL_law_1299 : decode cL_law 1299 = .ok (.iconst 1, 1) := by decide +kernel
theorem dL_law_1300 : decode cL_law 1300 = .ok (.iadd, 1) := by decide +kernel
theorem dL_law_1301 : decode cL_law 1301 = .ok (.iaload, 1) := by decide +kernel
theorem dL_law_1302 : decode cL_law 1302 = .ok (.aload_n 3, 1) := by decide +kernel
theorem dL_law_1303 : decode cL_law 1303 = .ok (.invokestatic 187, 3) := by decide +kernel
theorem dL_law_1306 : decode cL_law 1306 = .ok (.istore 6, 2) := by decide +kernel
theorem dL_law_1308 : decode cL_law 1308 = .ok (.aload_n 2, 1) := by decide +kernel
theorem dL_law_1309 : decode cL_law 1309 = .ok (.aload_n 0, 1) := by decide +kernel
theorem dL_law_1310 : decode cL_law 1310 = .ok (.iload 5, 2) := by decide +kernel
theorem dL_law_1312 : decode cL_law 1312 = .ok (.iconst 1, 1) := by decide +kernel
theorem dL_law_1313 : decode cL_law 1313 = .ok (.iadd, 1) := by decide +kernel
theorem dL_law_1314 : decode cL_law 1314 = .ok (.iaload, 1) := by decide +kernel
theorem dL_law_1315 : decode cL_law 1315 = .ok (.invokevirtual 189, 3) := by decide +kernel
theorem dL_law_1318 : decode cL_law 1318 = .ok (.istore 7, 2) := by decide +kernel
theorem dL_law_1320 : decode cL_law 1320 = .ok (.aload_n 2, 1) := by decide +kernel
theorem dL_law_1321 : decode cL_law 1321 = .ok (.invokevirtual 120, 3) := by decide +kernel
theorem dL_law_1324 : decode cL_law 1324 = .ok (.iload 6, 2) := by decide +kernel
theorem dL_law_1326 : decode cL_law 1326 = .ok (.if_icmp .eq 5, 3) := by decide +kernel
theorem dL_law_1329 : decode cL_law 1329 = .ok (.iconst 0, 1) := by decide +kernel
theorem dL_law_1330 : decode cL_law 1330 = .ok (.ireturn, 1) := by decide +kernel
theorem dL_law_1331 : decode cL_law 1331 = .ok (.iload 6, 2) := by decide +kernel
theorem dL_law_1333 : decode cL_law 1333 = .ok (.ifCond .ne 15, 3) := by decide +kernel
theorem dL_law_1336 : decode cL_law 1336 = .ok (.aload_n 3, 1) := by decide +kernel
theorem dL_law_1337 : decode cL_law 1337 = .ok (.iconst 0, 1) := by decide +kernel
theorem dL_law_1338 : decode cL_law 1338 = .ok (.laload, 1) := by decide +kernel
theorem dL_law_1339 : decode cL_law 1339 = .ok (.iload 7, 2) := by decide +kernel
theorem dL_law_1341 : decode cL_law 1341 = .ok (.i2l, 1) := by decide +kernel
theorem dL_law_1342 : decode cL_law 1342 = .ok (.lcmp, 1) := by decide +kernel
theorem dL_law_1343 : decode cL_law 1343 = .ok (.ifCond .eq 5, 3) := by decide +kernel
theorem dL_law_1346 : decode cL_law 1346 = .ok (.iconst 0, 1) := by decide +kernel
theorem dL_law_1347 : decode cL_law 1347 = .ok (.ireturn, 1) := by decide +kernel
theorem dL_law_1348 : decode cL_law 1348 = .ok (.goto 538, 3) := by decide +kernel
theorem dL_law_1351 : decode cL_law 1351 = .ok (.aload_n 1, 1) := by decide +kernel
theorem dL_law_1352 : decode cL_law 1352 = .ok (.aload_n 0, 1) := by decide +kernel
theorem dL_law_1353 : decode cL_law 1353 = .ok (.iload 5, 2) := by decide +kernel
theorem dL_law_1355 : decode cL_law 1355 = .ok (.iconst 1, 1) := by decide +kernel
theorem dL_law_1356 : decode cL_law 1356 = .ok (.iadd, 1) := by decide +kernel
theorem dL_law_1357 : decode cL_law 1357 = .ok (.iaload, 1) := by decide +kernel
theorem dL_law_1358 : decode cL_law 1358 = .ok (.aload_n 3, 1) := by decide +kernel
theorem dL_law_1359 : decode cL_law 1359 = .ok (.invokestatic 190, 3) := by decide +kernel
theorem dL_law_1362 : decode cL_law 1362 = .ok (.istore 6, 2) := by decide +kernel
theorem dL_law_1364 : decode cL_law 1364 = .ok (.aload_n 2, 1) := by decide +kernel
theorem dL_law_1365 : decode cL_law 1365 = .ok (.aload_n 0, 1) := by decide +kernel
theorem dL_law_1366 : decode cL_law 1366 = .ok (.iload 5, 2) := by decide +kernel
theorem dL_law_1368 : decode cL_law 1368 = .ok (.iconst 1, 1) := by decide +kernel
theorem dL_law_1369 : decode cL_law 1369 = .ok (.iadd, 1) := by decide +kernel
theorem dL_law_1370 : decode cL_law 1370 = .ok (.iaload, 1) := by decide +kernel
theorem dL_law_1371 : decode cL_law 1371 = .ok (.invokevirtual 192, 3) := by decide +kernel
theorem dL_law_1374 : decode cL_law 1374 = .ok (.istore 7, 2) := by decide +kernel
theorem dL_law_1376 : decode cL_law 1376 = .ok (.aload_n 2, 1) := by decide +kernel
theorem dL_law_1377 : decode cL_law 1377 = .ok (.invokevirtual 120, 3) := by decide +kernel
theorem dL_law_1380 : decode cL_law 1380 = .ok (.iload 6, 2) := by decide +kernel
theorem dL_law_1382 : decode cL_law 1382 = .ok (.if_icmp .eq 5, 3) := by decide +kernel
theorem dL_law_1385 : decode cL_law 1385 = .ok (.iconst 0, 1) := by decide +kernel
theorem dL_law_1386 : decode cL_law 1386 = .ok (.ireturn, 1) := by decide +kernel
theorem dL_law_1387 : decode cL_law 1387 = .ok (.iload 6, 2) := by decide +kernel
theorem dL_law_1389 : decode cL_law 1389 = .ok (.ifCond .ne 15, 3) := by decide +kernel
theorem dL_law_1392 : decode cL_law 1392 = .ok (.aload_n 3, 1) := by decide +kernel
theorem dL_law_1393 : decode cL_law 1393 = .ok (.iconst 0, 1) := by decide +kernel
theorem dL_law_1394 : decode cL_law 1394 = .ok (.laload, 1) := by decide +kernel
theorem dL_law_1395 : decode cL_law 1395 = .ok (.iload 7, 2) := by decide +kernel
theorem dL_law_1397 : decode cL_law 1397 = .ok (.i2l, 1) := by decide +kernel
theorem dL_law_1398 : decode cL_law 1398 = .ok (.lcmp, 1) := by decide +kernel
theorem dL_law_1399 : decode cL_law 1399 = .ok (.ifCond .eq 5, 3) := by decide +kernel
theorem dL_law_1402 : decode cL_law 1402 = .ok (.iconst 0, 1) := by decide +kernel
theorem dL_law_1403 : decode cL_law 1403 = .ok (.ireturn, 1) := by decide +kernel
theorem dL_law_1404 : decode cL_law 1404 = .ok (.goto 482, 3) := by decide +kernel
theorem dL_law_1407 : decode cL_law 1407 = .ok (.aload_n 1, 1) := by decide +kernel
theorem dL_law_1408 : decode cL_law 1408 = .ok (.aload_n 0, 1) := by decide +kernel
theorem dL_law_1409 : decode cL_law 1409 = .ok (.iload 5, 2) := by decide +kernel
theorem dL_law_1411 : decode cL_law 1411 = .ok (.iconst 1, 1) := by decide +kernel
theorem dL_law_1412 : decode cL_law 1412 = .ok (.iadd, 1) := by decide +kernel
theorem dL_law_1413 : decode cL_law 1413 = .ok (.iaload, 1) := by decide +kernel
theorem dL_law_1414 : decode cL_law 1414 = .ok (.aload_n 3, 1) := by decide +kernel
theorem dL_law_1415 : decode cL_law 1415 = .ok (.invokestatic 193, 3) := by decide +kernel
theorem dL_law_1418 : decode cL_law 1418 = .ok (.istore 6, 2) := by decide +kernel
theorem dL_law_1420 : decode cL_law 1420 = .ok (.aload_n 2, 1) := by decide +kernel
theorem dL_law_1421 : decode cL_law 1421 = .ok (.aload_n 0, 1) := by decide +kernel
theorem dL_law_1422 : decode cL_law 1422 = .ok (.iload 5, 2) := by decide +kernel
theorem dL_law_1424 : decode cL_law 1424 = .ok (.iconst 1, 1) := by decide +kernel
theorem dL_law_1425 : decode cL_law 1425 = .ok (.iadd, 1) := by decide +kernel
theorem dL_law_1426 : decode cL_law 1426 = .ok (.iaload, 1) := by decide +kernel
theorem dL_law_1427 : decode cL_law 1427 = .ok (.invokevirtual 195, 3) := by decide +kernel
theorem dL_law_1430 : decode cL_law 1430 = .ok (.istore 7, 2) := by decide +kernel
theorem dL_law_1432 : decode cL_law 1432 = .ok (.aload_n 2, 1) := by decide +kernel
theorem dL_law_1433 : decode cL_law 1433 = .ok (.invokevirtual 120, 3) := by decide +kernel
theorem dL_law_1436 : decode cL_law 1436 = .ok (.iload 6, 2) := by decide +kernel
theorem dL_law_1438 : decode cL_law 1438 = .ok (.if_icmp .eq 5, 3) := by decide +kernel
theorem dL_law_1441 : decode cL_law 1441 = .ok (.iconst 0, 1) := by decide +kernel
theorem dL_law_1442 : decode cL_law 1442 = .ok (.ireturn, 1) := by decide +kernel
theorem dL_law_1443 : decode cL_law 1443 = .ok (.iload 6, 2) := by decide +kernel
theorem dL_law_1445 : decode cL_law 1445 = .ok (.ifCond .ne 15, 3) := by decide +kernel
theorem dL_law_1448 : decode cL_law 1448 = .ok (.aload_n 3, 1) := by decide +kernel
theorem dL_law_1449 : decode cL_law 1449 = .ok (.iconst 0, 1) := by decide +kernel
theorem dL_law_1450 : decode cL_law 1450 = .ok (.laload, 1) := by decide +kernel
theorem dL_law_1451 : decode cL_law 1451 = .ok (.iload 7, 2) := by decide +kernel
theorem dL_law_1453 : decode cL_law 1453 = .ok (.i2l, 1) := by decide +kernel
theorem dL_law_1454 : decode cL_law 1454 = .ok (.lcmp, 1) := by decide +kernel
theorem dL_law_1455 : decode cL_law 1455 = .ok (.ifCond .eq 5, 3) := by decide +kernel
theorem dL_law_1458 : decode cL_law 1458 = .ok (.iconst 0, 1) := by decide +kernel
theorem dL_law_1459 : decode cL_law 1459 = .ok (.ireturn, 1) := by decide +kernel
theorem dL_law_1460 : decode cL_law 1460 = .ok (.goto 426, 3) := by decide +kernel
theorem dL_law_1463 : decode cL_law 1463 = .ok (.aload_n 1, 1) := by decide +kernel
theorem dL_law_1464 : decode cL_law 1464 = .ok (.aload_n 0, 1) := by decide +kernel
theorem dL_law_1465 : decode cL_law 1465 = .ok (.iload 5, 2) := by decide +kernel
theorem dL_law_1467 : decode cL_law 1467 = .ok (.iconst 1, 1) := by decide +kernel
theorem dL_law_1468 : decode cL_law 1468 = .ok (.iadd, 1) := by decide +kernel
theorem dL_law_1469 : decode cL_law 1469 = .ok (.iaload, 1) := by decide +kernel
theorem dL_law_1470 : decode cL_law 1470 = .ok (.aload_n 3, 1) := by decide +kernel
theorem dL_law_1471 : decode cL_law 1471 = .ok (.invokestatic 196, 3) := by decide +kernel
theorem dL_law_1474 : decode cL_law 1474 = .ok (.istore 6, 2) := by decide +kernel
theorem dL_law_1476 : decode cL_law 1476 = .ok (.aload_n 2, 1) := by decide +kernel
theorem dL_law_1477 : decode cL_law 1477 = .ok (.aload_n 0, 1) := by decide +kernel
theorem dL_law_1478 : decode cL_law 1478 = .ok (.iload 5, 2) := by decide +kernel
theorem dL_law_1480 : decode cL_law 1480 = .ok (.iconst 1, 1) := by decide +kernel
theorem dL_law_1481 : decode cL_law 1481 = .ok (.iadd, 1) := by decide +kernel
theorem dL_law_1482 : decode cL_law 1482 = .ok (.iaload, 1) := by decide +kernel
theorem dL_law_1483 : decode cL_law 1483 = .ok (.invokevirtual 198, 3) := by decide +kernel
theorem dL_law_1486 : decode cL_law 1486 = .ok (.istore 7, 2) := by decide +kernel
theorem dL_law_1488 : decode cL_law 1488 = .ok (.aload_n 2, 1) := by decide +kernel
theorem dL_law_1489 : decode cL_law 1489 = .ok (.invokevirtual 120, 3) := by decide +kernel
theorem dL_law_1492 : decode cL_law 1492 = .ok (.iload 6, 2) := by decide +kernel
theorem dL_law_1494 : decode cL_law 1494 = .ok (.if_icmp .eq 5, 3) := by decide +kernel
theorem dL_law_1497 : decode cL_law 1497 = .ok (.iconst 0, 1) := by decide +kernel
theorem dL_law_1498 : decode cL_law 1498 = .ok (.ireturn, 1) := by decide +kernel
theorem dL_law_1499 : decode cL_law 1499 = .ok (.iload 6, 2) := by decide +kernel
theorem dL_law_1501 : decode cL_law 1501 = .ok (.ifCond .ne 15, 3) := by decide +kernel
theorem dL_law_1504 : decode cL_law 1504 = .ok (.aload_n 3, 1) := by decide +kernel
theorem dL_law_1505 : decode cL_law 1505 = .ok (.iconst 0, 1) := by decide +kernel
theorem dL_law_1506 : decode cL_law 1506 = .ok (.laload, 1) := by decide +kernel
theorem dL_law_1507 : decode cL_law 1507 = .ok (.iload 7, 2) := by decide +kernel
theorem dL_law_1509 : decode cL_law 1509 = .ok (.i2l, 1) := by decide +kernel
theorem dL_law_1510 : decode cL_law 1510 = .ok (.lcmp, 1) := by decide +kernel
theorem dL_law_1511 : decode cL_law 1511 = .ok (.ifCond .eq 5, 3) := by decide +kernel
theorem dL_law_1514 : decode cL_law 1514 = .ok (.iconst 0, 1) := by decide +kernel
theorem dL_law_1515 : decode cL_law 1515 = .ok (.ireturn, 1) := by decide +kernel
theorem dL_law_1516 : decode cL_law 1516 = .ok (.goto 370, 3) := by decide +kernel
theorem dL_law_1519 : decode cL_law 1519 = .ok (.aload_n 1, 1) := by decide +kernel
theorem dL_law_1520 : decode cL_law 1520 = .ok (.aload_n 0, 1) := by decide +kernel
theorem dL_law_1521 : decode cL_law 1521 = .ok (.iload 5, 2) := by decide +kernel
theorem dL_law_1523 : decode cL_law 1523 = .ok (.iconst 1, 1) := by decide +kernel
theorem dL_law_1524 : decode cL_law 1524 = .ok (.iadd, 1) := by decide +kernel
theorem dL_law_1525 : decode cL_law 1525 = .ok (.iaload, 1) := by decide +kernel
theorem dL_law_1526 : decode cL_law 1526 = .ok (.aload_n 3, 1) := by decide +kernel
theorem dL_law_1527 : decode cL_law 1527 = .ok (.invokestatic 199, 3) := by decide +kernel
theorem dL_law_1530 : decode cL_law 1530 = .ok (.istore 6, 2) := by decide +kernel
theorem dL_law_1532 : decode cL_law 1532 = .ok (.aload_n 2, 1) := by decide +kernel
theorem dL_law_1533 : decode cL_law 1533 = .ok (.aload_n 0, 1) := by decide +kernel
theorem dL_law_1534 : decode cL_law 1534 = .ok (.iload 5, 2) := by decide +kernel
theorem dL_law_1536 : decode cL_law 1536 = .ok (.iconst 1, 1) := by decide +kernel
theorem dL_law_1537 : decode cL_law 1537 = .ok (.iadd, 1) := by decide +kernel
theorem dL_law_1538 : decode cL_law 1538 = .ok (.iaload, 1) := by decide +kernel
theorem dL_law_1539 : decode cL_law 1539 = .ok (.invokevirtual 201, 3) := by decide +kernel
theorem dL_law_1542 : decode cL_law 1542 = .ok (.istore 7, 2) := by decide +kernel
theorem dL_law_1544 : decode cL_law 1544 = .ok (.aload_n 2, 1) := by decide +kernel
theorem dL_law_1545 : decode cL_law 1545 = .ok (.invokevirtual 120, 3) := by decide +kernel
theorem dL_law_1548 : decode cL_law 1548 = .ok (.iload 6, 2) := by decide +kernel
theorem dL_law_1550 : decode cL_law 1550 = .ok (.if_icmp .eq 5, 3) := by decide +kernel
theorem dL_law_1553 : decode cL_law 1553 = .ok (.iconst 0, 1) := by decide +kernel
theorem dL_law_1554 : decode cL_law 1554 = .ok (.ireturn, 1) := by decide +kernel
theorem dL_law_1555 : decode cL_law 1555 = .ok (.iload 6, 2) := by decide +kernel
theorem dL_law_1557 : decode cL_law 1557 = .ok (.ifCond .ne 15, 3) := by decide +kernel
theorem dL_law_1560 : decode cL_law 1560 = .ok (.aload_n 3, 1) := by decide +kernel
theorem dL_law_1561 : decode cL_law 1561 = .ok (.iconst 0, 1) := by decide +kernel
theorem dL_law_1562 : decode cL_law 1562 = .ok (.laload, 1) := by decide +kernel
theorem dL_law_1563 : decode cL_law 1563 = .ok (.iload 7, 2) := by decide +kernel
theorem dL_law_1565 : decode cL_law 1565 = .ok (.i2l, 1) := by decide +kernel
theorem dL_law_1566 : decode cL_law 1566 = .ok (.lcmp, 1) := by decide +kernel
theorem dL_law_1567 : decode cL_law 1567 = .ok (.ifCond .eq 5, 3) := by decide +kernel
theorem dL_law_1570 : decode cL_law 1570 = .ok (.iconst 0, 1) := by decide +kernel
theorem dL_law_1571 : decode cL_law 1571 = .ok (.ireturn, 1) := by decide +kernel
theorem dL_law_1572 : decode cL_law 1572 = .ok (.goto 314, 3) := by decide +kernel
theorem dL_law_1575 : decode cL_law 1575 = .ok (.aload_n 1, 1) := by decide +kernel
theorem dL_law_1576 : decode cL_law 1576 = .ok (.aload_n 0, 1) := by decide +kernel
theorem dL_law_1577 : decode cL_law 1577 = .ok (.iload 5, 2) := by decide +kernel
theorem dL_law_1579 : decode cL_law 1579 = .ok (.iconst 1, 1) := by decide +kernel
theorem dL_law_1580 : decode cL_law 1580 = .ok (.iadd, 1) := by decide +kernel
theorem dL_law_1581 : decode cL_law 1581 = .ok (.iaload, 1) := by decide +kernel
theorem dL_law_1582 : decode cL_law 1582 = .ok (.aload_n 3, 1) := by decide +kernel
theorem dL_law_1583 : decode cL_law 1583 = .ok (.invokestatic 202, 3) := by decide +kernel
theorem dL_law_1586 : decode cL_law 1586 = .ok (.istore 6, 2) := by decide +kernel
theorem dL_law_1588 : decode cL_law 1588 = .ok (.aload_n 2, 1) := by decide +kernel
theorem dL_law_1589 : decode cL_law 1589 = .ok (.aload_n 0, 1) := by decide +kernel
theorem dL_law_1590 : decode cL_law 1590 = .ok (.iload 5, 2) := by decide +kernel
theorem dL_law_1592 : decode cL_law 1592 = .ok (.iconst 1, 1) := by decide +kernel
theorem dL_law_1593 : decode cL_law 1593 = .ok (.iadd, 1) := by decide +kernel
theorem dL_law_1594 : decode cL_law 1594 = .ok (.iaload, 1) := by decide +kernel
theorem dL_law_1595 : decode cL_law 1595 = .ok (.invokevirtual 204, 3) := by decide +kernel
theorem dL_law_1598 : decode cL_law 1598 = .ok (.istore 7, 2) := by decide +kernel
theorem dL_law_1600 : decode cL_law 1600 = .ok (.aload_n 2, 1) := by decide +kernel
theorem dL_law_1601 : decode cL_law 1601 = .ok (.invokevirtual 120, 3) := by decide +kernel
theorem dL_law_1604 : decode cL_law 1604 = .ok (.iload 6, 2) := by decide +kernel
theorem dL_law_1606 : decode cL_law 1606 = .ok (.if_icmp .eq 5, 3) := by decide +kernel
theorem dL_law_1609 : decode cL_law 1609 = .ok (.iconst 0, 1) := by decide +kernel
theorem dL_law_1610 : decode cL_law 1610 = .ok (.ireturn, 1) := by decide +kernel
theorem dL_law_1611 : decode cL_law 1611 = .ok (.iload 6, 2) := by decide +kernel
theorem dL_law_1613 : decode cL_law 1613 = .ok (.ifCond .ne 15, 3) := by decide +kernel
theorem dL_law_1616 : decode cL_law 1616 = .ok (.aload_n 3, 1) := by decide +kernel
theorem dL_law_1617 : decode cL_law 1617 = .ok (.iconst 0, 1) := by decide +kernel
theorem dL_law_1618 : decode cL_law 1618 = .ok (.laload, 1) := by decide +kernel
theorem dL_law_1619 : decode cL_law 1619 = .ok (.iload 7, 2) := by decide +kernel
theorem dL_law_1621 : decode cL_law 1621 = .ok (.i2l, 1) := by decide +kernel
theorem dL_law_1622 : decode cL_law 1622 = .ok (.lcmp, 1) := by decide +kernel
theorem dL_law_1623 : decode cL_law 1623 = .ok (.ifCond .eq 5, 3) := by decide +kernel
theorem dL_law_1626 : decode cL_law 1626 = .ok (.iconst 0, 1) := by decide +kernel
theorem dL_law_1627 : decode cL_law 1627 = .ok (.ireturn, 1) := by decide +kernel
theorem dL_law_1628 : decode cL_law 1628 = .ok (.goto 258, 3) := by decide +kernel
theorem dL_law_1631 : decode cL_law 1631 = .ok (.aload_n 1, 1) := by decide +kernel
theorem dL_law_1632 : decode cL_law 1632 = .ok (.aload_n 0, 1) := by decide +kernel
theorem dL_law_1633 : decode cL_law 1633 = .ok (.iload 5, 2) := by decide +kernel
theorem dL_law_1635 : decode cL_law 1635 = .ok (.iconst 1, 1) := by decide +kernel
theorem dL_law_1636 : decode cL_law 1636 = .ok (.iadd, 1) := by decide +kernel
theorem dL_law_1637 : decode cL_law 1637 = .ok (.iaload, 1) := by decide +kernel
theorem dL_law_1638 : decode cL_law 1638 = .ok (.aload_n 3, 1) := by decide +kernel
theorem dL_law_1639 : decode cL_law 1639 = .ok (.invokestatic 205, 3) := by decide +kernel
theorem dL_law_1642 : decode cL_law 1642 = .ok (.istore 6, 2) := by decide +kernel
theorem dL_law_1644 : decode cL_law 1644 = .ok (.aload_n 2, 1) := by decide +kernel
theorem dL_law_1645 : decode cL_law 1645 = .ok (.aload_n 0, 1) := by decide +kernel
theorem dL_law_1646 : decode cL_law 1646 = .ok (.iload 5, 2) := by decide +kernel
theorem dL_law_1648 : decode cL_law 1648 = .ok (.iconst 1, 1) := by decide +kernel
theorem dL_law_1649 : decode cL_law 1649 = .ok (.iadd, 1) := by decide +kernel
theorem dL_law_1650 : decode cL_law 1650 = .ok (.iaload, 1) := by decide +kernel
theorem dL_law_1651 : decode cL_law 1651 = .ok (.invokevirtual 207, 3) := by decide +kernel
theorem dL_law_1654 : decode cL_law 1654 = .ok (.istore 7, 2) := by decide +kernel
theorem dL_law_1656 : decode cL_law 1656 = .ok (.aload_n 2, 1) := by decide +kernel
theorem dL_law_1657 : decode cL_law 1657 = .ok (.invokevirtual 120, 3) := by decide +kernel
theorem dL_law_1660 : decode cL_law 1660 = .ok (.iload 6, 2) := by decide +kernel
theorem dL_law_1662 : decode cL_law 1662 = .ok (.if_icmp .eq 5, 3) := by decide +kernel
theorem dL_law_1665 : decode cL_law 1665 = .ok (.iconst 0, 1) := by decide +kernel
theorem dL_law_1666 : decode cL_law 1666 = .ok (.ireturn, 1) := by decide +kernel
theorem dL_law_1667 : decode cL_law 1667 = .ok (.iload 6, 2) := by decide +kernel
theorem dL_law_1669 : decode cL_law 1669 = .ok (.ifCond .ne 15, 3) := by decide +kernel
theorem dL_law_1672 : decode cL_law 1672 = .ok (.aload_n 3, 1) := by decide +kernel
theorem dL_law_1673 : decode cL_law 1673 = .ok (.iconst 0, 1) := by decide +kernel
theorem dL_law_1674 : decode cL_law 1674 = .ok (.laload, 1) := by decide +kernel
theorem dL_law_1675 : decode cL_law 1675 = .ok (.iload 7, 2) := by decide +kernel
theorem dL_law_1677 : decode cL_law 1677 = .ok (.i2l, 1) := by decide +kernel
theorem dL_law_1678 : decode cL_law 1678 = .ok (.lcmp, 1) := by decide +kernel
theorem dL_law_1679 : decode cL_law 1679 = .ok (.ifCond .eq 5, 3) := by decide +kernel
theorem dL_law_1682 : decode cL_law 1682 = .ok (.iconst 0, 1) := by decide +kernel
theorem dL_law_1683 : decode cL_law 1683 = .ok (.ireturn, 1) := by decide +kernel
theorem dL_law_1684 : decode cL_law 1684 = .ok (.goto 202, 3) := by decide +kernel
theorem dL_law_1687 : decode cL_law 1687 = .ok (.aload_n 1, 1) := by decide +kernel
theorem dL_law_1688 : decode cL_law 1688 = .ok (.aload_n 0, 1) := by decide +kernel
theorem dL_law_1689 : decode cL_law 1689 = .ok (.iload 5, 2) := by decide +kernel
theorem dL_law_1691 : decode cL_law 1691 = .ok (.iconst 1, 1) := by decide +kernel
theorem dL_law_1692 : decode cL_law 1692 = .ok (.iadd, 1) := by decide +kernel
theorem dL_law_1693 : decode cL_law 1693 = .ok (.iaload, 1) := by decide +kernel
theorem dL_law_1694 : decode cL_law 1694 = .ok (.aload_n 3, 1) := by decide +kernel
theorem dL_law_1695 : decode cL_law 1695 = .ok (.invokestatic 208, 3) := by decide +kernel
theorem dL_law_1698 : decode cL_law 1698 = .ok (.istore 6, 2) := by decide +kernel
theorem dL_law_1700 : decode cL_law 1700 = .ok (.aload_n 2, 1) := by decide +kernel
theorem dL_law_1701 : decode cL_law 1701 = .ok (.aload_n 0, 1) := by decide +kernel
theorem dL_law_1702 : decode cL_law 1702 = .ok (.iload 5, 2) := by decide +kernel
theorem dL_law_1704 : decode cL_law 1704 = .ok (.iconst 1, 1) := by decide +kernel
theorem dL_law_1705 : decode cL_law 1705 = .ok (.iadd, 1) := by decide +kernel
theorem dL_law_1706 : decode cL_law 1706 = .ok (.iaload, 1) := by decide +kernel
theorem dL_law_1707 : decode cL_law 1707 = .ok (.invokevirtual 210, 3) := by decide +kernel
theorem dL_law_1710 : decode cL_law 1710 = .ok (.lstore 7, 2) := by decide +kernel
theorem dL_law_1712 : decode cL_law 1712 = .ok (.aload_n 2, 1) := by decide +kernel
theorem dL_law_1713 : decode cL_law 1713 = .ok (.invokevirtual 120, 3) := by decide +kernel
theorem dL_law_1716 : decode cL_law 1716 = .ok (.iload 6, 2) := by decide +kernel
theorem dL_law_1718 : decode cL_law 1718 = .ok (.if_icmp .eq 5, 3) := by decide +kernel
theorem dL_law_1721 : decode cL_law 1721 = .ok (.iconst 0, 1) := by decide +kernel
theorem dL_law_1722 : decode cL_law 1722 = .ok (.ireturn, 1) := by decide +kernel
theorem dL_law_1723 : decode cL_law 1723 = .ok (.iload 6, 2) := by decide +kernel
theorem dL_law_1725 : decode cL_law 1725 = .ok (.ifCond .ne 14, 3) := by decide +kernel
theorem dL_law_1728 : decode cL_law 1728 = .ok (.aload_n 3, 1) := by decide +kernel
theorem dL_law_1729 : decode cL_law 1729 = .ok (.iconst 0, 1) := by decide +kernel
theorem dL_law_1730 : decode cL_law 1730 = .ok (.laload, 1) := by decide +kernel
theorem dL_law_1731 : decode cL_law 1731 = .ok (.lload 7, 2) := by decide +kernel
theorem dL_law_1733 : decode cL_law 1733 = .ok (.lcmp, 1) := by decide +kernel
theorem dL_law_1734 : decode cL_law 1734 = .ok (.ifCond .eq 5, 3) := by decide +kernel
theorem dL_law_1737 : decode cL_law 1737 = .ok (.iconst 0, 1) := by decide +kernel
theorem dL_law_1738 : decode cL_law 1738 = .ok (.ireturn, 1) := by decide +kernel
theorem dL_law_1739 : decode cL_law 1739 = .ok (.goto 147, 3) := by decide +kernel
theorem dL_law_1742 : decode cL_law 1742 = .ok (.aload_n 1, 1) := by decide +kernel
theorem dL_law_1743 : decode cL_law 1743 = .ok (.aload 4, 2) := by decide +kernel
theorem dL_law_1745 : decode cL_law 1745 = .ok (.invokestatic 211, 3) := by decide +kernel
theorem dL_law_1748 : decode cL_law 1748 = .ok (.istore 6, 2) := by decide +kernel
theorem dL_law_1750 : decode cL_law 1750 = .ok (.aload_n 2, 1) := by decide +kernel
theorem dL_law_1751 : decode cL_law 1751 = .ok (.invokevirtual 214, 3) := by decide +kernel
theorem dL_law_1754 : decode cL_law 1754 = .ok (.fstore 7, 2) := by decide +kernel
theorem dL_law_1756 : decode cL_law 1756 = .ok (.aload_n 2, 1) := by decide +kernel
theorem dL_law_1757 : decode cL_law 1757 = .ok (.invokevirtual 120, 3) := by decide +kernel
theorem dL_law_1760 : decode cL_law 1760 = .ok (.iload 6, 2) := by decide +kernel
theorem dL_law_1762 : decode cL_law 1762 = .ok (.if_icmp .eq 5, 3) := by decide +kernel
theorem dL_law_1765 : decode cL_law 1765 = .ok (.iconst 0, 1) := by decide +kernel
theorem dL_law_1766 : decode cL_law 1766 = .ok (.ireturn, 1) := by decide +kernel
theorem dL_law_1767 : decode cL_law 1767 = .ok (.iload 6, 2) := by decide +kernel
theorem dL_law_1769 : decode cL_law 1769 = .ok (.ifCond .ne 36, 3) := by decide +kernel
theorem dL_law_1772 : decode cL_law 1772 = .ok (.aload 4, 2) := by decide +kernel
theorem dL_law_1774 : decode cL_law 1774 = .ok (.iconst 0, 1) := by decide +kernel
theorem dL_law_1775 : decode cL_law 1775 = .ok (.daload, 1) := by decide +kernel
theorem dL_law_1776 : decode cL_law 1776 = .ok (.fload 7, 2) := by decide +kernel
theorem dL_law_1778 : decode cL_law 1778 = .ok (.f2d, 1) := by decide +kernel
theorem dL_law_1779 : decode cL_law 1779 = .ok (.dcmp .l, 1) := by decide +kernel
theorem dL_law_1780 : decode cL_law 1780 = .ok (.ifCond .eq 25, 3) := by decide +kernel
theorem dL_law_1783 : decode cL_law 1783 = .ok (.aload 4, 2) := by decide +kernel
theorem dL_law_1785 : decode cL_law 1785 = .ok (.iconst 0, 1) := by decide +kernel
theorem dL_law_1786 : decode cL_law 1786 = .ok (.daload, 1) := by decide +kernel
theorem dL_law_1787 : decode cL_law 1787 = .ok (.aload 4, 2) := by decide +kernel
theorem dL_law_1789 : decode cL_law 1789 = .ok (.iconst 0, 1) := by decide +kernel
theorem dL_law_1790 : decode cL_law 1790 = .ok (.daload, 1) := by decide +kernel
theorem dL_law_1791 : decode cL_law 1791 = .ok (.dcmp .l, 1) := by decide +kernel
theorem dL_law_1792 : decode cL_law 1792 = .ok (.ifCond .eq 11, 3) := by decide +kernel
theorem dL_law_1795 : decode cL_law 1795 = .ok (.fload 7, 2) := by decide +kernel
theorem dL_law_1797 : decode cL_law 1797 = .ok (.fload 7, 2) := by decide +kernel
theorem dL_law_1799 : decode cL_law 1799 = .ok (.fcmp .l, 1) := by decide +kernel
theorem dL_law_1800 : decode cL_law 1800 = .ok (.ifCond .ne 5, 3) := by decide +kernel
theorem dL_law_1803 : decode cL_law 1803 = .ok (.iconst 0, 1) := by decide +kernel
theorem dL_law_1804 : decode cL_law 1804 = .ok (.ireturn, 1) := by decide +kernel
theorem dL_law_1805 : decode cL_law 1805 = .ok (.goto 81, 3) := by decide +kernel
theorem dL_law_1808 : decode cL_law 1808 = .ok (.aload_n 1, 1) := by decide +kernel
theorem dL_law_1809 : decode cL_law 1809 = .ok (.aload 4, 2) := by decide +kernel
theorem dL_law_1811 : decode cL_law 1811 = .ok (.invokestatic 215, 3) := by decide +kernel
theorem dL_law_1814 : decode cL_law 1814 = .ok (.istore 6, 2) := by decide +kernel
theorem dL_law_1816 : decode cL_law 1816 = .ok (.aload_n 2, 1) := by decide +kernel
theorem dL_law_1817 : decode cL_law 1817 = .ok (.invokevirtual 217, 3) := by decide +kernel
theorem dL_law_1820 : decode cL_law 1820 = .ok (.dstore 7, 2) := by decide +kernel
theorem dL_law_1822 : decode cL_law 1822 = .ok (.aload_n 2, 1) := by decide +kernel
theorem dL_law_1823 : decode cL_law 1823 = .ok (.invokevirtual 120, 3) := by decide +kernel
theorem dL_law_1826 : decode cL_law 1826 = .ok (.iload 6, 2) := by decide +kernel
theorem dL_law_1828 : decode cL_law 1828 = .ok (.if_icmp .eq 5, 3) := by decide +kernel
theorem dL_law_1831 : decode cL_law 1831 = .ok (.iconst 0, 1) := by decide +kernel
theorem dL_law_1832 : decode cL_law 1832 = .ok (.ireturn, 1) := by decide +kernel
theorem dL_law_1833 : decode cL_law 1833 = .ok (.iload 6, 2) := by decide +kernel
theorem dL_law_1835 : decode cL_law 1835 = .ok (.ifCond .ne 35, 3) := by decide +kernel
theorem dL_law_1838 : decode cL_law 1838 = .ok (.aload 4, 2) := by decide +kernel
theorem dL_law_1840 : decode cL_law 1840 = .ok (.iconst 0, 1) := by decide +kernel
theorem dL_law_1841 : decode cL_law 1841 = .ok (.daload, 1) := by decide +kernel
theorem dL_law_1842 : decode cL_law 1842 = .ok (.dload 7, 2) := by decide +kernel
theorem dL_law_1844 : decode cL_law 1844 = .ok (.dcmp .l, 1) := by decide +kernel
theorem dL_law_1845 : decode cL_law 1845 = .ok (.ifCond .eq 25, 3) := by decide +kernel
theorem dL_law_1848 : decode cL_law 1848 = .ok (.aload 4, 2) := by decide +kernel
theorem dL_law_1850 : decode cL_law 1850 = .ok (.iconst 0, 1) := by decide +kernel
theorem dL_law_1851 : decode cL_law 1851 = .ok (.daload, 1) := by decide +kernel
theorem dL_law_1852 : decode cL_law 1852 = .ok (.aload 4, 2) := by decide +kernel
theorem dL_law_1854 : decode cL_law 1854 = .ok (.iconst 0, 1) := by decide +kernel
theorem dL_law_1855 : decode cL_law 1855 = .ok (.daload, 1) := by decide +kernel
theorem dL_law_1856 : decode cL_law 1856 = .ok (.dcmp .l, 1) := by decide +kernel
theorem dL_law_1857 : decode cL_law 1857 = .ok (.ifCond .eq 11, 3) := by decide +kernel
theorem dL_law_1860 : decode cL_law 1860 = .ok (.dload 7, 2) := by decide +kernel
theorem dL_law_1862 : decode cL_law 1862 = .ok (.dload 7, 2) := by decide +kernel
theorem dL_law_1864 : decode cL_law 1864 = .ok (.dcmp .l, 1) := by decide +kernel
theorem dL_law_1865 : decode cL_law 1865 = .ok (.ifCond .ne 5, 3) := by decide +kernel
theorem dL_law_1868 : decode cL_law 1868 = .ok (.iconst 0, 1) := by decide +kernel
theorem dL_law_1869 : decode cL_law 1869 = .ok (.ireturn, 1) := by decide +kernel
theorem dL_law_1870 : decode cL_law 1870 = .ok (.goto 16, 3) := by decide +kernel
theorem dL_law_1873 : decode cL_law 1873 = .ok (.aload_n 1, 1) := by decide +kernel
theorem dL_law_1874 : decode cL_law 1874 = .ok (.invokevirtual 218, 3) := by decide +kernel
theorem dL_law_1877 : decode cL_law 1877 = .ok (.aload_n 2, 1) := by decide +kernel
theorem dL_law_1878 : decode cL_law 1878 = .ok (.invokevirtual 222, 3) := by decide +kernel
theorem dL_law_1881 : decode cL_law 1881 = .ok (.if_icmp .eq 5, 3) := by decide +kernel
theorem dL_law_1884 : decode cL_law 1884 = .ok (.iconst 0, 1) := by decide +kernel
theorem dL_law_1885 : decode cL_law 1885 = .ok (.ireturn, 1) := by decide +kernel
theorem dL_law_1886 : decode cL_law 1886 = .ok (.iinc 5 5, 3) := by decide +kernel
theorem dL_law_1889 : decode cL_law 1889 = .ok (.goto (-1861), 3) := by decide +kernel
theorem dL_law_1892 : decode cL_law 1892 = .ok (.iconst 1, 1) := by decide +kernel
theorem dL_law_1893 : decode cL_law 1893 = .ok (.ireturn, 1) := by decide +kernel
end
section
def fBig : List Cond := lw_tbl.filter goodWord
theorem fbig_good : GoodIn fBig fBig := fun w hw => ⟨hw, good_of_word (List.mem_filter.mp hw).2⟩
/-! THE FRAME: a typed memory by address (fm_S), a world in a heap (fm_H), and one judgement (fV) whose goal is a pure memory, a list of locals, a stack. -/
-- ===== values =====
abbrev fAV : Type := Int32 ⊕ Option Nat ⊕ Int64 ⊕ UInt64 ⊕ UInt32
def aI (x : Int32) : fAV := .inl x
def aR (r : Option Nat) : fAV := .inr (.inl r)
def aJ (x : Int64) : fAV := .inr (.inr (.inl x))
def aD (x : UInt64) : fAV := .inr (.inr (.inr (.inl x)))
def aF (x : UInt32) : fAV := .inr (.inr (.inr (.inr x)))
def fv (v : fAV) : Value := match v with
  | .inl x => .int x
  | .inr (.inl r) => va_rf r
  | .inr (.inr (.inl x)) => .long x
  | .inr (.inr (.inr (.inl x))) => .double x
  | .inr (.inr (.inr (.inr x))) => .float x
def fcat (v : fAV) : Nat := match v with
  | .inl _ => 1
  | .inr (.inl _) => 1
  | .inr (.inr (.inl _)) => 2
  | .inr (.inr (.inr (.inl _))) => 2
  | .inr (.inr (.inr (.inr _))) => 1
theorem fcat_rf (r : Option Nat) : (va_rf r).category = 1 := by cases r <;> rfl
theorem fcat_ok (v : fAV) : (fv v).category = fcat v := by
  obtain x | r | x | x | x := v
  · rfl
  · exact fcat_rf r
  · rfl
  · rfl
  · rfl
-- ===== locals =====
def fls : Nat → List (Option fAV) → List (Nat × Value)
  | _, [] => []
  | i, none :: l => fls (i + 1) l
  | i, some v :: l => (i, fv v) :: fls (i + 1) l
theorem fls_mem : ∀ (l : List (Option fAV)) (i : Nat) (q : Nat × Value), q ∈ fls i l ↔ ∃ (j : Nat) (v : fAV), l[j]? = some (some v) ∧ q = (i + j, fv v)
  | [], i, q => by simp [fls]
  | none :: l, i, q => by
    rw [fls, fls_mem l (i + 1) q]
    constructor
    · rintro ⟨j, v, h1, h2⟩
      exact ⟨j + 1, v, by simpa using h1, by rw [h2]; congr 1; omega⟩
    · rintro ⟨j, v, h1, h2⟩
      cases j with
      | zero => simp at h1
      | succ j => exact ⟨j, v, by simpa using h1, by rw [h2]; congr 1; omega⟩
  | some w :: l, i, q => by
    rw [fls, List.mem_cons, fls_mem l (i + 1) q]
    constructor
    · rintro (h | ⟨j, v, h1, h2⟩)
      · exact ⟨0, w, by simp, by rw [h]; simp⟩
      · exact ⟨j + 1, v, by simpa using h1, by rw [h2]; congr 1; omega⟩
    · rintro ⟨j, v, h1, h2⟩
      cases j with
      | zero =>
        left
        simp at h1
        rw [h2, h1]; simp
      | succ j => exact Or.inr ⟨j, v, by simpa using h1, by rw [h2]; congr 1; omega⟩
def fok (ls : Array Slot) (nL : Nat) (l : List (Option fAV)) : Prop := lv_has ls nL (fls 0 l)
theorem fok_at {ls : Array Slot} {nL : Nat} {l : List (Option fAV)} (h : fok ls nL l) {i : Nat} {v : fAV} (hi : l[i]? = some (some v)) : ls[i]? = some (.val (fv v)) := by
  have h2 := h.2.2 (i, fv v) ((fls_mem l 0 _).mpr ⟨i, v, hi, by simp⟩)
  exact h2
theorem fok_weak {ls : Array Slot} {nL : Nat} {l l' : List (Option fAV)} (h : fok ls nL l) (hs : ∀ (i : Nat) (v : fAV), l'[i]? = some (some v) → l[i]? = some (some v)) : fok ls nL l' := by
  refine ⟨h.1, h.2.1, fun q hq => ?_⟩
  obtain ⟨j, v, h1, h2⟩ := (fls_mem l' 0 q).mp hq
  exact h.2.2 q ((fls_mem l 0 q).mpr ⟨j, v, hs j v h1, h2⟩)
/-- no value of two slots ahead of place i -/
def fnw (l : List (Option fAV)) (i : Nat) : Bool := match i with
  | 0 => true
  | i + 1 => match l[i]? with
    | some (some v) => fcat v != 2
    | _ => true
theorem fok_put1 {nL : Nat} {l : List (Option fAV)} {i : Nat} {v : fAV} {ls' : Array Slot} (hw : fnw l i = true)
    (h : lv_has ls' nL ((i, fv v) :: (fls 0 l).filter (fun q => !(q.1 == i) && !(q.1 + 1 == i && q.2.category == 2)))) : fok ls' nL (l.set i (some v)) := by
  refine ⟨h.1, h.2.1, fun q hq => ?_⟩
  obtain ⟨j, w, h1, h2⟩ := (fls_mem _ 0 q).mp hq
  rw [Nat.zero_add] at h2
  subst h2
  refine h.2.2 (j, fv w) ?_
  by_cases hj : j = i
  · subst hj
    have : w = v := by
      rw [List.getElem?_set] at h1
      by_cases hl : j < l.length
      · simp [hl] at h1; exact h1.symm
      · simp [hl] at h1
    rw [this]
    exact List.mem_cons_self
  · rw [List.getElem?_set_ne (fun e => hj e.symm)] at h1
    refine List.mem_cons_of_mem _ (List.mem_filter.mpr ⟨(fls_mem _ 0 _).mpr ⟨j, w, h1, by simp⟩, ?_⟩)
    simp only [Bool.and_eq_true, Bool.not_eq_true', beq_eq_false_iff_ne, Bool.and_eq_false_iff]
    refine ⟨hj, ?_⟩
    by_cases hj1 : j + 1 = i
    · right
      subst hj1
      simp only [fnw, h1, bne_iff_ne, ne_eq] at hw
      rw [fcat_ok]
      exact hw
    · exact Or.inl hj1
theorem fok_put2 {nL : Nat} {l : List (Option fAV)} {i : Nat} {v : fAV} {ls' : Array Slot} (hw : fnw l i = true)
    (h : lv_has ls' nL ((i, fv v) :: (fls 0 l).filter (fun q => !(q.1 == i) && (!(q.1 == i + 1) && !(q.1 + 1 == i && q.2.category == 2))))) : fok ls' nL ((l.set i (some v)).set (i + 1) none) := by
  refine ⟨h.1, h.2.1, fun q hq => ?_⟩
  obtain ⟨j, w, h1, h2⟩ := (fls_mem _ 0 q).mp hq
  rw [Nat.zero_add] at h2
  subst h2
  refine h.2.2 (j, fv w) ?_
  have hj1 : j ≠ i + 1 := fun e => by
    subst e
    rw [List.getElem?_set] at h1
    simp at h1
  rw [List.getElem?_set_ne (fun e => hj1 e.symm)] at h1
  by_cases hj : j = i
  · subst hj
    have : w = v := by
      rw [List.getElem?_set] at h1
      by_cases hl : j < l.length
      · simp [hl] at h1; exact h1.symm
      · simp [hl] at h1
    rw [this]
    exact List.mem_cons_self
  · rw [List.getElem?_set_ne (fun e => hj e.symm)] at h1
    refine List.mem_cons_of_mem _ (List.mem_filter.mpr ⟨(fls_mem _ 0 _).mpr ⟨j, w, h1, by simp⟩, ?_⟩)
    simp only [Bool.and_eq_true, Bool.not_eq_true', beq_eq_false_iff_ne, Bool.and_eq_false_iff]
    refine ⟨hj, hj1, ?_⟩
    by_cases hj2 : j + 1 = i
    · right
      subst hj2
      simp only [fnw, h1, bne_iff_ne, ne_eq] at hw
      rw [fcat_ok]
      exact hw
    · exact Or.inl hj2
-- ===== the memory: addresses, kinds, lengths, ints, longs, references; the empty row of the lists; the Class of rows of objects =====
abbrev fMS : Type := List Nat × (Nat → Nat) × (Nat → Nat) × (Nat → Nat → Int32) × (Nat → Nat → Int64) × (Nat → Nat → Option Nat) × Nat × Nat
def sL (S : fMS) : List Nat := S.1
def sK (S : fMS) : Nat → Nat := S.2.1
def sN (S : fMS) : Nat → Nat := S.2.2.1
def sI (S : fMS) : Nat → Nat → Int32 := S.2.2.2.1
def sJ (S : fMS) : Nat → Nat → Int64 := S.2.2.2.2.1
def sR (S : fMS) : Nat → Nat → Option Nat := S.2.2.2.2.2.1
def sE (S : fMS) : Nat := S.2.2.2.2.2.2.1
def sM (S : fMS) : Nat := S.2.2.2.2.2.2.2
def isA (S : fMS) (k a : Nat) : Prop := a ∈ sL S ∧ sK S a = k
def wI (S : fMS) (a i : Nat) (v : Int32) : fMS := (S.1, S.2.1, S.2.2.1, (fun b j => if b = a ∧ j = i then v else sI S b j), S.2.2.2.2)
def wJ (S : fMS) (a i : Nat) (v : Int64) : fMS := (S.1, S.2.1, S.2.2.1, S.2.2.2.1, (fun b j => if b = a ∧ j = i then v else sJ S b j), S.2.2.2.2.2)
def wR (S : fMS) (a i : Nat) (v : Option Nat) : fMS := (S.1, S.2.1, S.2.2.1, S.2.2.2.1, S.2.2.2.2.1, (fun b j => if b = a ∧ j = i then v else sR S b j), S.2.2.2.2.2.2)
/-- a row of references copied -/
def wC (S : fMS) (b sp a dp n : Nat) : fMS := (S.1, S.2.1, S.2.2.1, S.2.2.2.1, S.2.2.2.2.1, (fun c j => if c = a ∧ dp ≤ j ∧ j < dp + n then sR S b (sp + (j - dp)) else sR S c j), S.2.2.2.2.2.2)
/-- a new cell, all 0 -/
def wN (S : fMS) (q k n : Nat) : fMS := (S.1 ++ [q], va_up S.2.1 q k, va_up S.2.2.1 q n, (fun b j => if b = q then 0 else sI S b j), (fun b j => if b = q then 0 else sJ S b j), (fun b j => if b = q then none else sR S b j), S.2.2.2.2.2.2)
/-- the frame tables: for each kind what its slots hold (0 an int, 1 a long, 2 a reference), which class it is -/
def kfl (k : Nat) : List Nat := match k with
  | 1 => [0, 2, 0, 0, 0, 0, 0, 0]
  | 2 => [2, 0, 0, 0]
  | 3 => [0, 2, 2, 0, 0, 0, 0, 1, 0, 0, 0, 0, 0, 0]
  | 4 => [2, 2, 2, 2, 2, 2, 2, 0, 0, 0, 0]
  | 5 => [0, 0, 0, 0, 0, 2, 2, 2, 2, 2, 2, 2, 0, 2, 2, 2, 2, 2, 2, 2, 0, 0, 0, 2, 2, 2, 2, 2, 2, 2, 0, 2, 0]
  | 6 => [0, 2, 0]
  | _ => []
def kc (k : Nat) : Nat := match k with
  | 1 => 4
  | 2 => 5
  | 3 => 6
  | 4 => 7
  | 5 => 8
  | 6 => 3
  | _ => 3
def fStrs : List (Nat × String) := [(250, "no such team"), (265, "a number is out of range"), (75, "no team can be added here"), (255, "the team is the root"), (101, "more than that is run"), (261, "the team has children"), (110, "too many jobs"), (268, "no such job"), (273, "the job neither waits nor runs"), (161, "no job waits"), (167, "no such rank"), (185, "too many reservations"), (190, "no such reservation"), (236, "the capacity is 0"), (239, "no job has ended")]
def fCast : List (String × String) := [(RX0, "java/lang/Object"), (RX1, "java/lang/Object"), (RX2, "java/lang/Object"), ("java/lang/IndexOutOfBoundsException", "java/lang/IndexOutOfBoundsException"), ("java/lang/IllegalArgumentException", "java/lang/IllegalArgumentException"), ("java/lang/IllegalStateException", "java/lang/IllegalStateException"), ("java/lang/UnsupportedOperationException", "java/lang/UnsupportedOperationException"), ("java/util/NoSuchElementException", "java/util/NoSuchElementException"), ("java/lang/ArithmeticException", "java/lang/ArithmeticException")]
def fNcs : List (String × String) := [("java/lang/IndexOutOfBoundsException", "java/lang/IllegalArgumentException"), ("java/lang/IndexOutOfBoundsException", "java/lang/IllegalStateException"), ("java/lang/IndexOutOfBoundsException", "java/lang/UnsupportedOperationException"), ("java/lang/IndexOutOfBoundsException", "java/util/NoSuchElementException"), ("java/lang/IndexOutOfBoundsException", "java/lang/ArithmeticException"), ("java/lang/IllegalArgumentException", "java/lang/IndexOutOfBoundsException"), ("java/lang/IllegalArgumentException", "java/lang/IllegalStateException"), ("java/lang/IllegalArgumentException", "java/lang/UnsupportedOperationException"), ("java/lang/IllegalArgumentException", "java/util/NoSuchElementException"), ("java/lang/IllegalArgumentException", "java/lang/ArithmeticException"), ("java/lang/IllegalStateException", "java/lang/IndexOutOfBoundsException"), ("java/lang/IllegalStateException", "java/lang/IllegalArgumentException"), ("java/lang/IllegalStateException", "java/lang/UnsupportedOperationException"), ("java/lang/IllegalStateException", "java/util/NoSuchElementException"), ("java/lang/IllegalStateException", "java/lang/ArithmeticException"), ("java/lang/UnsupportedOperationException", "java/lang/IndexOutOfBoundsException"), ("java/lang/UnsupportedOperationException", "java/lang/IllegalArgumentException"), ("java/lang/UnsupportedOperationException", "java/lang/IllegalStateException"), ("java/lang/UnsupportedOperationException", "java/util/NoSuchElementException"), ("java/lang/UnsupportedOperationException", "java/lang/ArithmeticException"), ("java/util/NoSuchElementException", "java/lang/IndexOutOfBoundsException"), ("java/util/NoSuchElementException", "java/lang/IllegalArgumentException"), ("java/util/NoSuchElementException", "java/lang/IllegalStateException"), ("java/util/NoSuchElementException", "java/lang/UnsupportedOperationException"), ("java/util/NoSuchElementException", "java/lang/ArithmeticException"), ("java/lang/ArithmeticException", "java/lang/IndexOutOfBoundsException"), ("java/lang/ArithmeticException", "java/lang/IllegalArgumentException"), ("java/lang/ArithmeticException", "java/lang/IllegalStateException"), ("java/lang/ArithmeticException", "java/lang/UnsupportedOperationException"), ("java/lang/ArithmeticException", "java/util/NoSuchElementException")]
-- ===== kinds: 1 Job 2 Reservation 3 Team 4 Broker 5 Model 6 ArrayList; rows: 11 int 12 long 13 boolean 14 Object 15 double =====
def kft (k i : Nat) : Nat := (kfl k).getD i 0
def kn (k : Nat) : Nat := (kfl k).length
def slotAV (S : fMS) (k a i : Nat) : fAV := match kft k i with
  | 0 => aI (sI S a i)
  | 1 => aJ (sJ S a i)
  | _ => aR (sR S a i)
/-- what is the same in all methods: the tables' numbers, the classes of rows, where new cells begin, the slots used till there -/
abbrev fG : Type := va_G × ClassId × ClassId × ClassId × ClassId × ClassId × Nat × Nat
def fgD (G : fG) : va_G := G.1
def fgI (G : fG) : ClassId := G.2.1
def fgJ (G : fG) : ClassId := G.2.2.1
def fgZ (G : fG) : ClassId := G.2.2.2.1
def fgO (G : fG) : ClassId := G.2.2.2.2.1
def fgDD (G : fG) : ClassId := G.2.2.2.2.2.1
def fgz (G : fG) : Nat := G.2.2.2.2.2.2.1
def fgs (G : fG) : Nat := G.2.2.2.2.2.2.2
def fgA (G : fG) : Nat → Prop := fun q => fgz G ≤ q
def fgT (G : fG) : List (ClassId × FieldType) := [(fgI G, .int), (fgJ G, .long), (fgZ G, .boolean), (fgO G, .object "java/lang/Object"), (fgDD G, .double)]
def cellOf (G : fG) (S : fMS) (a : Nat) : va_E :=
  if sK S a = 11 then .inl (fgI G, sN S a, .inl (sI S a))
  else if sK S a = 12 then .inl (fgJ G, sN S a, .inr (.inl (sJ S a)))
  else if sK S a = 13 then .inl (fgZ G, sN S a, .inl (sI S a))
  else if sK S a = 14 then .inl (fgO G, sN S a, .inr (.inr (.inr (.inr (sR S a)))))
  else if sK S a = 15 then .inl (fgDD G, sN S a, .inr (.inr (.inr (.inl (fun i => (sJ S a i).toUInt64)))))
  else .inr (kc (sK S a), (List.range (kn (sK S a))).map (fun i => fv (slotAV S (sK S a) a i)))
theorem cell_obj {G : fG} {S : fMS} {a k : Nat} (h : sK S a = k) (hk : k < 11) : cellOf G S a = .inr (kc k, (List.range (kn k)).map (fun i => fv (slotAV S k a i))) := by
  subst h
  unfold cellOf
  rw [if_neg (by omega), if_neg (by omega), if_neg (by omega), if_neg (by omega), if_neg (by omega)]
theorem cell_I {G : fG} {S : fMS} {a : Nat} (h : sK S a = 11) : cellOf G S a = .inl (fgI G, sN S a, .inl (sI S a)) := by unfold cellOf; rw [if_pos h]
theorem cell_J {G : fG} {S : fMS} {a : Nat} (h : sK S a = 12) : cellOf G S a = .inl (fgJ G, sN S a, .inr (.inl (sJ S a))) := by unfold cellOf; rw [if_neg (by omega), if_pos h]
theorem cell_Z {G : fG} {S : fMS} {a : Nat} (h : sK S a = 13) : cellOf G S a = .inl (fgZ G, sN S a, .inl (sI S a)) := by unfold cellOf; rw [if_neg (by omega), if_neg (by omega), if_pos h]
theorem cell_O {G : fG} {S : fMS} {a : Nat} (h : sK S a = 14) : cellOf G S a = .inl (fgO G, sN S a, .inr (.inr (.inr (.inr (sR S a))))) := by unfold cellOf; rw [if_neg (by omega), if_neg (by omega), if_neg (by omega), if_pos h]
theorem cell_D {G : fG} {S : fMS} {a : Nat} (h : sK S a = 15) : cellOf G S a = .inl (fgDD G, sN S a, .inr (.inr (.inr (.inl (fun i => (sJ S a i).toUInt64))))) := by unfold cellOf; rw [if_neg (by omega), if_neg (by omega), if_neg (by omega), if_neg (by omega), if_pos h]
theorem slot_cong {S S' : fMS} {k a i : Nat} (hI : sI S' a = sI S a) (hJ : sJ S' a = sJ S a) (hR : sR S' a = sR S a) : slotAV S' k a i = slotAV S k a i := by unfold slotAV; rw [hI, hJ, hR]
theorem cell_cong {G : fG} {S S' : fMS} {a : Nat} (hK : sK S' a = sK S a) (hN : sN S' a = sN S a) (hI : sI S' a = sI S a) (hJ : sJ S' a = sJ S a) (hR : sR S' a = sR S a) : cellOf G S' a = cellOf G S a := by
  unfold cellOf
  rw [hK, hN, hI, hJ, hR]
  simp only [slot_cong hI hJ hR]
theorem range_set {N i : Nat} {f g : Nat → Value} {v : Value} (hi : i < N) (hg : g i = v) (ho : ∀ j, j ≠ i → g j = f j) : ((List.range N).map f).set i v = (List.range N).map g := by
  apply List.ext_getElem?
  intro j
  rw [List.getElem?_set]
  by_cases hj : i = j
  · subst hj
    simp [hi, hg]
  · rw [if_neg hj]
    simp only [List.getElem?_map]
    by_cases hl : j < N
    · simp [hl, ho j (fun e => hj e.symm)]
    · simp [hl]
-- what a store does to a cell
theorem put_I {G : fG} {S : fMS} {k a i : Nat} {v : Int32} (h : sK S a = k) (hk : k < 11) (hi : i < kn k) (ht : kft k i = 0) (b : Nat) : va_up (cellOf G S) a (.inr (kc k, ((List.range (kn k)).map (fun i => fv (slotAV S k a i))).set i (fv (aI v)))) b = cellOf G (wI S a i v) b := by
  by_cases hb : b = a
  · subst hb
    rw [va_up_self, cell_obj (S := wI S b i v) (k := k) h hk]
    congr 2
    refine range_set hi ?_ (fun j hj => ?_)
    · unfold slotAV; rw [ht]; simp [wI, sI]
    · congr 1
      unfold slotAV
      simp [wI, sI, sJ, sR, hj]
  · rw [va_up_ne _ _ hb]
    refine (cell_cong (S := S) (S' := wI S a i v) rfl rfl ?_ rfl rfl).symm
    funext j
    simp [wI, sI, hb]
theorem put_J {G : fG} {S : fMS} {k a i : Nat} {v : Int64} (h : sK S a = k) (hk : k < 11) (hi : i < kn k) (ht : kft k i = 1) (b : Nat) : va_up (cellOf G S) a (.inr (kc k, ((List.range (kn k)).map (fun i => fv (slotAV S k a i))).set i (fv (aJ v)))) b = cellOf G (wJ S a i v) b := by
  by_cases hb : b = a
  · subst hb
    rw [va_up_self, cell_obj (S := wJ S b i v) (k := k) h hk]
    congr 2
    refine range_set hi ?_ (fun j hj => ?_)
    · unfold slotAV; rw [ht]; simp [wJ, sJ]
    · congr 1
      unfold slotAV
      simp [wJ, sI, sJ, sR, hj]
  · rw [va_up_ne _ _ hb]
    refine (cell_cong (S := S) (S' := wJ S a i v) rfl rfl rfl ?_ rfl).symm
    funext j
    simp [wJ, sJ, hb]
theorem put_R {G : fG} {S : fMS} {k a i : Nat} {v : Option Nat} (h : sK S a = k) (hk : k < 11) (hi : i < kn k) (ht : kft k i = 2) (b : Nat) : va_up (cellOf G S) a (.inr (kc k, ((List.range (kn k)).map (fun i => fv (slotAV S k a i))).set i (fv (aR v)))) b = cellOf G (wR S a i v) b := by
  by_cases hb : b = a
  · subst hb
    rw [va_up_self, cell_obj (S := wR S b i v) (k := k) h hk]
    congr 2
    refine range_set hi ?_ (fun j hj => ?_)
    · unfold slotAV; rw [ht]; simp [wR, sR]
    · congr 1
      unfold slotAV
      simp [wR, sI, sJ, sR, hj]
  · rw [va_up_ne _ _ hb]
    refine (cell_cong (S := S) (S' := wR S a i v) rfl rfl rfl rfl ?_).symm
    funext j
    simp [wR, sR, hb]
theorem putA_I {G : fG} {S : fMS} {a i : Nat} {v : Int32} (h : sK S a = 11) (b : Nat) : va_up (cellOf G S) a (.inl (fgI G, sN S a, .inl (upd (sI S a) i v))) b = cellOf G (wI S a i v) b := by
  by_cases hb : b = a
  · subst hb
    rw [va_up_self, cell_I (S := wI S b i v) h]
    have e : upd (sI S b) i v = sI (wI S b i v) b := by funext j; simp [upd, wI, sI]
    rw [e]; rfl
  · rw [va_up_ne _ _ hb]
    refine (cell_cong (S := S) (S' := wI S a i v) rfl rfl ?_ rfl rfl).symm
    funext j
    simp [wI, sI, hb]
theorem putA_Z {G : fG} {S : fMS} {a i : Nat} {v : Int32} (h : sK S a = 13) (b : Nat) : va_up (cellOf G S) a (.inl (fgZ G, sN S a, .inl (upd (sI S a) i v))) b = cellOf G (wI S a i v) b := by
  by_cases hb : b = a
  · subst hb
    rw [va_up_self, cell_Z (S := wI S b i v) h]
    have e : upd (sI S b) i v = sI (wI S b i v) b := by funext j; simp [upd, wI, sI]
    rw [e]; rfl
  · rw [va_up_ne _ _ hb]
    refine (cell_cong (S := S) (S' := wI S a i v) rfl rfl ?_ rfl rfl).symm
    funext j
    simp [wI, sI, hb]
theorem putA_J {G : fG} {S : fMS} {a i : Nat} {v : Int64} (h : sK S a = 12) (b : Nat) : va_up (cellOf G S) a (.inl (fgJ G, sN S a, .inr (.inl (vp_updL (sJ S a) i v)))) b = cellOf G (wJ S a i v) b := by
  by_cases hb : b = a
  · subst hb
    rw [va_up_self, cell_J (S := wJ S b i v) h]
    have e : vp_updL (sJ S b) i v = sJ (wJ S b i v) b := by funext j; simp [vp_updL, wJ, sJ]
    rw [e]; rfl
  · rw [va_up_ne _ _ hb]
    refine (cell_cong (S := S) (S' := wJ S a i v) rfl rfl rfl ?_ rfl).symm
    funext j
    simp [wJ, sJ, hb]
theorem putA_O {G : fG} {S : fMS} {a i : Nat} {v : Option Nat} (h : sK S a = 14) (b : Nat) : va_up (cellOf G S) a (.inl (fgO G, sN S a, .inr (.inr (.inr (.inr (va_up (sR S a) i v)))))) b = cellOf G (wR S a i v) b := by
  by_cases hb : b = a
  · subst hb
    rw [va_up_self, cell_O (S := wR S b i v) h]
    have e : va_up (sR S b) i v = sR (wR S b i v) b := by funext j; simp [va_up, wR, sR]
    rw [e]; rfl
  · rw [va_up_ne _ _ hb]
    refine (cell_cong (S := S) (S' := wR S a i v) rfl rfl rfl rfl ?_).symm
    funext j
    simp [wR, sR, hb]
theorem putA_D {G : fG} {S : fMS} {a i : Nat} {v : UInt64} (h : sK S a = 15) (b : Nat) : va_up (cellOf G S) a (.inl (fgDD G, sN S a, .inr (.inr (.inr (.inl (vf_upd (fun i => (sJ S a i).toUInt64) i v)))))) b = cellOf G (wJ S a i v.toInt64) b := by
  by_cases hb : b = a
  · subst hb
    rw [va_up_self, cell_D (S := wJ S b i v.toInt64) h]
    have e : vf_upd (fun i => (sJ S b i).toUInt64) i v = (fun j => (sJ (wJ S b i v.toInt64) b j).toUInt64) := by
      funext j
      by_cases hj : j = i
      · subst hj; simp [vf_upd, wJ, sJ]
      · simp [vf_upd, wJ, sJ, hj]
    rw [e]; rfl
  · rw [va_up_ne _ _ hb]
    refine (cell_cong (S := S) (S' := wJ S a i v.toInt64) rfl rfl rfl ?_ rfl).symm
    funext j
    simp [wJ, sJ, hb]
theorem putA_C {G : fG} {S : fMS} {a b sp dp n : Nat} (h : sK S a = 14) (c : Nat) : va_up (cellOf G S) a (.inl (fgO G, sN S a, .inr (.inr (.inr (.inr (va_cpy (sR S b) (sR S a) sp dp n)))))) c = cellOf G (wC S b sp a dp n) c := by
  by_cases hb : c = a
  · subst hb
    rw [va_up_self, cell_O (S := wC S b sp c dp n) h]
    have e : va_cpy (sR S b) (sR S c) sp dp n = sR (wC S b sp c dp n) c := by funext j; simp [va_cpy, wC, sR]
    rw [e]; rfl
  · rw [va_up_ne _ _ hb]
    refine (cell_cong (S := S) (S' := wC S b sp a dp n) rfl rfl rfl rfl ?_).symm
    funext j
    simp [wC, sR, hb]
/-- a new cell: its content by its kind -/
theorem new_up {G : fG} {S : fMS} {q k n : Nat} {e : va_E} (he : cellOf G (wN S q k n) q = e) (b : Nat) : va_up (cellOf G S) q e b = cellOf G (wN S q k n) b := by
  by_cases hb : b = q
  · subst hb
    rw [va_up_self, he]
  · rw [va_up_ne _ _ hb]
    refine (cell_cong (S := S) (S' := wN S q k n) ?_ ?_ ?_ ?_ ?_).symm
    · show va_up _ _ _ _ = _; rw [va_up_ne _ _ hb]; rfl
    · show va_up _ _ _ _ = _; rw [va_up_ne _ _ hb]; rfl
    · funext j; simp [wN, sI, hb]
    · funext j; simp [wN, sJ, hb]
    · funext j; simp [wN, sR, hb]
-- ===== a world in a heap =====
def hsl (H : Heap) : Nat := (H.toList.map (fun c => c.slots.size)).sum
theorem hsl_new {s t : State} {locs : List Loc} {k n : Nat} (h : s.sameButNew t locs k n) : hsl t.heap = hsl s.heap + ((t.heap.toList.drop s.heap.size).map (fun c => c.slots.size)).sum := by
  obtain ⟨-, hle, -, -, -, hc⟩ := h
  have e1 : t.heap.toList = t.heap.toList.take s.heap.size ++ t.heap.toList.drop s.heap.size := (List.take_append_drop _ _).symm
  have e2 : (t.heap.toList.take s.heap.size).map (fun c => c.slots.size) = s.heap.toList.map (fun c => c.slots.size) := by
    apply List.ext_getElem?
    intro i
    simp only [List.getElem?_map, List.getElem?_take]
    by_cases hi : i < s.heap.size
    · rw [if_pos hi]
      have h1 : s.heap[i]? = some s.heap[i] := Array.getElem?_eq_getElem hi
      obtain ⟨c', h2, -, h3, -⟩ := hc i _ h1
      rw [Array.getElem?_toList, Array.getElem?_toList, h2, h1]
      simp [h3]
    · rw [if_neg hi]
      have h1 : s.heap.toList[i]? = none := by simp; omega
      rw [h1]
  unfold hsl
  conv => lhs; rw [e1, List.map_append, List.sum_append, e2]
/-- what the statics hold: the empty row of the lists, the two of Throwable, the Class of rows of objects -/
def fZ (G : fG) (S : fMS) (s : State) (H : Heap) : Prop :=
  va_Z "java/util/ArrayList" "DEFAULTCAPACITY_EMPTY_ELEMENTDATA" "[Ljava/lang/Object;" (.ref (sE S)) (fgA G) s H ∧ va_T (.object "java/lang/Object") (sE S) 0 (fun _ => .null) (fgA G) s H ∧
  va_Mi "[Ljava/lang/Object;" (sM S) s ∧ vx_Zq Bundle.tN "UNASSIGNED_STACK" Bundle.steD (fgA G) s H ∧ vx_Zq Bundle.tN "SUPPRESSED_SENTINEL" Bundle.listD (fgA G) s H
/-- what the tables tell beside the words: the texts, which class may be cast to which -/
def fT (s : State) : Prop := (∀ q ∈ fStrs, ∃ sa, vk_R RX3 q.1 q.2 sa s) ∧ va_AO "java/lang/Object" s ∧ (∀ q ∈ fCast, va_Nw (.castable q.1 q.2) s) ∧ (∀ q ∈ fNcs, va_Nc q.1 q.2 s) ∧ va_Nw (.declares ⟨"java/lang/Object", "getClass", "()Ljava/lang/Class;"⟩) s
theorem fT.warm {s U : State} (hW : s.WarmedH U.vm) (h : fT s) : fT U := ⟨fun q hq => (h.1 q hq).imp (fun sa h => vk_R.warm hW h), va_AO.moved hW.alike h.2.1, fun q hq => va_Nw.warmC hW (h.2.2.1 q hq), fun q hq => va_Nc.moved hW.alike (h.2.2.2.1 q hq), va_Nw.warmD hW h.2.2.2.2⟩
def fZm (S : fMS) : Prop := sN S (sE S) = 0
def fH (G : fG) (S : fMS) (n : Nat) (s : State) (H : Heap) : Prop :=
  va_P (fgD G) vwCl (va_pl (sL S) (cellOf G S)) H ∧ va_D (fgA G) (va_pl (sL S) (cellOf G S)) ∧ va_K (fgD G) vwCl (fgT G) s ∧ fZ G S s H ∧ fZm S ∧ n ≤ 30000
theorem fZ.moved {G : fG} {S : fMS} {u U : State} {H : Heap} (hvm : u.vm.Alike U.vm) (h : fZ G S u H) : fZ G S U H := by
  obtain ⟨h1, h2, h3, h4, h5⟩ := h
  exact ⟨va_Z.moved hvm h1, va_T.moved hvm h2, va_Mi.moved hvm h3, vx_Zq.moved hvm h4, vx_Zq.moved hvm h5⟩
theorem fZ.kept {G : fG} {S : fMS} {U : State} {H H1 : Heap} (h : fZ G S U H) (hq : ∀ a : Nat, a < H.size → ¬ fgA G a → H1[a]? = H[a]?) : fZ G S U H1 := by
  obtain ⟨h1, h2, h3, h4, h5⟩ := h
  exact ⟨va_Z.kept h1 hq, va_T.kept h2 hq, h3, vx_Zq.kept h4 hq, vx_Zq.kept h5 hq⟩
theorem fH.moved {G : fG} {S : fMS} {n : Nat} {u U : State} {H : Heap} (hvm : u.vm.Alike U.vm) (h : fH G S n u H) : fH G S n U H := by
  obtain ⟨h1, h2, h3, h4, h5, h6⟩ := h
  exact ⟨h1, h2, va_K.moved hvm h3, fZ.moved hvm h4, h5, h6⟩
-- ===== the judgement =====
/-- where a walk stands: program, launch, environment, room, start, method, its arguments, the frames below, its record, its code; then: its end, the number of its locals, the common numbers -/
abbrev fX : Type := (Program × Launch × Env × Room × State × MethodId × Array Value × List Frame × Method × Code) × (State → Prop) × Nat × fG
def xp (F : fX) : Program := F.1.1
def xl (F : fX) : Launch := F.1.2.1
def xe (F : fX) : Env := F.1.2.2.1
def xR (F : fX) : Room := F.1.2.2.2.1
def xs (F : fX) : State := F.1.2.2.2.2.1
def xm (F : fX) : MethodId := F.1.2.2.2.2.2.1
def xa (F : fX) : Array Value := F.1.2.2.2.2.2.2.1
def xb (F : fX) : List Frame := F.1.2.2.2.2.2.2.2.1
def xM (F : fX) : Method := F.1.2.2.2.2.2.2.2.2.1
def xc (F : fX) : Code := F.1.2.2.2.2.2.2.2.2.2
def xQ (F : fX) : State → Prop := F.2.1
def xn (F : fX) : Nat := F.2.2.1
def xG (F : fX) : fG := F.2.2.2
abbrev xS (F : fX) (T : State) (locs : List Loc) (cells slots : Nat) : Prop := Stand (xp F) (xl F) (xe F) (xR F) (xs F) (xm F) (xa F) (xb F) (xM F) (xc F) T locs cells slots
abbrev xW (F : fX) (H : Heap) (locs : List Loc) (cells slots : Nat) (g : JFrame) : Prop := W (xp F) (xl F) (xe F) (xR F) (xs F) (xm F) (xa F) (xb F) (xM F) (xc F) H locs cells slots (xQ F) g
/-- what holds all along a method: the machine, the code, its class, the words, the room by its level, the start not below the common start -/
def fOk (F : fX) (cc : ByteArray) (own : String) (lv : Nat) : Prop :=
  (xp F).tables.exec = Jvm.exec ∧ (xc F).code = cc ∧ (xc F).maxLocals = xn F ∧ (xs F).vm.findClass own = some (xm F).cls ∧ (∀ w ∈ fBig, w.before (xa F) (xs F) = true) ∧
  (20 * lv ≤ (xR F).frames ∧ 30000 * lv ≤ (xR F).cells ∧ 30000 * lv ≤ (xR F).slots ∧ 100 * lv ≤ (xR F).locals) ∧ (fgz (xG F) ≤ (xs F).heap.size ∧ fgs (xG F) ≤ hsl (xs F).heap) ∧ (xM F).locks = false ∧ (xl F).stackTraces = false ∧ fT (xs F)
/-- the counter bounds what is new -/
def fBd (F : fX) (n cells slots : Nat) : Prop := cells + (xs F).heap.size ≤ fgz (xG F) + n ∧ slots + hsl (xs F).heap ≤ fgs (xG F) + n
def fV (F : fX) (S : fMS) (n pc : Nat) (l : List (Option fAV)) (st : List fAV) : Prop :=
  ∀ (T : State) (locs : List Loc) (cells slots : Nat) (ls : Array Slot), xS F T locs cells slots → fBd F n cells slots → fH (xG F) S n (xs F) T.heap → va_S (fgA (xG F)) (xs F).heap T.heap locs → fok ls (xn F) l →
    ∃ t, Steps (xp F).tables (xe F) (xb F) (T.setTop (F0 (xm F) pc ls (st.map fv))) t ∧ xQ F t
theorem fV.to {F : fX} {S : fMS} {n pc : Nat} {l : List (Option fAV)} {st : List fAV} {H : Heap} {locs : List Loc} {cells slots : Nat} {ls : Array Slot} (k : fV F S n pc l st) (hB : fBd F n cells slots) (hH : fH (xG F) S n (xs F) H) (hS : va_S (fgA (xG F)) (xs F).heap H locs) (hl : fok ls (xn F) l) : xW F H locs cells slots (F0 (xm F) pc ls (st.map fv)) := by
  intro T hT X
  subst hT
  exact k T locs cells slots ls X hB hH hS hl
theorem fV.of {F : fX} {S : fMS} {n pc : Nat} {l : List (Option fAV)} {st : List fAV} (k : ∀ (H : Heap) (locs : List Loc) (cells slots : Nat) (ls : Array Slot), fBd F n cells slots → fH (xG F) S n (xs F) H → va_S (fgA (xG F)) (xs F).heap H locs → fok ls (xn F) l → xW F H locs cells slots (F0 (xm F) pc ls (st.map fv))) : fV F S n pc l st :=
  fun T locs cells slots ls X hB hH hS hl => k T.heap locs cells slots ls hB hH hS hl T rfl X
theorem fV.weak {F : fX} {S : fMS} {n pc : Nat} {l l' : List (Option fAV)} {st : List fAV} (hs : ∀ (i : Nat) (v : fAV), l'[i]? = some (some v) → l[i]? = some (some v)) (k : fV F S n pc l' st) : fV F S n pc l st :=
  fun T locs cells slots ls X hB hH hS hl => k T locs cells slots ls X hB hH hS (fok_weak hl hs)
/-- fewer locals -/
def fsub : List (Option fAV) → List (Option fAV) → Prop
  | [], _ => True
  | none :: l', _ :: l => fsub l' l
  | some v :: l', w :: l => w = some v ∧ fsub l' l
  | _ :: _, [] => False
theorem fsub_at : ∀ (l' l : List (Option fAV)), fsub l' l → ∀ (i : Nat) (v : fAV), l'[i]? = some (some v) → l[i]? = some (some v)
  | [], l, _, i, v, h => by simp at h
  | none :: l', [], hs, i, v, h => hs.elim
  | some w :: l', [], hs, i, v, h => hs.elim
  | none :: l', w :: l, hs, i, v, h => by
    cases i with
    | zero => simp at h
    | succ i => simpa using fsub_at l' l hs i v (by simpa using h)
  | some u :: l', w :: l, hs, i, v, h => by
    cases i with
    | zero =>
      simp at h
      subst h
      simp [hs.1]
    | succ i => simpa using fsub_at l' l hs.2 i v (by simpa using h)
theorem fV.sub {F : fX} {S : fMS} {n pc : Nat} {l l' : List (Option fAV)} {st : List fAV} (hs : fsub l' l) (k : fV F S n pc l' st) : fV F S n pc l st := k.weak (fsub_at l' l hs)
theorem fV_iadd {F : fX} {S : fMS} {n pc : Nat} {l : List (Option fAV)} {st : List fAV} {cc : ByteArray} {own : String} {lv : Nat} (hF : fOk F cc own lv) {x y : Int32} (hd : decode cc pc = .ok (.iadd, 1))  (k : fV F S n (pc + 1) l (aI (x + y) :: st)) : fV F S n pc l (aI y :: aI x :: st) := fV.of fun H locs cells slots ls hB hH hS hl => lv_iadd hF.1 hF.2.1 hd  (k.to hB hH hS hl)
theorem fV_isub {F : fX} {S : fMS} {n pc : Nat} {l : List (Option fAV)} {st : List fAV} {cc : ByteArray} {own : String} {lv : Nat} (hF : fOk F cc own lv) {x y : Int32} (hd : decode cc pc = .ok (.isub, 1))  (k : fV F S n (pc + 1) l (aI (x - y) :: st)) : fV F S n pc l (aI y :: aI x :: st) := fV.of fun H locs cells slots ls hB hH hS hl => lv_isub hF.1 hF.2.1 hd  (k.to hB hH hS hl)
theorem fV_imul {F : fX} {S : fMS} {n pc : Nat} {l : List (Option fAV)} {st : List fAV} {cc : ByteArray} {own : String} {lv : Nat} (hF : fOk F cc own lv) {x y : Int32} (hd : decode cc pc = .ok (.imul, 1))  (k : fV F S n (pc + 1) l (aI (x * y) :: st)) : fV F S n pc l (aI y :: aI x :: st) := fV.of fun H locs cells slots ls hB hH hS hl => lv_imul hF.1 hF.2.1 hd  (k.to hB hH hS hl)
theorem fV_iand {F : fX} {S : fMS} {n pc : Nat} {l : List (Option fAV)} {st : List fAV} {cc : ByteArray} {own : String} {lv : Nat} (hF : fOk F cc own lv) {x y : Int32} (hd : decode cc pc = .ok (.iand, 1))  (k : fV F S n (pc + 1) l (aI (x &&& y) :: st)) : fV F S n pc l (aI y :: aI x :: st) := fV.of fun H locs cells slots ls hB hH hS hl => lv_iand hF.1 hF.2.1 hd  (k.to hB hH hS hl)
theorem fV_ior {F : fX} {S : fMS} {n pc : Nat} {l : List (Option fAV)} {st : List fAV} {cc : ByteArray} {own : String} {lv : Nat} (hF : fOk F cc own lv) {x y : Int32} (hd : decode cc pc = .ok (.ior, 1))  (k : fV F S n (pc + 1) l (aI (x ||| y) :: st)) : fV F S n pc l (aI y :: aI x :: st) := fV.of fun H locs cells slots ls hB hH hS hl => lv_ior hF.1 hF.2.1 hd  (k.to hB hH hS hl)
theorem fV_ishl {F : fX} {S : fMS} {n pc : Nat} {l : List (Option fAV)} {st : List fAV} {cc : ByteArray} {own : String} {lv : Nat} (hF : fOk F cc own lv) {x y : Int32} (hd : decode cc pc = .ok (.ishl, 1))  (k : fV F S n (pc + 1) l (aI (x <<< (y &&& 31)) :: st)) : fV F S n pc l (aI y :: aI x :: st) := fV.of fun H locs cells slots ls hB hH hS hl => lv_ishl hF.1 hF.2.1 hd  (k.to hB hH hS hl)
theorem fV_ishr {F : fX} {S : fMS} {n pc : Nat} {l : List (Option fAV)} {st : List fAV} {cc : ByteArray} {own : String} {lv : Nat} (hF : fOk F cc own lv) {x y : Int32} (hd : decode cc pc = .ok (.ishr, 1))  (k : fV F S n (pc + 1) l (aI (x >>> (y &&& 31)) :: st)) : fV F S n pc l (aI y :: aI x :: st) := fV.of fun H locs cells slots ls hB hH hS hl => lv_ishr hF.1 hF.2.1 hd  (k.to hB hH hS hl)
theorem fV_idiv {F : fX} {S : fMS} {n pc : Nat} {l : List (Option fAV)} {st : List fAV} {cc : ByteArray} {own : String} {lv : Nat} (hF : fOk F cc own lv) {x y : Int32} (hd : decode cc pc = .ok (.idiv, 1)) (hne : ¬ y = 0) (k : fV F S n (pc + 1) l (aI (x / y) :: st)) : fV F S n pc l (aI y :: aI x :: st) := fV.of fun H locs cells slots ls hB hH hS hl => lv_idiv hF.1 hF.2.1 hd hne (k.to hB hH hS hl)
theorem fV_irem {F : fX} {S : fMS} {n pc : Nat} {l : List (Option fAV)} {st : List fAV} {cc : ByteArray} {own : String} {lv : Nat} (hF : fOk F cc own lv) {x y : Int32} (hd : decode cc pc = .ok (.irem, 1)) (hne : ¬ y = 0) (k : fV F S n (pc + 1) l (aI (x - x / y * y) :: st)) : fV F S n pc l (aI y :: aI x :: st) := fV.of fun H locs cells slots ls hB hH hS hl => lv_irem hF.1 hF.2.1 hd hne (k.to hB hH hS hl)
theorem fV_ineg {F : fX} {S : fMS} {n pc : Nat} {l : List (Option fAV)} {st : List fAV} {cc : ByteArray} {own : String} {lv : Nat} (hF : fOk F cc own lv) {x : Int32} (hd : decode cc pc = .ok (.ineg, 1))  (k : fV F S n (pc + 1) l (aI (-x) :: st)) : fV F S n pc l (aI x :: st) := fV.of fun H locs cells slots ls hB hH hS hl => lv_ineg hF.1 hF.2.1 hd  (k.to hB hH hS hl)
theorem fV_ladd {F : fX} {S : fMS} {n pc : Nat} {l : List (Option fAV)} {st : List fAV} {cc : ByteArray} {own : String} {lv : Nat} (hF : fOk F cc own lv) {x y : Int64} (hd : decode cc pc = .ok (.ladd, 1))  (k : fV F S n (pc + 1) l (aJ (x + y) :: st)) : fV F S n pc l (aJ y :: aJ x :: st) := fV.of fun H locs cells slots ls hB hH hS hl => lv_ladd hF.1 hF.2.1 hd  (k.to hB hH hS hl)
theorem fV_lmul {F : fX} {S : fMS} {n pc : Nat} {l : List (Option fAV)} {st : List fAV} {cc : ByteArray} {own : String} {lv : Nat} (hF : fOk F cc own lv) {x y : Int64} (hd : decode cc pc = .ok (.lmul, 1))  (k : fV F S n (pc + 1) l (aJ (x * y) :: st)) : fV F S n pc l (aJ y :: aJ x :: st) := fV.of fun H locs cells slots ls hB hH hS hl => lv_lmul hF.1 hF.2.1 hd  (k.to hB hH hS hl)
theorem fV_ldiv {F : fX} {S : fMS} {n pc : Nat} {l : List (Option fAV)} {st : List fAV} {cc : ByteArray} {own : String} {lv : Nat} (hF : fOk F cc own lv) {x y : Int64} (hd : decode cc pc = .ok (.ldiv, 1)) (hne : ¬ y = 0) (k : fV F S n (pc + 1) l (aJ (x / y) :: st)) : fV F S n pc l (aJ y :: aJ x :: st) := fV.of fun H locs cells slots ls hB hH hS hl => lv_ldiv hF.1 hF.2.1 hd hne (k.to hB hH hS hl)
theorem fV_lcmp {F : fX} {S : fMS} {n pc : Nat} {l : List (Option fAV)} {st : List fAV} {cc : ByteArray} {own : String} {lv : Nat} (hF : fOk F cc own lv) {x y : Int64} (hd : decode cc pc = .ok (.lcmp, 1))  (k : fV F S n (pc + 1) l (aI (lg_cmp x y) :: st)) : fV F S n pc l (aJ y :: aJ x :: st) := fV.of fun H locs cells slots ls hB hH hS hl => W.lcmp hF.1 hF.2.1 hd  (k.to hB hH hS hl)
theorem fV_i2l {F : fX} {S : fMS} {n pc : Nat} {l : List (Option fAV)} {st : List fAV} {cc : ByteArray} {own : String} {lv : Nat} (hF : fOk F cc own lv) {x : Int32} (hd : decode cc pc = .ok (.i2l, 1))  (k : fV F S n (pc + 1) l (aJ x.toInt64 :: st)) : fV F S n pc l (aI x :: st) := fV.of fun H locs cells slots ls hB hH hS hl => lv_i2l hF.1 hF.2.1 hd rfl (k.to hB hH hS hl)
theorem fV_i2b {F : fX} {S : fMS} {n pc : Nat} {l : List (Option fAV)} {st : List fAV} {cc : ByteArray} {own : String} {lv : Nat} (hF : fOk F cc own lv) {x : Int32} (hd : decode cc pc = .ok (.i2b, 1))  (k : fV F S n (pc + 1) l (aI x.toInt8.toInt32 :: st)) : fV F S n pc l (aI x :: st) := fV.of fun H locs cells slots ls hB hH hS hl => lv_i2b hF.1 hF.2.1 hd rfl (k.to hB hH hS hl)
theorem fV_i2c {F : fX} {S : fMS} {n pc : Nat} {l : List (Option fAV)} {st : List fAV} {cc : ByteArray} {own : String} {lv : Nat} (hF : fOk F cc own lv) {x : Int32} (hd : decode cc pc = .ok (.i2c, 1))  (k : fV F S n (pc + 1) l (aI (x.toUInt32 % 65536).toInt32 :: st)) : fV F S n pc l (aI x :: st) := fV.of fun H locs cells slots ls hB hH hS hl => lv_i2c hF.1 hF.2.1 hd rfl (k.to hB hH hS hl)
theorem fV_i2f {F : fX} {S : fMS} {n pc : Nat} {l : List (Option fAV)} {st : List fAV} {cc : ByteArray} {own : String} {lv : Nat} (hF : fOk F cc own lv) {x : Int32} (hd : decode cc pc = .ok (.i2f, 1))  (k : fV F S n (pc + 1) l (aF (FP.i2f x) :: st)) : fV F S n pc l (aI x :: st) := fV.of fun H locs cells slots ls hB hH hS hl => lv_i2f hF.1 hF.2.1 hd  (k.to hB hH hS hl)
theorem fV_i2d {F : fX} {S : fMS} {n pc : Nat} {l : List (Option fAV)} {st : List fAV} {cc : ByteArray} {own : String} {lv : Nat} (hF : fOk F cc own lv) {x : Int32} (hd : decode cc pc = .ok (.i2d, 1))  (k : fV F S n (pc + 1) l (aD (FP.i2d x) :: st)) : fV F S n pc l (aI x :: st) := fV.of fun H locs cells slots ls hB hH hS hl => lv_i2d hF.1 hF.2.1 hd  (k.to hB hH hS hl)
theorem fV_f2d {F : fX} {S : fMS} {n pc : Nat} {l : List (Option fAV)} {st : List fAV} {cc : ByteArray} {own : String} {lv : Nat} (hF : fOk F cc own lv) {x : UInt32} (hd : decode cc pc = .ok (.f2d, 1)) (hne : vf_n64 (FP.f2d x)) (k : fV F S n (pc + 1) l (aD (FP.f2d x) :: st)) : fV F S n pc l (aF x :: st) := fV.of fun H locs cells slots ls hB hH hS hl => lv_f2d hF.1 hF.2.1 hd hne (k.to hB hH hS hl)
theorem fV_fdiv {F : fX} {S : fMS} {n pc : Nat} {l : List (Option fAV)} {st : List fAV} {cc : ByteArray} {own : String} {lv : Nat} (hF : fOk F cc own lv) {x y : UInt32} (hd : decode cc pc = .ok (.fdiv, 1)) (hne : vf_n32 (FP.fdiv x y)) (k : fV F S n (pc + 1) l (aF (FP.fdiv x y) :: st)) : fV F S n pc l (aF y :: aF x :: st) := fV.of fun H locs cells slots ls hB hH hS hl => lv_fdiv hF.1 hF.2.1 hd hne (k.to hB hH hS hl)
theorem fV_ddiv {F : fX} {S : fMS} {n pc : Nat} {l : List (Option fAV)} {st : List fAV} {cc : ByteArray} {own : String} {lv : Nat} (hF : fOk F cc own lv) {x y : UInt64} (hd : decode cc pc = .ok (.ddiv, 1)) (hne : vf_n64 (FP.ddiv x y)) (k : fV F S n (pc + 1) l (aD (FP.ddiv x y) :: st)) : fV F S n pc l (aD y :: aD x :: st) := fV.of fun H locs cells slots ls hB hH hS hl => lv_ddiv hF.1 hF.2.1 hd hne (k.to hB hH hS hl)
theorem fV_dcmp {F : fX} {S : fMS} {n pc : Nat} {l : List (Option fAV)} {st : List fAV} {cc : ByteArray} {own : String} {lv : Nat} (hF : fOk F cc own lv) {x y : UInt64} {op : CmpOp} (hd : decode cc pc = .ok (.dcmp op, 1))  (k : fV F S n (pc + 1) l (aI (Op.cmpValue (FP.dcmp x y) op) :: st)) : fV F S n pc l (aD y :: aD x :: st) := fV.of fun H locs cells slots ls hB hH hS hl => lv_dcmp hF.1 hF.2.1 hd  (k.to hB hH hS hl)
theorem fV_fcmp {F : fX} {S : fMS} {n pc : Nat} {l : List (Option fAV)} {st : List fAV} {cc : ByteArray} {own : String} {lv : Nat} (hF : fOk F cc own lv) {x y : UInt32} {op : CmpOp} (hd : decode cc pc = .ok (.fcmp op, 1))  (k : fV F S n (pc + 1) l (aI (Op.cmpValue (FP.fcmp x y) op) :: st)) : fV F S n pc l (aF y :: aF x :: st) := fV.of fun H locs cells slots ls hB hH hS hl => lv_fcmp hF.1 hF.2.1 hd  (k.to hB hH hS hl)
theorem fV_fconst0 {F : fX} {S : fMS} {n pc : Nat} {l : List (Option fAV)} {st : List fAV} {cc : ByteArray} {own : String} {lv : Nat} (hF : fOk F cc own lv)  (hd : decode cc pc = .ok (.fconst 0, 1))  (k : fV F S n (pc + 1) l (aF FP.fconst0 :: st)) : fV F S n pc l (st) := fV.of fun H locs cells slots ls hB hH hS hl => lv_fconst0 hF.1 hF.2.1 hd  (k.to hB hH hS hl)
theorem fV_dconst0 {F : fX} {S : fMS} {n pc : Nat} {l : List (Option fAV)} {st : List fAV} {cc : ByteArray} {own : String} {lv : Nat} (hF : fOk F cc own lv)  (hd : decode cc pc = .ok (.dconst 0, 1))  (k : fV F S n (pc + 1) l (aD FP.dconst0 :: st)) : fV F S n pc l (st) := fV.of fun H locs cells slots ls hB hH hS hl => lv_dconst0 hF.1 hF.2.1 hd  (k.to hB hH hS hl)
theorem fV_iconst {F : fX} {S : fMS} {n pc : Nat} {l : List (Option fAV)} {st : List fAV} {cc : ByteArray} {own : String} {lv : Nat} (hF : fOk F cc own lv) {i : Int} {v : Int32} (hd : decode cc pc = .ok (.iconst i, 1)) (hv : Int32.ofInt i = v) (k : fV F S n (pc + 1) l (aI v :: st)) : fV F S n pc l (st) := fV.of fun H locs cells slots ls hB hH hS hl => lv_iconst hF.1 hF.2.1 hd hv (k.to hB hH hS hl)
theorem fV_bipush {F : fX} {S : fMS} {n pc : Nat} {l : List (Option fAV)} {st : List fAV} {cc : ByteArray} {own : String} {lv : Nat} (hF : fOk F cc own lv) {i : Int} {v : Int32} (hd : decode cc pc = .ok (.bipush i, 2)) (hv : (Int8.ofInt i).toInt32 = v) (k : fV F S n (pc + 2) l (aI v :: st)) : fV F S n pc l (st) := fV.of fun H locs cells slots ls hB hH hS hl => lv_bipush hF.1 hF.2.1 hd hv (k.to hB hH hS hl)
theorem fV_sipush {F : fX} {S : fMS} {n pc : Nat} {l : List (Option fAV)} {st : List fAV} {cc : ByteArray} {own : String} {lv : Nat} (hF : fOk F cc own lv) {i : Int} {v : Int32} (hd : decode cc pc = .ok (.sipush i, 3)) (hv : (Int16.ofInt i).toInt32 = v) (k : fV F S n (pc + 3) l (aI v :: st)) : fV F S n pc l (st) := fV.of fun H locs cells slots ls hB hH hS hl => lv_sipush hF.1 hF.2.1 hd hv (k.to hB hH hS hl)
theorem fV_lconst {F : fX} {S : fMS} {n pc : Nat} {l : List (Option fAV)} {st : List fAV} {cc : ByteArray} {own : String} {lv : Nat} (hF : fOk F cc own lv) {i : Fin 2} {v : Int64} (hd : decode cc pc = .ok (.lconst i, 1)) (hv : Int64.ofNat (i : Nat) = v) (k : fV F S n (pc + 1) l (aJ v :: st)) : fV F S n pc l (st) := fV.of fun H locs cells slots ls hB hH hS hl => lv_lconst hF.1 hF.2.1 hd hv (k.to hB hH hS hl)
theorem fV_null {F : fX} {S : fMS} {n pc : Nat} {l : List (Option fAV)} {st : List fAV} {cc : ByteArray} {own : String} {lv : Nat} (hF : fOk F cc own lv)  (hd : decode cc pc = .ok (.aconst_null, 1))  (k : fV F S n (pc + 1) l (aR none :: st)) : fV F S n pc l (st) := fV.of fun H locs cells slots ls hB hH hS hl => lv_null hF.1 hF.2.1 hd  (k.to hB hH hS hl)
theorem fV_ldc {F : fX} {S : fMS} {n pc : Nat} {l : List (Option fAV)} {st : List fAV} {cc : ByteArray} {own : String} {lv : Nat} (hF : fOk F cc own lv) {idx : Nat} {v : Int32} (hd : decode cc pc = .ok (.ldc idx, 2)) (hw : Cond.constant own idx v ∈ fBig) (k : fV F S n (pc + 2) l (aI v :: st)) : fV F S n pc l (st) := fV.of fun H locs cells slots ls hB hH hS hl => lv_ldc hF.1 hF.2.1 hF.2.2.2.1 (hF.2.2.2.2.1 _ hw) hd  (k.to hB hH hS hl)
theorem fV_ldc2 {F : fX} {S : fMS} {n pc : Nat} {l : List (Option fAV)} {st : List fAV} {cc : ByteArray} {own : String} {lv : Nat} (hF : fOk F cc own lv) {idx : Nat} {v : Int64} (hd : decode cc pc = .ok (.ldc2_w idx, 3)) (hw : Cond.constantLong own idx v ∈ fBig) (k : fV F S n (pc + 3) l (aJ v :: st)) : fV F S n pc l (st) := fV.of fun H locs cells slots ls hB hH hS hl => lv_ldc2 hF.1 hF.2.1 hF.2.2.2.1 (hF.2.2.2.2.1 _ hw) hd  (k.to hB hH hS hl)
theorem fV_dup {F : fX} {S : fMS} {n pc : Nat} {l : List (Option fAV)} {st : List fAV} {cc : ByteArray} {own : String} {lv : Nat} (hF : fOk F cc own lv) {v : fAV} (hd : decode cc pc = .ok (.dup, 1)) (hc : fcat v = 1) (k : fV F S n (pc + 1) l (v :: v :: st)) : fV F S n pc l (v :: st) := fV.of fun H locs cells slots ls hB hH hS hl => lv_dup hF.1 hF.2.1 hd ((fcat_ok v).trans hc) (k.to hB hH hS hl)
theorem fV_pop {F : fX} {S : fMS} {n pc : Nat} {l : List (Option fAV)} {st : List fAV} {cc : ByteArray} {own : String} {lv : Nat} (hF : fOk F cc own lv) {v : fAV} (hd : decode cc pc = .ok (.pop, 1)) (hc : fcat v = 1) (k : fV F S n (pc + 1) l (st)) : fV F S n pc l (v :: st) := fV.of fun H locs cells slots ls hB hH hS hl => lv_pop hF.1 hF.2.1 hd ((fcat_ok v).trans hc) (k.to hB hH hS hl)
theorem fV_dup_x1 {F : fX} {S : fMS} {n pc : Nat} {l : List (Option fAV)} {st : List fAV} {cc : ByteArray} {own : String} {lv : Nat} (hF : fOk F cc own lv) {v w : fAV} (hd : decode cc pc = .ok (.dup_x1, 1)) (hc : fcat v = 1) (hc2 : fcat w = 1) (k : fV F S n (pc + 1) l (v :: w :: v :: st)) : fV F S n pc l (v :: w :: st) := fV.of fun H locs cells slots ls hB hH hS hl => lv_dup_x1 hF.1 hF.2.1 hd ((fcat_ok v).trans hc) ((fcat_ok w).trans hc2) (k.to hB hH hS hl)
theorem fV_dup2 {F : fX} {S : fMS} {n pc : Nat} {l : List (Option fAV)} {st : List fAV} {cc : ByteArray} {own : String} {lv : Nat} (hF : fOk F cc own lv) {v w : fAV} (hd : decode cc pc = .ok (.dup2, 1)) (hc : fcat v = 1) (hc2 : fcat w = 1) (k : fV F S n (pc + 1) l (v :: w :: v :: w :: st)) : fV F S n pc l (v :: w :: st) := fV.of fun H locs cells slots ls hB hH hS hl => lv_dup2_11 hF.1 hF.2.1 hd ((fcat_ok v).trans hc) ((fcat_ok w).trans hc2) (k.to hB hH hS hl)
theorem fV_iload {F : fX} {S : fMS} {n pc : Nat} {l : List (Option fAV)} {st : List fAV} {cc : ByteArray} {own : String} {lv : Nat} (hF : fOk F cc own lv) {i : Nat} {x : Int32} (hd : decode cc pc = .ok (.iload i, 2))  (hv : l[i]? = some (some (aI x))) (k : fV F S n (pc + 2) l (aI x :: st)) : fV F S n pc l st := fV.of fun H locs cells slots ls hB hH hS hl => lv_iload hF.1 hF.2.1 hd  (fok_at hl hv) (k.to hB hH hS hl)
theorem fV_iload_n {F : fX} {S : fMS} {n pc : Nat} {l : List (Option fAV)} {st : List fAV} {cc : ByteArray} {own : String} {lv : Nat} (hF : fOk F cc own lv) {i : Nat} {x : Int32} {j : Fin 4} (hd : decode cc pc = .ok (.iload_n j, 1)) (hj : (j : Nat) = i) (hv : l[i]? = some (some (aI x))) (k : fV F S n (pc + 1) l (aI x :: st)) : fV F S n pc l st := fV.of fun H locs cells slots ls hB hH hS hl => lv_iload_n hF.1 hF.2.1 hd hj (fok_at hl hv) (k.to hB hH hS hl)
theorem fV_lload {F : fX} {S : fMS} {n pc : Nat} {l : List (Option fAV)} {st : List fAV} {cc : ByteArray} {own : String} {lv : Nat} (hF : fOk F cc own lv) {i : Nat} {x : Int64} (hd : decode cc pc = .ok (.lload i, 2))  (hv : l[i]? = some (some (aJ x))) (k : fV F S n (pc + 2) l (aJ x :: st)) : fV F S n pc l st := fV.of fun H locs cells slots ls hB hH hS hl => lv_lload hF.1 hF.2.1 hd  (fok_at hl hv) (k.to hB hH hS hl)
theorem fV_lload_n {F : fX} {S : fMS} {n pc : Nat} {l : List (Option fAV)} {st : List fAV} {cc : ByteArray} {own : String} {lv : Nat} (hF : fOk F cc own lv) {i : Nat} {x : Int64} {j : Fin 4} (hd : decode cc pc = .ok (.lload_n j, 1)) (hj : (j : Nat) = i) (hv : l[i]? = some (some (aJ x))) (k : fV F S n (pc + 1) l (aJ x :: st)) : fV F S n pc l st := fV.of fun H locs cells slots ls hB hH hS hl => lv_lload_n hF.1 hF.2.1 hd hj (fok_at hl hv) (k.to hB hH hS hl)
theorem fV_fload {F : fX} {S : fMS} {n pc : Nat} {l : List (Option fAV)} {st : List fAV} {cc : ByteArray} {own : String} {lv : Nat} (hF : fOk F cc own lv) {i : Nat} {x : UInt32} (hd : decode cc pc = .ok (.fload i, 2))  (hv : l[i]? = some (some (aF x))) (k : fV F S n (pc + 2) l (aF x :: st)) : fV F S n pc l st := fV.of fun H locs cells slots ls hB hH hS hl => lv_fload hF.1 hF.2.1 hd  (fok_at hl hv) (k.to hB hH hS hl)
theorem fV_fload_n {F : fX} {S : fMS} {n pc : Nat} {l : List (Option fAV)} {st : List fAV} {cc : ByteArray} {own : String} {lv : Nat} (hF : fOk F cc own lv) {i : Nat} {x : UInt32} {j : Fin 4} (hd : decode cc pc = .ok (.fload_n j, 1)) (hj : (j : Nat) = i) (hv : l[i]? = some (some (aF x))) (k : fV F S n (pc + 1) l (aF x :: st)) : fV F S n pc l st := fV.of fun H locs cells slots ls hB hH hS hl => lv_fload_n hF.1 hF.2.1 hd hj (fok_at hl hv) (k.to hB hH hS hl)
theorem fV_dload {F : fX} {S : fMS} {n pc : Nat} {l : List (Option fAV)} {st : List fAV} {cc : ByteArray} {own : String} {lv : Nat} (hF : fOk F cc own lv) {i : Nat} {x : UInt64} (hd : decode cc pc = .ok (.dload i, 2))  (hv : l[i]? = some (some (aD x))) (k : fV F S n (pc + 2) l (aD x :: st)) : fV F S n pc l st := fV.of fun H locs cells slots ls hB hH hS hl => lv_dload hF.1 hF.2.1 hd  (fok_at hl hv) (k.to hB hH hS hl)
theorem fV_dload_n {F : fX} {S : fMS} {n pc : Nat} {l : List (Option fAV)} {st : List fAV} {cc : ByteArray} {own : String} {lv : Nat} (hF : fOk F cc own lv) {i : Nat} {x : UInt64} {j : Fin 4} (hd : decode cc pc = .ok (.dload_n j, 1)) (hj : (j : Nat) = i) (hv : l[i]? = some (some (aD x))) (k : fV F S n (pc + 1) l (aD x :: st)) : fV F S n pc l st := fV.of fun H locs cells slots ls hB hH hS hl => lv_dload_n hF.1 hF.2.1 hd hj (fok_at hl hv) (k.to hB hH hS hl)
theorem fV_aload {F : fX} {S : fMS} {n pc : Nat} {l : List (Option fAV)} {st : List fAV} {cc : ByteArray} {own : String} {lv : Nat} (hF : fOk F cc own lv) {i : Nat} {r : Option Nat} (hd : decode cc pc = .ok (.aload i, 2)) (hv : l[i]? = some (some (aR r))) (k : fV F S n (pc + 2) l (aR r :: st)) : fV F S n pc l st := fV.of fun H locs cells slots ls hB hH hS hl => by
  cases r with
  | none => exact lv_aloadN hF.1 hF.2.1 hd (fok_at hl hv) (k.to hB hH hS hl)
  | some x => exact lv_aload hF.1 hF.2.1 hd (fok_at hl hv) (k.to hB hH hS hl)
theorem fV_aload_n {F : fX} {S : fMS} {n pc : Nat} {l : List (Option fAV)} {st : List fAV} {cc : ByteArray} {own : String} {lv : Nat} (hF : fOk F cc own lv) {i : Nat} {r : Option Nat} {j : Fin 4} (hd : decode cc pc = .ok (.aload_n j, 1)) (hj : (j : Nat) = i) (hv : l[i]? = some (some (aR r))) (k : fV F S n (pc + 1) l (aR r :: st)) : fV F S n pc l st := fV.of fun H locs cells slots ls hB hH hS hl => by
  cases r with
  | none => exact lv_aload_nN hF.1 hF.2.1 hd hj (fok_at hl hv) (k.to hB hH hS hl)
  | some x => exact lv_aload_n hF.1 hF.2.1 hd hj (fok_at hl hv) (k.to hB hH hS hl)
theorem fV_istore {F : fX} {S : fMS} {n pc : Nat} {l : List (Option fAV)} {st : List fAV} {cc : ByteArray} {own : String} {lv : Nat} (hF : fOk F cc own lv) {i : Nat} {x : Int32}  (l' : Int32 → List (Option fAV)) (hd : decode cc pc = .ok (.istore i, 2))  (hi : i < xn F) (hw : fnw l i = true) (hl' : ∀ y, (l.set i (some (aI y))) = l' y) (k : ∀ y : Int32, y = x → fV F S n (pc + 2) (l' y) st) : fV F S n pc l (aI x :: st) := fV.of fun H locs cells slots ls hB hH hS hl => lv_istore hF.1 hF.2.1 hd  hl hi rfl (fun ls' h' => (k x rfl).to hB hH hS (hl' x ▸ fok_put1 hw h'))
theorem fV_istore_n {F : fX} {S : fMS} {n pc : Nat} {l : List (Option fAV)} {st : List fAV} {cc : ByteArray} {own : String} {lv : Nat} (hF : fOk F cc own lv) {i : Nat} {x : Int32} {j : Fin 4} (l' : Int32 → List (Option fAV)) (hd : decode cc pc = .ok (.istore_n j, 1)) (hj : (j : Nat) = i) (hi : i < xn F) (hw : fnw l i = true) (hl' : ∀ y, (l.set i (some (aI y))) = l' y) (k : ∀ y : Int32, y = x → fV F S n (pc + 1) (l' y) st) : fV F S n pc l (aI x :: st) := fV.of fun H locs cells slots ls hB hH hS hl => lv_istore_n hF.1 hF.2.1 hd hj hl hi rfl (fun ls' h' => (k x rfl).to hB hH hS (hl' x ▸ fok_put1 hw h'))
theorem fV_fstore {F : fX} {S : fMS} {n pc : Nat} {l : List (Option fAV)} {st : List fAV} {cc : ByteArray} {own : String} {lv : Nat} (hF : fOk F cc own lv) {i : Nat} {x : UInt32}  (l' : UInt32 → List (Option fAV)) (hd : decode cc pc = .ok (.fstore i, 2))  (hi : i < xn F) (hw : fnw l i = true) (hl' : ∀ y, (l.set i (some (aF y))) = l' y) (k : ∀ y : UInt32, y = x → fV F S n (pc + 2) (l' y) st) : fV F S n pc l (aF x :: st) := fV.of fun H locs cells slots ls hB hH hS hl => lv_fstore hF.1 hF.2.1 hd  hl hi rfl (fun ls' h' => (k x rfl).to hB hH hS (hl' x ▸ fok_put1 hw h'))
theorem fV_fstore_n {F : fX} {S : fMS} {n pc : Nat} {l : List (Option fAV)} {st : List fAV} {cc : ByteArray} {own : String} {lv : Nat} (hF : fOk F cc own lv) {i : Nat} {x : UInt32} {j : Fin 4} (l' : UInt32 → List (Option fAV)) (hd : decode cc pc = .ok (.fstore_n j, 1)) (hj : (j : Nat) = i) (hi : i < xn F) (hw : fnw l i = true) (hl' : ∀ y, (l.set i (some (aF y))) = l' y) (k : ∀ y : UInt32, y = x → fV F S n (pc + 1) (l' y) st) : fV F S n pc l (aF x :: st) := fV.of fun H locs cells slots ls hB hH hS hl => lv_fstore_n hF.1 hF.2.1 hd hj hl hi rfl (fun ls' h' => (k x rfl).to hB hH hS (hl' x ▸ fok_put1 hw h'))
theorem fV_lstore {F : fX} {S : fMS} {n pc : Nat} {l : List (Option fAV)} {st : List fAV} {cc : ByteArray} {own : String} {lv : Nat} (hF : fOk F cc own lv) {i : Nat} {x : Int64}  (l' : Int64 → List (Option fAV)) (hd : decode cc pc = .ok (.lstore i, 2))  (hi : i + 1 < xn F) (hw : fnw l i = true) (hl' : ∀ y, ((l.set i (some (aJ y))).set (i + 1) none) = l' y) (k : ∀ y : Int64, y = x → fV F S n (pc + 2) (l' y) st) : fV F S n pc l (aJ x :: st) := fV.of fun H locs cells slots ls hB hH hS hl => lv_lstore hF.1 hF.2.1 hd  hl hi rfl (fun ls' h' => (k x rfl).to hB hH hS (hl' x ▸ fok_put2 hw h'))
theorem fV_lstore_n {F : fX} {S : fMS} {n pc : Nat} {l : List (Option fAV)} {st : List fAV} {cc : ByteArray} {own : String} {lv : Nat} (hF : fOk F cc own lv) {i : Nat} {x : Int64} {j : Fin 4} (l' : Int64 → List (Option fAV)) (hd : decode cc pc = .ok (.lstore_n j, 1)) (hj : (j : Nat) = i) (hi : i + 1 < xn F) (hw : fnw l i = true) (hl' : ∀ y, ((l.set i (some (aJ y))).set (i + 1) none) = l' y) (k : ∀ y : Int64, y = x → fV F S n (pc + 1) (l' y) st) : fV F S n pc l (aJ x :: st) := fV.of fun H locs cells slots ls hB hH hS hl => lv_lstore_n hF.1 hF.2.1 hd hj hl hi rfl (fun ls' h' => (k x rfl).to hB hH hS (hl' x ▸ fok_put2 hw h'))
theorem fV_dstore {F : fX} {S : fMS} {n pc : Nat} {l : List (Option fAV)} {st : List fAV} {cc : ByteArray} {own : String} {lv : Nat} (hF : fOk F cc own lv) {i : Nat} {x : UInt64}  (l' : UInt64 → List (Option fAV)) (hd : decode cc pc = .ok (.dstore i, 2))  (hi : i + 1 < xn F) (hw : fnw l i = true) (hl' : ∀ y, ((l.set i (some (aD y))).set (i + 1) none) = l' y) (k : ∀ y : UInt64, y = x → fV F S n (pc + 2) (l' y) st) : fV F S n pc l (aD x :: st) := fV.of fun H locs cells slots ls hB hH hS hl => lv_dstore hF.1 hF.2.1 hd  hl hi rfl (fun ls' h' => (k x rfl).to hB hH hS (hl' x ▸ fok_put2 hw h'))
theorem fV_dstore_n {F : fX} {S : fMS} {n pc : Nat} {l : List (Option fAV)} {st : List fAV} {cc : ByteArray} {own : String} {lv : Nat} (hF : fOk F cc own lv) {i : Nat} {x : UInt64} {j : Fin 4} (l' : UInt64 → List (Option fAV)) (hd : decode cc pc = .ok (.dstore_n j, 1)) (hj : (j : Nat) = i) (hi : i + 1 < xn F) (hw : fnw l i = true) (hl' : ∀ y, ((l.set i (some (aD y))).set (i + 1) none) = l' y) (k : ∀ y : UInt64, y = x → fV F S n (pc + 1) (l' y) st) : fV F S n pc l (aD x :: st) := fV.of fun H locs cells slots ls hB hH hS hl => lv_dstore_n hF.1 hF.2.1 hd hj hl hi rfl (fun ls' h' => (k x rfl).to hB hH hS (hl' x ▸ fok_put2 hw h'))
theorem fV_astore {F : fX} {S : fMS} {n pc : Nat} {l : List (Option fAV)} {st : List fAV} {cc : ByteArray} {own : String} {lv : Nat} (hF : fOk F cc own lv) {i : Nat} {r : Option Nat}  (l' : Option Nat → List (Option fAV)) (hd : decode cc pc = .ok (.astore i, 2))  (hi : i < xn F) (hw : fnw l i = true) (hl' : ∀ y, (l.set i (some (aR y))) = l' y) (k : ∀ y : Option Nat, y = r → fV F S n (pc + 2) (l' y) st) : fV F S n pc l (aR r :: st) := fV.of fun H locs cells slots ls hB hH hS hl => by
  cases r with
  | none => exact lv_astoreN hF.1 hF.2.1 hd  hl hi rfl (fun ls' h' => (k none rfl).to hB hH hS (hl' none ▸ fok_put1 (v := aR none) hw h'))
  | some x => exact lv_astore hF.1 hF.2.1 hd  hl hi rfl (fun ls' h' => (k (some x) rfl).to hB hH hS (hl' (some x) ▸ fok_put1 (v := aR (some x)) hw h'))
theorem fV_astore_n {F : fX} {S : fMS} {n pc : Nat} {l : List (Option fAV)} {st : List fAV} {cc : ByteArray} {own : String} {lv : Nat} (hF : fOk F cc own lv) {i : Nat} {r : Option Nat} {j : Fin 4} (l' : Option Nat → List (Option fAV)) (hd : decode cc pc = .ok (.astore_n j, 1)) (hj : (j : Nat) = i) (hi : i < xn F) (hw : fnw l i = true) (hl' : ∀ y, (l.set i (some (aR y))) = l' y) (k : ∀ y : Option Nat, y = r → fV F S n (pc + 1) (l' y) st) : fV F S n pc l (aR r :: st) := fV.of fun H locs cells slots ls hB hH hS hl => by
  cases r with
  | none => exact lv_astore_nN hF.1 hF.2.1 hd hj hl hi rfl (fun ls' h' => (k none rfl).to hB hH hS (hl' none ▸ fok_put1 (v := aR none) hw h'))
  | some x => exact lv_astore_n hF.1 hF.2.1 hd hj hl hi rfl (fun ls' h' => (k (some x) rfl).to hB hH hS (hl' (some x) ▸ fok_put1 (v := aR (some x)) hw h'))
theorem fV_istore0 {F : fX} {S : fMS} {n pc : Nat} {l : List (Option fAV)} {st : List fAV} {cc : ByteArray} {own : String} {lv : Nat} (hF : fOk F cc own lv) {i : Nat} {x : Int32}  (l' : List (Option fAV)) (hd : decode cc pc = .ok (.istore i, 2))  (hi : i < xn F) (hw : fnw l i = true) (hl' : (l.set i (some (aI x))) = l') (k : fV F S n (pc + 2) l' st) : fV F S n pc l (aI x :: st) := by
  subst hl'
  exact fV_istore hF (fun y => (l.set i (some (aI y)))) hd  hi hw (fun _ => rfl) (fun y e => by subst e; exact k)
theorem fV_istore_n0 {F : fX} {S : fMS} {n pc : Nat} {l : List (Option fAV)} {st : List fAV} {cc : ByteArray} {own : String} {lv : Nat} (hF : fOk F cc own lv) {i : Nat} {x : Int32} {j : Fin 4} (l' : List (Option fAV)) (hd : decode cc pc = .ok (.istore_n j, 1)) (hj : (j : Nat) = i) (hi : i < xn F) (hw : fnw l i = true) (hl' : (l.set i (some (aI x))) = l') (k : fV F S n (pc + 1) l' st) : fV F S n pc l (aI x :: st) := by
  subst hl'
  exact fV_istore_n hF (fun y => (l.set i (some (aI y)))) hd hj hi hw (fun _ => rfl) (fun y e => by subst e; exact k)
theorem fV_fstore0 {F : fX} {S : fMS} {n pc : Nat} {l : List (Option fAV)} {st : List fAV} {cc : ByteArray} {own : String} {lv : Nat} (hF : fOk F cc own lv) {i : Nat} {x : UInt32}  (l' : List (Option fAV)) (hd : decode cc pc = .ok (.fstore i, 2))  (hi : i < xn F) (hw : fnw l i = true) (hl' : (l.set i (some (aF x))) = l') (k : fV F S n (pc + 2) l' st) : fV F S n pc l (aF x :: st) := by
  subst hl'
  exact fV_fstore hF (fun y => (l.set i (some (aF y)))) hd  hi hw (fun _ => rfl) (fun y e => by subst e; exact k)
theorem fV_fstore_n0 {F : fX} {S : fMS} {n pc : Nat} {l : List (Option fAV)} {st : List fAV} {cc : ByteArray} {own : String} {lv : Nat} (hF : fOk F cc own lv) {i : Nat} {x : UInt32} {j : Fin 4} (l' : List (Option fAV)) (hd : decode cc pc = .ok (.fstore_n j, 1)) (hj : (j : Nat) = i) (hi : i < xn F) (hw : fnw l i = true) (hl' : (l.set i (some (aF x))) = l') (k : fV F S n (pc + 1) l' st) : fV F S n pc l (aF x :: st) := by
  subst hl'
  exact fV_fstore_n hF (fun y => (l.set i (some (aF y)))) hd hj hi hw (fun _ => rfl) (fun y e => by subst e; exact k)
theorem fV_lstore0 {F : fX} {S : fMS} {n pc : Nat} {l : List (Option fAV)} {st : List fAV} {cc : ByteArray} {own : String} {lv : Nat} (hF : fOk F cc own lv) {i : Nat} {x : Int64}  (l' : List (Option fAV)) (hd : decode cc pc = .ok (.lstore i, 2))  (hi : i + 1 < xn F) (hw : fnw l i = true) (hl' : ((l.set i (some (aJ x))).set (i + 1) none) = l') (k : fV F S n (pc + 2) l' st) : fV F S n pc l (aJ x :: st) := by
  subst hl'
  exact fV_lstore hF (fun y => ((l.set i (some (aJ y))).set (i + 1) none)) hd  hi hw (fun _ => rfl) (fun y e => by subst e; exact k)
theorem fV_lstore_n0 {F : fX} {S : fMS} {n pc : Nat} {l : List (Option fAV)} {st : List fAV} {cc : ByteArray} {own : String} {lv : Nat} (hF : fOk F cc own lv) {i : Nat} {x : Int64} {j : Fin 4} (l' : List (Option fAV)) (hd : decode cc pc = .ok (.lstore_n j, 1)) (hj : (j : Nat) = i) (hi : i + 1 < xn F) (hw : fnw l i = true) (hl' : ((l.set i (some (aJ x))).set (i + 1) none) = l') (k : fV F S n (pc + 1) l' st) : fV F S n pc l (aJ x :: st) := by
  subst hl'
  exact fV_lstore_n hF (fun y => ((l.set i (some (aJ y))).set (i + 1) none)) hd hj hi hw (fun _ => rfl) (fun y e => by subst e; exact k)
theorem fV_dstore0 {F : fX} {S : fMS} {n pc : Nat} {l : List (Option fAV)} {st : List fAV} {cc : ByteArray} {own : String} {lv : Nat} (hF : fOk F cc own lv) {i : Nat} {x : UInt64}  (l' : List (Option fAV)) (hd : decode cc pc = .ok (.dstore i, 2))  (hi : i + 1 < xn F) (hw : fnw l i = true) (hl' : ((l.set i (some (aD x))).set (i + 1) none) = l') (k : fV F S n (pc + 2) l' st) : fV F S n pc l (aD x :: st) := by
  subst hl'
  exact fV_dstore hF (fun y => ((l.set i (some (aD y))).set (i + 1) none)) hd  hi hw (fun _ => rfl) (fun y e => by subst e; exact k)
theorem fV_dstore_n0 {F : fX} {S : fMS} {n pc : Nat} {l : List (Option fAV)} {st : List fAV} {cc : ByteArray} {own : String} {lv : Nat} (hF : fOk F cc own lv) {i : Nat} {x : UInt64} {j : Fin 4} (l' : List (Option fAV)) (hd : decode cc pc = .ok (.dstore_n j, 1)) (hj : (j : Nat) = i) (hi : i + 1 < xn F) (hw : fnw l i = true) (hl' : ((l.set i (some (aD x))).set (i + 1) none) = l') (k : fV F S n (pc + 1) l' st) : fV F S n pc l (aD x :: st) := by
  subst hl'
  exact fV_dstore_n hF (fun y => ((l.set i (some (aD y))).set (i + 1) none)) hd hj hi hw (fun _ => rfl) (fun y e => by subst e; exact k)
theorem fV_astore0 {F : fX} {S : fMS} {n pc : Nat} {l : List (Option fAV)} {st : List fAV} {cc : ByteArray} {own : String} {lv : Nat} (hF : fOk F cc own lv) {i : Nat} {x : Option Nat}  (l' : List (Option fAV)) (hd : decode cc pc = .ok (.astore i, 2))  (hi : i < xn F) (hw : fnw l i = true) (hl' : (l.set i (some (aR x))) = l') (k : fV F S n (pc + 2) l' st) : fV F S n pc l (aR x :: st) := by
  subst hl'
  exact fV_astore hF (fun y => (l.set i (some (aR y)))) hd  hi hw (fun _ => rfl) (fun y e => by subst e; exact k)
theorem fV_astore_n0 {F : fX} {S : fMS} {n pc : Nat} {l : List (Option fAV)} {st : List fAV} {cc : ByteArray} {own : String} {lv : Nat} (hF : fOk F cc own lv) {i : Nat} {x : Option Nat} {j : Fin 4} (l' : List (Option fAV)) (hd : decode cc pc = .ok (.astore_n j, 1)) (hj : (j : Nat) = i) (hi : i < xn F) (hw : fnw l i = true) (hl' : (l.set i (some (aR x))) = l') (k : fV F S n (pc + 1) l' st) : fV F S n pc l (aR x :: st) := by
  subst hl'
  exact fV_astore_n hF (fun y => (l.set i (some (aR y)))) hd hj hi hw (fun _ => rfl) (fun y e => by subst e; exact k)
theorem fV_iinc {F : fX} {S : fMS} {n pc : Nat} {l : List (Option fAV)} {st : List fAV} {cc : ByteArray} {own : String} {lv : Nat} (hF : fOk F cc own lv) {i : Nat} {m : Int} {x v : Int32} (l' : Int32 → List (Option fAV)) (hd : decode cc pc = .ok (.iinc i m, 3)) (hx : l[i]? = some (some (aI x))) (hv : Int32.ofInt m = v) (hi : i < xn F) (hw : fnw l i = true) (hl' : ∀ y, (l.set i (some (aI y))) = l' y) (k : ∀ y : Int32, y = x + v → fV F S n (pc + 3) (l' y) st) : fV F S n pc l st := fV.of fun H locs cells slots ls hB hH hS hl => by
  subst hv
  obtain ⟨kx, hkx⟩ := List.getElem?_of_mem ((fls_mem l 0 (i, fv (aI x))).mpr ⟨i, aI x, hx, by simp⟩)
  exact lv_iinc hF.1 hF.2.1 hd hl hkx rfl hi rfl (fun ls' h' => (k _ rfl).to hB hH hS (hl' _ ▸ fok_put1 (v := aI _) hw h'))
theorem fV_icmp_eq {F : fX} {S : fMS} {n pc : Nat} {l : List (Option fAV)} {st : List fAV} {cc : ByteArray} {own : String} {lv : Nat} (hF : fOk F cc own lv) {x y : Int32} {off : Int} {tgt : Nat} (hd : decode cc pc = .ok (.if_icmp .eq off, 3)) (ht : (pc : Int) + off = (tgt : Int)) (kt : x = y → fV F S n tgt l st) (kf : ¬ x = y → fV F S n (pc + 3) l st) : fV F S n pc l (aI y :: aI x :: st) := fV.of fun H locs cells slots ls hB hH hS hl => lv_icmp_eq hF.1 hF.2.1 hd ht (fun c => (kt c).to hB hH hS hl) (fun c => (kf c).to hB hH hS hl)
theorem fV_icmp_ne {F : fX} {S : fMS} {n pc : Nat} {l : List (Option fAV)} {st : List fAV} {cc : ByteArray} {own : String} {lv : Nat} (hF : fOk F cc own lv) {x y : Int32} {off : Int} {tgt : Nat} (hd : decode cc pc = .ok (.if_icmp .ne off, 3)) (ht : (pc : Int) + off = (tgt : Int)) (kt : ¬ x = y → fV F S n tgt l st) (kf : x = y → fV F S n (pc + 3) l st) : fV F S n pc l (aI y :: aI x :: st) := fV.of fun H locs cells slots ls hB hH hS hl => lv_icmp_ne hF.1 hF.2.1 hd ht (fun c => (kt c).to hB hH hS hl) (fun c => (kf c).to hB hH hS hl)
theorem fV_icmp_lt {F : fX} {S : fMS} {n pc : Nat} {l : List (Option fAV)} {st : List fAV} {cc : ByteArray} {own : String} {lv : Nat} (hF : fOk F cc own lv) {x y : Int32} {off : Int} {tgt : Nat} (hd : decode cc pc = .ok (.if_icmp .lt off, 3)) (ht : (pc : Int) + off = (tgt : Int)) (kt : x < y → fV F S n tgt l st) (kf : ¬ x < y → fV F S n (pc + 3) l st) : fV F S n pc l (aI y :: aI x :: st) := fV.of fun H locs cells slots ls hB hH hS hl => lv_icmp_lt hF.1 hF.2.1 hd ht (fun c => (kt c).to hB hH hS hl) (fun c => (kf c).to hB hH hS hl)
theorem fV_icmp_ge {F : fX} {S : fMS} {n pc : Nat} {l : List (Option fAV)} {st : List fAV} {cc : ByteArray} {own : String} {lv : Nat} (hF : fOk F cc own lv) {x y : Int32} {off : Int} {tgt : Nat} (hd : decode cc pc = .ok (.if_icmp .ge off, 3)) (ht : (pc : Int) + off = (tgt : Int)) (kt : y ≤ x → fV F S n tgt l st) (kf : ¬ y ≤ x → fV F S n (pc + 3) l st) : fV F S n pc l (aI y :: aI x :: st) := fV.of fun H locs cells slots ls hB hH hS hl => lv_icmp_ge hF.1 hF.2.1 hd ht (fun c => (kt c).to hB hH hS hl) (fun c => (kf c).to hB hH hS hl)
theorem fV_icmp_gt {F : fX} {S : fMS} {n pc : Nat} {l : List (Option fAV)} {st : List fAV} {cc : ByteArray} {own : String} {lv : Nat} (hF : fOk F cc own lv) {x y : Int32} {off : Int} {tgt : Nat} (hd : decode cc pc = .ok (.if_icmp .gt off, 3)) (ht : (pc : Int) + off = (tgt : Int)) (kt : y < x → fV F S n tgt l st) (kf : ¬ y < x → fV F S n (pc + 3) l st) : fV F S n pc l (aI y :: aI x :: st) := fV.of fun H locs cells slots ls hB hH hS hl => lv_icmp_gt hF.1 hF.2.1 hd ht (fun c => (kt c).to hB hH hS hl) (fun c => (kf c).to hB hH hS hl)
theorem fV_icmp_le {F : fX} {S : fMS} {n pc : Nat} {l : List (Option fAV)} {st : List fAV} {cc : ByteArray} {own : String} {lv : Nat} (hF : fOk F cc own lv) {x y : Int32} {off : Int} {tgt : Nat} (hd : decode cc pc = .ok (.if_icmp .le off, 3)) (ht : (pc : Int) + off = (tgt : Int)) (kt : x ≤ y → fV F S n tgt l st) (kf : ¬ x ≤ y → fV F S n (pc + 3) l st) : fV F S n pc l (aI y :: aI x :: st) := fV.of fun H locs cells slots ls hB hH hS hl => lv_icmp_le hF.1 hF.2.1 hd ht (fun c => (kt c).to hB hH hS hl) (fun c => (kf c).to hB hH hS hl)
theorem fV_if_eq {F : fX} {S : fMS} {n pc : Nat} {l : List (Option fAV)} {st : List fAV} {cc : ByteArray} {own : String} {lv : Nat} (hF : fOk F cc own lv) {x : Int32} {off : Int} {tgt : Nat} (hd : decode cc pc = .ok (.ifCond .eq off, 3)) (ht : (pc : Int) + off = (tgt : Int)) (kt : x = 0 → fV F S n tgt l st) (kf : ¬ x = 0 → fV F S n (pc + 3) l st) : fV F S n pc l (aI x :: st) := fV.of fun H locs cells slots ls hB hH hS hl => lv_if_eq hF.1 hF.2.1 hd ht (fun c => (kt c).to hB hH hS hl) (fun c => (kf c).to hB hH hS hl)
theorem fV_if_ne {F : fX} {S : fMS} {n pc : Nat} {l : List (Option fAV)} {st : List fAV} {cc : ByteArray} {own : String} {lv : Nat} (hF : fOk F cc own lv) {x : Int32} {off : Int} {tgt : Nat} (hd : decode cc pc = .ok (.ifCond .ne off, 3)) (ht : (pc : Int) + off = (tgt : Int)) (kt : ¬ x = 0 → fV F S n tgt l st) (kf : x = 0 → fV F S n (pc + 3) l st) : fV F S n pc l (aI x :: st) := fV.of fun H locs cells slots ls hB hH hS hl => lv_if_ne hF.1 hF.2.1 hd ht (fun c => (kt c).to hB hH hS hl) (fun c => (kf c).to hB hH hS hl)
theorem fV_if_lt {F : fX} {S : fMS} {n pc : Nat} {l : List (Option fAV)} {st : List fAV} {cc : ByteArray} {own : String} {lv : Nat} (hF : fOk F cc own lv) {x : Int32} {off : Int} {tgt : Nat} (hd : decode cc pc = .ok (.ifCond .lt off, 3)) (ht : (pc : Int) + off = (tgt : Int)) (kt : x < 0 → fV F S n tgt l st) (kf : ¬ x < 0 → fV F S n (pc + 3) l st) : fV F S n pc l (aI x :: st) := fV.of fun H locs cells slots ls hB hH hS hl => lv_if_lt hF.1 hF.2.1 hd ht (fun c => (kt c).to hB hH hS hl) (fun c => (kf c).to hB hH hS hl)
theorem fV_if_ge {F : fX} {S : fMS} {n pc : Nat} {l : List (Option fAV)} {st : List fAV} {cc : ByteArray} {own : String} {lv : Nat} (hF : fOk F cc own lv) {x : Int32} {off : Int} {tgt : Nat} (hd : decode cc pc = .ok (.ifCond .ge off, 3)) (ht : (pc : Int) + off = (tgt : Int)) (kt : 0 ≤ x → fV F S n tgt l st) (kf : ¬ 0 ≤ x → fV F S n (pc + 3) l st) : fV F S n pc l (aI x :: st) := fV.of fun H locs cells slots ls hB hH hS hl => lv_if_ge hF.1 hF.2.1 hd ht (fun c => (kt c).to hB hH hS hl) (fun c => (kf c).to hB hH hS hl)
theorem fV_if_gt {F : fX} {S : fMS} {n pc : Nat} {l : List (Option fAV)} {st : List fAV} {cc : ByteArray} {own : String} {lv : Nat} (hF : fOk F cc own lv) {x : Int32} {off : Int} {tgt : Nat} (hd : decode cc pc = .ok (.ifCond .gt off, 3)) (ht : (pc : Int) + off = (tgt : Int)) (kt : 0 < x → fV F S n tgt l st) (kf : ¬ 0 < x → fV F S n (pc + 3) l st) : fV F S n pc l (aI x :: st) := fV.of fun H locs cells slots ls hB hH hS hl => lv_if_gt hF.1 hF.2.1 hd ht (fun c => (kt c).to hB hH hS hl) (fun c => (kf c).to hB hH hS hl)
theorem fV_if_le {F : fX} {S : fMS} {n pc : Nat} {l : List (Option fAV)} {st : List fAV} {cc : ByteArray} {own : String} {lv : Nat} (hF : fOk F cc own lv) {x : Int32} {off : Int} {tgt : Nat} (hd : decode cc pc = .ok (.ifCond .le off, 3)) (ht : (pc : Int) + off = (tgt : Int)) (kt : x ≤ 0 → fV F S n tgt l st) (kf : ¬ x ≤ 0 → fV F S n (pc + 3) l st) : fV F S n pc l (aI x :: st) := fV.of fun H locs cells slots ls hB hH hS hl => lv_if_le hF.1 hF.2.1 hd ht (fun c => (kt c).to hB hH hS hl) (fun c => (kf c).to hB hH hS hl)
theorem fV_acmp_eq {F : fX} {S : fMS} {n pc : Nat} {l : List (Option fAV)} {st : List fAV} {cc : ByteArray} {own : String} {lv : Nat} (hF : fOk F cc own lv) {x y : Option Nat} {off : Int} {tgt : Nat} (hd : decode cc pc = .ok (.if_acmp .eq off, 3)) (ht : (pc : Int) + off = (tgt : Int)) (kt : x = y → fV F S n tgt l st) (kf : ¬ x = y → fV F S n (pc + 3) l st) : fV F S n pc l (aR y :: aR x :: st) := fV.of fun H locs cells slots ls hB hH hS hl => lv_acmp_eq hF.1 hF.2.1 hd ht (fun c => (kt c).to hB hH hS hl) (fun c => (kf c).to hB hH hS hl)
theorem fV_acmp_ne {F : fX} {S : fMS} {n pc : Nat} {l : List (Option fAV)} {st : List fAV} {cc : ByteArray} {own : String} {lv : Nat} (hF : fOk F cc own lv) {x y : Option Nat} {off : Int} {tgt : Nat} (hd : decode cc pc = .ok (.if_acmp .ne off, 3)) (ht : (pc : Int) + off = (tgt : Int)) (kt : ¬ x = y → fV F S n tgt l st) (kf : x = y → fV F S n (pc + 3) l st) : fV F S n pc l (aR y :: aR x :: st) := fV.of fun H locs cells slots ls hB hH hS hl => lv_acmp_ne hF.1 hF.2.1 hd ht (fun c => (kt c).to hB hH hS hl) (fun c => (kf c).to hB hH hS hl)
theorem fV_ifnull {F : fX} {S : fMS} {n pc : Nat} {l : List (Option fAV)} {st : List fAV} {cc : ByteArray} {own : String} {lv : Nat} (hF : fOk F cc own lv) {r : Option Nat} {off : Int} {tgt : Nat} (hd : decode cc pc = .ok (.ifnull off, 3)) (ht : (pc : Int) + off = (tgt : Int)) (kt : r = none → fV F S n tgt l st) (kf : ¬ r = none → fV F S n (pc + 3) l st) : fV F S n pc l (aR r :: st) := fV.of fun H locs cells slots ls hB hH hS hl => by
  cases r with
  | none => exact lv_ifnullN hF.1 hF.2.1 hd ht ((kt rfl).to hB hH hS hl)
  | some x => exact lv_ifnull hF.1 hF.2.1 hd ((kf (fun e => by cases e)).to hB hH hS hl)
theorem fV_ifnonnull {F : fX} {S : fMS} {n pc : Nat} {l : List (Option fAV)} {st : List fAV} {cc : ByteArray} {own : String} {lv : Nat} (hF : fOk F cc own lv) {r : Option Nat} {off : Int} {tgt : Nat} (hd : decode cc pc = .ok (.ifnonnull off, 3)) (ht : (pc : Int) + off = (tgt : Int)) (kt : ¬ r = none → fV F S n tgt l st) (kf : r = none → fV F S n (pc + 3) l st) : fV F S n pc l (aR r :: st) := fV.of fun H locs cells slots ls hB hH hS hl => by
  cases r with
  | none => exact lv_ifnonnullN hF.1 hF.2.1 hd ((kf rfl).to hB hH hS hl)
  | some x => exact lv_ifnonnull hF.1 hF.2.1 hd ht ((kt (fun e => by cases e)).to hB hH hS hl)
theorem fV_goto {F : fX} {S : fMS} {n pc : Nat} {l : List (Option fAV)} {st : List fAV} {cc : ByteArray} {own : String} {lv : Nat} (hF : fOk F cc own lv) {off : Int} {tgt : Nat} (hd : decode cc pc = .ok (.goto off, 3)) (ht : (pc : Int) + off = (tgt : Int)) (k : fV F S n tgt l st) : fV F S n pc l st := fV.of fun H locs cells slots ls hB hH hS hl => lv_goto hF.1 hF.2.1 hd ht (k.to hB hH hS hl)
theorem fV_tableIn {F : fX} {S : fMS} {n pc : Nat} {l : List (Option fAV)} {st : List fAV} {cc : ByteArray} {own : String} {lv : Nat} (hF : fOk F cc own lv) {dflt lo hi : Int} {offs : Array Int} {len : Nat} {x : Int32} {off : Int} {tgt : Nat} (hd : decode cc pc = .ok (.tableswitch dflt lo hi offs, len)) (h1 : ¬ x.toInt < lo) (h2 : ¬ hi < x.toInt) (ho : offs[(x.toInt - lo).toNat]? = some off) (ht : (pc : Int) + off = (tgt : Int)) (k : fV F S n tgt l st) : fV F S n pc l (aI x :: st) := fV.of fun H locs cells slots ls hB hH hS hl => lv_tableIn hF.1 hF.2.1 hd h1 h2 ho ht (k.to hB hH hS hl)
theorem fV_tableOut {F : fX} {S : fMS} {n pc : Nat} {l : List (Option fAV)} {st : List fAV} {cc : ByteArray} {own : String} {lv : Nat} (hF : fOk F cc own lv) {dflt lo hi : Int} {offs : Array Int} {len : Nat} {x : Int32} {tgt : Nat} (hd : decode cc pc = .ok (.tableswitch dflt lo hi offs, len)) (h1 : x.toInt < lo ∨ hi < x.toInt) (ht : (pc : Int) + dflt = (tgt : Int)) (k : fV F S n tgt l st) : fV F S n pc l (aI x :: st) := fV.of fun H locs cells slots ls hB hH hS hl => lv_tableOut hF.1 hF.2.1 hd h1 ht (k.to hB hH hS hl)
-- ===== fields =====
/-- a kind's class, its fields in the frame's order, the words of its layout -/
def fKind (k : Nat) (C : String) (T : u_T) : Prop := k < 11 ∧ vwCl[kc k]? = some (C, T, kn k) ∧ ∀ w ∈ u_ws C T (kn k), w ∈ fBig
theorem fH.at {G : fG} {S : fMS} {n : Nat} {s : State} {H : Heap} (h : fH G S n s H) {a : Nat} (ha : a ∈ sL S) : ∃ q0 : Nat, (va_pl (sL S) (cellOf G S))[q0]? = some (a, cellOf G S a) := va_pl_get (X := []) ha
theorem fH.ge {G : fG} {S : fMS} {n : Nat} {s : State} {H : Heap} (h : fH G S n s H) {a : Nat} (ha : a ∈ sL S) : fgz G ≤ a := by
  obtain ⟨q0, hq⟩ := h.at ha
  exact h.2.1.2 q0 _ hq
theorem fH.lt {G : fG} {S : fMS} {n : Nat} {s : State} {H : Heap} (h : fH G S n s H) {a : Nat} (ha : a ∈ sL S) : a < H.size := by
  obtain ⟨q0, hq⟩ := h.at ha
  exact (h.1 q0 _ hq).lt
theorem fH.put {G : fG} {S S' : fMS} {n : Nat} {s : State} {H H1 : Heap} {a q0 : Nat} {e : va_E} (h : fH G S n s H) (ha : a ∈ sL S) (hq : (va_pl (sL S) (cellOf G S))[q0]? = some (a, cellOf G S a)) (hc : ∀ b, va_up (cellOf G S) a e b = cellOf G S' b) (hL : sL S' = sL S) (hN : sN S' = sN S) (hE : sE S' = sE S) (hM : sM S' = sM S)
    (hP : va_P (fgD G) vwCl ((va_pl (sL S) (cellOf G S)).set q0 (a, e)) H1) (hD : va_D (fgA G) ((va_pl (sL S) (cellOf G S)).set q0 (a, e))) {s0 : State} {locs0 locs : List Loc} {H0 : Heap} (hS0 : va_S (fgA G) H0 H locs0) (hS : va_S (fgA G) H0 H1 locs) (hz : fgz G ≤ H0.size) : fH G S' n s H1 := by
  have e1 : (va_pl (sL S) (cellOf G S)).set q0 (a, e) = va_pl (sL S') (cellOf G S') := by
    have h1 := va_pl_set (X := []) h.2.1 ha hq (e := e)
    rw [hL]
    exact h1.trans (va_pl_congr hc)
  rw [e1] at hP hD
  obtain ⟨-, -, h3, h4, h5, h6⟩ := h
  refine ⟨hP, hD, h3, ?_, ?_, h6⟩
  · have h7 := fZ.kept h4 (H1 := H1) (fun b hb hA => by
      have hb0 : b < H0.size := Nat.lt_of_lt_of_le (Nat.not_le.mp hA) hz
      rw [hS.2.1 b hb0 hA, hS0.2.1 b hb0 hA])
    unfold fZ
    rw [hE, hM]
    exact h7
  · unfold fZm
    rw [hN, hE]
    exact h5
section
variable {F : fX} {S : fMS} {n pc : Nat} {l : List (Option fAV)} {st : List fAV} {cc : ByteArray} {own : String} {lv : Nat}
theorem fV_get (hF : fOk F cc own lv) {k a i index : Nat} {r : Option Nat} {C ref : String} {T : u_T} (hk : fKind k C T) (he : r = some a) (hA : isA S k a) (hi : i < kn k) (hw : Cond.fieldLink own index ref (T i).2.1 (T i).2.2.1 ∈ fBig) (href : ref = (T i).1 ∨ Cond.sameField ref (T i).1 (T i).2.1 (T i).2.2.1 ∈ fBig) (hd : decode cc pc = .ok (.getfield index, 3)) {v : fAV} (hv : slotAV S k a i = v) (kk : fV F S n (pc + 3) l (v :: st)) : fV F S n pc l (aR r :: st) := by
  subst he hv
  refine fV.of fun H locs cells slots ls hB hH hS hl => ?_
  obtain ⟨q0, hq⟩ := hH.at hA.1
  have hq1 := hq.trans (congrArg (fun e => some (a, e)) (cell_obj hA.2 hk.1))
  refine va_get hF.1 hF.2.1 hF.2.2.2.2.1 hk.2.2 hF.2.2.2.1 hH.2.2.1 hH.1 q0 hq1 hk.2.1 i hi (hF.2.2.2.2.1 _ hw) ?_ (v := fv (slotAV S k a i)) ?_ hd (kk.to hB hH hS hl)
  · intro x hx
    rcases href with h | h
    · rw [h]; exact hx
    · exact u_same (hF.2.2.2.2.1 _ h) x hx
  · simp [hi]
theorem fV_getI (hF : fOk F cc own lv) {k a i index : Nat} {r : Option Nat} {C ref : String} {T : u_T} (hk : fKind k C T) (he : r = some a) (hA : isA S k a) (hi : i < kn k) (hw : Cond.fieldLink own index ref (T i).2.1 (T i).2.2.1 ∈ fBig) (href : ref = (T i).1 ∨ Cond.sameField ref (T i).1 (T i).2.1 (T i).2.2.1 ∈ fBig) (ht : kft k i = 0) (hd : decode cc pc = .ok (.getfield index, 3)) (kk : fV F S n (pc + 3) l (aI (sI S a i) :: st)) : fV F S n pc l (aR r :: st) :=
  fV_get hF hk he hA hi hw href hd (by unfold slotAV; rw [ht]; rfl) kk
theorem fV_getJ (hF : fOk F cc own lv) {k a i index : Nat} {r : Option Nat} {C ref : String} {T : u_T} (hk : fKind k C T) (he : r = some a) (hA : isA S k a) (hi : i < kn k) (hw : Cond.fieldLink own index ref (T i).2.1 (T i).2.2.1 ∈ fBig) (href : ref = (T i).1 ∨ Cond.sameField ref (T i).1 (T i).2.1 (T i).2.2.1 ∈ fBig) (ht : kft k i = 1) (hd : decode cc pc = .ok (.getfield index, 3)) (kk : fV F S n (pc + 3) l (aJ (sJ S a i) :: st)) : fV F S n pc l (aR r :: st) :=
  fV_get hF hk he hA hi hw href hd (by unfold slotAV; rw [ht]; rfl) kk
theorem fV_getR (hF : fOk F cc own lv) {k a i index : Nat} {r : Option Nat} {C ref : String} {T : u_T} (hk : fKind k C T) (he : r = some a) (hA : isA S k a) (hi : i < kn k) (hw : Cond.fieldLink own index ref (T i).2.1 (T i).2.2.1 ∈ fBig) (href : ref = (T i).1 ∨ Cond.sameField ref (T i).1 (T i).2.1 (T i).2.2.1 ∈ fBig) (ht : kft k i = 2) (hd : decode cc pc = .ok (.getfield index, 3)) (kk : fV F S n (pc + 3) l (aR (sR S a i) :: st)) : fV F S n pc l (aR r :: st) :=
  fV_get hF hk he hA hi hw href hd (by unfold slotAV; rw [ht]; rfl) kk
/-- a store, told by what it makes of the memory -/
theorem fV_put (hF : fOk F cc own lv) {k a i index : Nat} {r : Option Nat} {C ref : String} {T : u_T} {ty0 : Nat → FieldType} (hk : fKind k C T) (hty : ∀ j, j < kn k → parseFieldDescriptor (T j).2.2.1 = some (ty0 j)) (hnm : ∀ x, x < kn k → ∀ y, y < kn k → x ≠ y → (T x).2.1 ≠ (T y).2.1)
    (he : r = some a) (hA : isA S k a) (hi : i < kn k) (hw : Cond.fieldLink own index ref (T i).2.1 (T i).2.2.1 ∈ fBig) (href : ref = (T i).1 ∨ Cond.sameField ref (T i).1 (T i).2.1 (T i).2.2.1 ∈ fBig) (hfin : (T i).2.2.2 = false ∨ ((T i).2.2.2 = true ∧ (xM F).name = "<init>" ∧ (T i).1 = own)) {v : fAV} (hn : narrow (ty0 i) (fv v) = fv v) (hfit : fits (ty0 i) (fv v) = true)
    (hd : decode cc pc = .ok (.putfield index, 3)) {S' : fMS} (hc : ∀ (G : fG) (b : Nat), va_up (cellOf G S) a (.inr (kc k, ((List.range (kn k)).map (fun i => fv (slotAV S k a i))).set i (fv v))) b = cellOf G S' b) (hS' : sL S' = sL S ∧ sN S' = sN S ∧ sE S' = sE S ∧ sM S' = sM S) (kk : fV F S' n (pc + 3) l st) : fV F S n pc l (v :: aR r :: st) := by
  subst he
  refine fV.of fun H locs cells slots ls hB hH hS hl => ?_
  obtain ⟨q0, hq⟩ := hH.at hA.1
  have hq1 := hq.trans (congrArg (fun e => some (a, e)) (cell_obj hA.2 hk.1))
  have hsame : ∀ x, (xs F).fieldFound? (T i).1 (T i).2.1 (T i).2.2.1 = some x → (xs F).fieldFound? ref (T i).2.1 (T i).2.2.1 = some x := by
    intro x hx
    rcases href with h | h
    · rw [h]; exact hx
    · exact u_same (hF.2.2.2.2.1 _ h) x hx
  rcases hfin with hfin | ⟨hfin, hin, hown⟩
  · refine va_put hF.1 hF.2.1 hF.2.2.2.2.1 hk.2.2 ty0 hty hnm hF.2.2.2.1 hH.2.2.1 hH.1 hH.2.1 hS q0 hq1 hk.2.1 i hi (hF.2.2.2.2.1 _ hw) hsame hfin (hty i hi) hn hfit (by simpa using hi) hd (fun H1 locs1 hP1 hD1 hS1 => ?_)
    exact kk.to hB (fH.put (s0 := xs F) hH hA.1 hq (hc _) hS'.1 hS'.2.1 hS'.2.2.1 hS'.2.2.2 hP1 hD1 hS hS1 hF.2.2.2.2.2.2.1.1) hS1 hl
  · refine va_putF hF.1 hF.2.1 hF.2.2.2.2.1 hk.2.2 ty0 hty hnm hF.2.2.2.1 hH.2.2.1 hH.1 hH.2.1 hS q0 hq1 hk.2.1 i hi (hF.2.2.2.2.1 _ hw) hsame hfin hin hown (hty i hi) hn hfit (by simpa using hi) hd (fun H1 locs1 hP1 hD1 hS1 => ?_)
    exact kk.to hB (fH.put (s0 := xs F) hH hA.1 hq (hc _) hS'.1 hS'.2.1 hS'.2.2.1 hS'.2.2.2 hP1 hD1 hS hS1 hF.2.2.2.2.2.2.1.1) hS1 hl
theorem fV_putI (hF : fOk F cc own lv) {k a i index : Nat} {r : Option Nat} {C ref : String} {T : u_T} {ty0 : Nat → FieldType} {v : Int32} (hk : fKind k C T) (hty : ∀ j, j < kn k → parseFieldDescriptor (T j).2.2.1 = some (ty0 j)) (hnm : ∀ x, x < kn k → ∀ y, y < kn k → x ≠ y → (T x).2.1 ≠ (T y).2.1)
    (he : r = some a) (hA : isA S k a) (hi : i < kn k) (ht : kft k i = 0) (hw : Cond.fieldLink own index ref (T i).2.1 (T i).2.2.1 ∈ fBig) (href : ref = (T i).1 ∨ Cond.sameField ref (T i).1 (T i).2.1 (T i).2.2.1 ∈ fBig) (hfin : (T i).2.2.2 = false ∨ ((T i).2.2.2 = true ∧ (xM F).name = "<init>" ∧ (T i).1 = own)) (hn : narrow (ty0 i) (fv (aI v)) = fv (aI v)) (hfit : fits (ty0 i) (fv (aI v)) = true)
    (hd : decode cc pc = .ok (.putfield index, 3)) (kk : fV F (wI S a i v) n (pc + 3) l st) : fV F S n pc l (aI v :: aR r :: st) :=
  fV_put hF hk hty hnm he hA hi hw href hfin hn hfit hd (S' := wI S a i v) (fun G b => put_I hA.2 hk.1 hi ht b) ⟨rfl, rfl, rfl, rfl⟩ kk
theorem fV_putJ (hF : fOk F cc own lv) {k a i index : Nat} {r : Option Nat} {C ref : String} {T : u_T} {ty0 : Nat → FieldType} {v : Int64} (hk : fKind k C T) (hty : ∀ j, j < kn k → parseFieldDescriptor (T j).2.2.1 = some (ty0 j)) (hnm : ∀ x, x < kn k → ∀ y, y < kn k → x ≠ y → (T x).2.1 ≠ (T y).2.1)
    (he : r = some a) (hA : isA S k a) (hi : i < kn k) (ht : kft k i = 1) (hw : Cond.fieldLink own index ref (T i).2.1 (T i).2.2.1 ∈ fBig) (href : ref = (T i).1 ∨ Cond.sameField ref (T i).1 (T i).2.1 (T i).2.2.1 ∈ fBig) (hfin : (T i).2.2.2 = false ∨ ((T i).2.2.2 = true ∧ (xM F).name = "<init>" ∧ (T i).1 = own)) (hn : narrow (ty0 i) (fv (aJ v)) = fv (aJ v)) (hfit : fits (ty0 i) (fv (aJ v)) = true)
    (hd : decode cc pc = .ok (.putfield index, 3)) (kk : fV F (wJ S a i v) n (pc + 3) l st) : fV F S n pc l (aJ v :: aR r :: st) :=
  fV_put hF hk hty hnm he hA hi hw href hfin hn hfit hd (S' := wJ S a i v) (fun G b => put_J hA.2 hk.1 hi ht b) ⟨rfl, rfl, rfl, rfl⟩ kk
theorem fV_putR (hF : fOk F cc own lv) {k a i index : Nat} {r : Option Nat} {C ref : String} {T : u_T} {ty0 : Nat → FieldType} {v : Option Nat} (hk : fKind k C T) (hty : ∀ j, j < kn k → parseFieldDescriptor (T j).2.2.1 = some (ty0 j)) (hnm : ∀ x, x < kn k → ∀ y, y < kn k → x ≠ y → (T x).2.1 ≠ (T y).2.1)
    (he : r = some a) (hA : isA S k a) (hi : i < kn k) (ht : kft k i = 2) (hw : Cond.fieldLink own index ref (T i).2.1 (T i).2.2.1 ∈ fBig) (href : ref = (T i).1 ∨ Cond.sameField ref (T i).1 (T i).2.1 (T i).2.2.1 ∈ fBig) (hfin : (T i).2.2.2 = false ∨ ((T i).2.2.2 = true ∧ (xM F).name = "<init>" ∧ (T i).1 = own)) (hn : narrow (ty0 i) (fv (aR v)) = fv (aR v)) (hfit : fits (ty0 i) (fv (aR v)) = true)
    (hd : decode cc pc = .ok (.putfield index, 3)) (kk : fV F (wR S a i v) n (pc + 3) l st) : fV F S n pc l (aR v :: aR r :: st) :=
  fV_put hF hk hty hnm he hA hi hw href hfin hn hfit hd (S' := wR S a i v) (fun G b => put_R hA.2 hk.1 hi ht b) ⟨rfl, rfl, rfl, rfl⟩ kk
theorem isA_new {q k N k2 b : Nat} (hq : q ∉ sL S) (h : isA S k2 b) : isA (wN S q k N) k2 b := ⟨List.mem_append_left _ h.1, (va_up_ne _ _ (fun e : b = q => hq (e ▸ h.1))).trans h.2⟩
theorem isA_made {q k N : Nat} : isA (wN S q k N) k q := ⟨List.mem_append_right _ List.mem_cons_self, va_up_self _ _ _⟩
theorem rf_narrow {C : String} (r : Option Nat) : narrow (.object C) (va_rf r) = va_rf r := by cases r <;> rfl
theorem rf_fits {C : String} (r : Option Nat) : fits (.object C) (va_rf r) = true := by cases r <;> rfl
theorem rf_narrowA {C : FieldType} (r : Option Nat) : narrow (.array C) (va_rf r) = va_rf r := by cases r <;> rfl
theorem rf_fitsA {C : FieldType} (r : Option Nat) : fits (.array C) (va_rf r) = true := by cases r <;> rfl
end
theorem fin1 {w : Cond} (i : Nat) (h : tables_1[i]? = some w) (hg : goodWord w = true) : w ∈ fBig := List.mem_filter.mpr ⟨List.mem_append_right _ (List.mem_of_getElem? h), hg⟩
theorem fin2 {y : MethodName} {k : Nat} (i : Nat) (h : lw_privs[i]? = some (y, k)) : Cond.selects y.cls y y ∈ fBig := List.mem_filter.mpr ⟨List.mem_append_left _ (List.mem_map.mpr ⟨(y, k), List.mem_of_getElem? h, rfl⟩), rfl⟩
theorem fin_tbl {ws : List Cond} (ps : List Nat) (hp : ws = ps.filterMap (fun i => tables_1[i]?)) (h : ws.all goodWord = true) : ∀ w ∈ ws, w ∈ fBig := fun w hw => List.mem_filter.mpr ⟨List.mem_append_right _ ((goodIn_r ws ps hp h) w hw).1, List.all_eq_true.mp h w hw⟩
theorem inlX0 : ∀ w ∈ u_ws RX0 TX0 8, w ∈ fBig := fin_tbl [892, 894, 896, 898, 900, 902, 904, 906] (by decide +kernel) (by decide +kernel)
theorem inlX1 : ∀ w ∈ u_ws RX1 TX1 4, w ∈ fBig := fin_tbl [1040, 1042, 1044, 1046] (by decide +kernel) (by decide +kernel)
theorem inlX2 : ∀ w ∈ u_ws RX2 TX2 14, w ∈ fBig := fin_tbl [101, 103, 105, 107, 109, 111, 113, 115, 117, 119, 121, 123, 125, 127] (by decide +kernel) (by decide +kernel)
theorem inlX3 : ∀ w ∈ u_ws RX3 TX3 11, w ∈ fBig := fin_tbl [203, 205, 207, 209, 211, 213, 215, 217, 219, 221, 223] (by decide +kernel) (by decide +kernel)
theorem inlX4 : ∀ w ∈ u_ws RX4 TX4 33, w ∈ fBig := fin_tbl [1188, 1190, 1192, 1194, 1196, 1198, 1200, 1202, 1204, 1206, 1208, 1210, 1212, 1214, 1216, 1218, 1220, 1222, 1224, 1226, 1228, 1230, 1232, 1234, 1236, 1238, 1240, 1242, 1244, 1246, 1248, 1250, 1252] (by decide +kernel) (by decide +kernel)
theorem inlJx4a65c : ∀ w ∈ u_ws RJx4a65c TJx4a65c 3, w ∈ fBig := fin_tbl [63, 59, 61] (by decide +kernel) (by decide +kernel)
theorem fw_mathI : Cond.initialized "java/lang/Math" ∈ fBig := fin1 7 (by decide +kernel) rfl
theorem fw_minS : Cond.static Lib.Math.min.name ∈ fBig := fin1 185 (by decide +kernel) rfl
theorem fw_maxS : Cond.static Lib.Math.max.name ∈ fBig := fin1 150 (by decide +kernel) rfl
theorem fw_minC : Cond.code Lib.Math.min.name Lib.Math.min.code 2 (some .int) ∈ fBig := fin1 186 (by decide +kernel) rfl
theorem fw_maxC : Cond.code Lib.Math.max.name Lib.Math.max.code 2 (some .int) ∈ fBig := fin1 151 (by decide +kernel) rfl
theorem fw_objI : Cond.instanceMethod Lib.objectInit ∈ fBig := fin1 38 (by decide +kernel) rfl
theorem fw_objC : Cond.code Lib.objectInit ⟨#[0xb1]⟩ 1 none ∈ fBig := fin1 39 (by decide +kernel) rfl
theorem fw_gcS : Cond.selects "[Ljava/lang/Object;" ({ cls := "java/lang/Object", name := "getClass", desc := "()Ljava/lang/Class;" } : Jvm.MethodName) ({ cls := "java/lang/Object", name := "getClass", desc := "()Ljava/lang/Class;" } : Jvm.MethodName) ∈ fBig := fin1 1547 (by decide +kernel) rfl
theorem fw_gcI : Cond.instanceMethod ({ cls := "java/lang/Object", name := "getClass", desc := "()Ljava/lang/Class;" } : Jvm.MethodName) ∈ fBig := fin1 160 (by decide +kernel) rfl
theorem fw_gcN : Cond.native ({ cls := "java/lang/Object", name := "getClass", desc := "()Ljava/lang/Class;" } : Jvm.MethodName) ∈ fBig := fin1 177 (by decide +kernel) rfl
theorem fw_acN : Cond.native arraycopyName ∈ fBig := fin1 189 (by decide +kernel) rfl
theorem fw_acS : Cond.static arraycopyName ∈ fBig := fin1 188 (by decide +kernel) rfl
theorem fw_acI : Cond.initialized "java/lang/System" ∈ fBig := fin1 9 (by decide +kernel) rfl
theorem fK1 : fKind 1 RX0 TX0 := ⟨by decide, rfl, inlX0⟩
theorem fK2 : fKind 2 RX1 TX1 := ⟨by decide, rfl, inlX1⟩
theorem fK3 : fKind 3 RX2 TX2 := ⟨by decide, rfl, inlX2⟩
theorem fK4 : fKind 4 RX3 TX3 := ⟨by decide, rfl, inlX3⟩
theorem fK5 : fKind 5 RX4 TX4 := ⟨by decide, rfl, inlX4⟩
theorem fK6 : fKind 6 RJx4a65c TJx4a65c := ⟨by decide, rfl, inlJx4a65c⟩
-- ===== rows =====
theorem fH.any {G : fG} {S : fMS} {n : Nat} {s : State} {H : Heap} (hT : fT s) (h : fH G S n s H) {a k : Nat} (hA : isA S k a) (hk : k = 1 ∨ k = 2 ∨ k = 3) : va_Any "java/lang/Object" s H a := by
  obtain ⟨q0, hq⟩ := h.at hA.1
  have hk11 : k < 11 := by rcases hk with h | h | h <;> omega
  have hP := h.1 q0 _ (hq.trans (congrArg (fun e => some (a, e)) (cell_obj hA.2 hk11)))
  obtain ⟨r, hr, cell, c1, c2, c3, -⟩ := hP
  have hcs : ∃ C T N, vwCl[kc k]? = some (C, T, N) ∧ va_Nw (.castable C "java/lang/Object") s := by
    have hz := hT.2.2.1
    rcases hk with e | e | e <;> subst e
    · exact ⟨RX0, TX0, 8, rfl, hz (RX0, "java/lang/Object") (by decide +kernel)⟩
    · exact ⟨RX1, TX1, 4, rfl, hz (RX1, "java/lang/Object") (by decide +kernel)⟩
    · exact ⟨RX2, TX2, 14, rfl, hz (RX2, "java/lang/Object") (by decide +kernel)⟩
  obtain ⟨C, T, N, hC, hcast⟩ := hcs
  obtain ⟨-, hfc, kC, hkC, -⟩ := h.2.2.1.1 _ _ hC
  refine ⟨cell, c1, by rw [c3]; rfl, ⟨kC, by rw [c2]; exact hkC⟩, fun comp hcomp => ?_⟩
  obtain ⟨c3', c4, e3, e4, hasg⟩ := Cond.castable_spec hcast
  rw [c2]
  rw [hfc] at e3
  cases e3
  rw [hcomp] at e4
  cases e4
  exact hasg
section
variable {F : fX} {S : fMS} {n pc : Nat} {l : List (Option fAV)} {st : List fAV} {cc : ByteArray} {own : String} {lv : Nat}
theorem fV_iald (hF : fOk F cc own lv) {a : Nat} {r : Option Nat} {i : Int32} (he : r = some a) (hA : isA S 11 a) (hi : vp_in i (sN S a)) (hd : decode cc pc = .ok (.iaload, 1)) (kk : fV F S n (pc + 1) l (aI (sI S a i.toNatClampNeg) :: st)) : fV F S n pc l (aI i :: aR r :: st) := by
  subst he
  refine fV.of fun H locs cells slots ls hB hH hS hl => ?_
  obtain ⟨q0, hq⟩ := hH.at hA.1
  exact va_iald hF.1 hF.2.1 hH.2.2.1 hH.1 q0 0 (hq.trans (congrArg (fun e => some (a, e)) (cell_I hA.2))) rfl hi hd (kk.to hB hH hS hl)
theorem fV_zald (hF : fOk F cc own lv) {a : Nat} {r : Option Nat} {i : Int32} (he : r = some a) (hA : isA S 13 a) (hi : vp_in i (sN S a)) (hd : decode cc pc = .ok (.baload, 1)) (kk : fV F S n (pc + 1) l (aI (sI S a i.toNatClampNeg) :: st)) : fV F S n pc l (aI i :: aR r :: st) := by
  subst he
  refine fV.of fun H locs cells slots ls hB hH hS hl => ?_
  obtain ⟨q0, hq⟩ := hH.at hA.1
  exact va_zald hF.1 hF.2.1 hH.2.2.1 hH.1 q0 2 (hq.trans (congrArg (fun e => some (a, e)) (cell_Z hA.2))) rfl hi hd (kk.to hB hH hS hl)
theorem fV_lald (hF : fOk F cc own lv) {a : Nat} {r : Option Nat} {i : Int32} (he : r = some a) (hA : isA S 12 a) (hi : vp_in i (sN S a)) (hd : decode cc pc = .ok (.laload, 1)) (kk : fV F S n (pc + 1) l (aJ (sJ S a i.toNatClampNeg) :: st)) : fV F S n pc l (aI i :: aR r :: st) := by
  subst he
  refine fV.of fun H locs cells slots ls hB hH hS hl => ?_
  obtain ⟨q0, hq⟩ := hH.at hA.1
  exact va_lald hF.1 hF.2.1 hH.2.2.1 hH.1 q0 1 (hq.trans (congrArg (fun e => some (a, e)) (cell_J hA.2))) rfl hi hd (kk.to hB hH hS hl)
theorem fV_dald (hF : fOk F cc own lv) {a : Nat} {r : Option Nat} {i : Int32} (he : r = some a) (hA : isA S 15 a) (hi : vp_in i (sN S a)) (hd : decode cc pc = .ok (.daload, 1)) (kk : fV F S n (pc + 1) l (aD (sJ S a i.toNatClampNeg).toUInt64 :: st)) : fV F S n pc l (aI i :: aR r :: st) := by
  subst he
  refine fV.of fun H locs cells slots ls hB hH hS hl => ?_
  obtain ⟨q0, hq⟩ := hH.at hA.1
  exact va_dald hF.1 hF.2.1 hH.2.2.1 hH.1 q0 4 (hq.trans (congrArg (fun e => some (a, e)) (cell_D hA.2))) rfl hi hd (kk.to hB hH hS hl)
theorem fV_aald (hF : fOk F cc own lv) {a : Nat} {r : Option Nat} {i : Int32} (he : r = some a) (hA : isA S 14 a) (hi : vp_in i (sN S a)) (hd : decode cc pc = .ok (.aaload, 1)) (kk : fV F S n (pc + 1) l (aR (sR S a i.toNatClampNeg) :: st)) : fV F S n pc l (aI i :: aR r :: st) := by
  subst he
  refine fV.of fun H locs cells slots ls hB hH hS hl => ?_
  obtain ⟨q0, hq⟩ := hH.at hA.1
  exact va_aldq hF.1 hF.2.1 hH.2.2.1 hH.1 q0 3 (hq.trans (congrArg (fun e => some (a, e)) (cell_O hA.2))) rfl hi hd (kk.to hB hH hS hl)
theorem fV_iast (hF : fOk F cc own lv) {a : Nat} {r : Option Nat} {i x : Int32} (he : r = some a) (hA : isA S 11 a) (hi : vp_in i (sN S a)) (hd : decode cc pc = .ok (.iastore, 1)) (kk : fV F (wI S a i.toNatClampNeg x) n (pc + 1) l st) : fV F S n pc l (aI x :: aI i :: aR r :: st) := by
  subst he
  refine fV.of fun H locs cells slots ls hB hH hS hl => ?_
  obtain ⟨q0, hq⟩ := hH.at hA.1
  exact va_iast hF.1 hF.2.1 hH.2.2.1 hH.1 hH.2.1 hS q0 0 (hq.trans (congrArg (fun e => some (a, e)) (cell_I hA.2))) rfl hi hd (fun H1 locs1 hP1 hD1 hS1 => kk.to hB (fH.put (s0 := xs F) hH hA.1 hq (putA_I hA.2) rfl rfl rfl rfl hP1 hD1 hS hS1 hF.2.2.2.2.2.2.1.1) hS1 hl)
theorem fV_zast (hF : fOk F cc own lv) {a : Nat} {r : Option Nat} {i x : Int32} (he : r = some a) (hA : isA S 13 a) (hi : vp_in i (sN S a)) (hd : decode cc pc = .ok (.bastore, 1)) (kk : fV F (wI S a i.toNatClampNeg (vp_nar .boolean x)) n (pc + 1) l st) : fV F S n pc l (aI x :: aI i :: aR r :: st) := by
  subst he
  refine fV.of fun H locs cells slots ls hB hH hS hl => ?_
  obtain ⟨q0, hq⟩ := hH.at hA.1
  exact va_zast hF.1 hF.2.1 hH.2.2.1 hH.1 hH.2.1 hS q0 2 (hq.trans (congrArg (fun e => some (a, e)) (cell_Z hA.2))) rfl hi hd (fun H1 locs1 hP1 hD1 hS1 => kk.to hB (fH.put (s0 := xs F) hH hA.1 hq (putA_Z hA.2) rfl rfl rfl rfl hP1 hD1 hS hS1 hF.2.2.2.2.2.2.1.1) hS1 hl)
theorem fV_last (hF : fOk F cc own lv) {a : Nat} {r : Option Nat} {i : Int32} {x : Int64} (he : r = some a) (hA : isA S 12 a) (hi : vp_in i (sN S a)) (hd : decode cc pc = .ok (.lastore, 1)) (kk : fV F (wJ S a i.toNatClampNeg x) n (pc + 1) l st) : fV F S n pc l (aJ x :: aI i :: aR r :: st) := by
  subst he
  refine fV.of fun H locs cells slots ls hB hH hS hl => ?_
  obtain ⟨q0, hq⟩ := hH.at hA.1
  exact va_last hF.1 hF.2.1 hH.2.2.1 hH.1 hH.2.1 hS q0 1 (hq.trans (congrArg (fun e => some (a, e)) (cell_J hA.2))) rfl hi hd (fun H1 locs1 hP1 hD1 hS1 => kk.to hB (fH.put (s0 := xs F) hH hA.1 hq (putA_J hA.2) rfl rfl rfl rfl hP1 hD1 hS hS1 hF.2.2.2.2.2.2.1.1) hS1 hl)
theorem fV_dast (hF : fOk F cc own lv) {a : Nat} {r : Option Nat} {i : Int32} {x : UInt64} (he : r = some a) (hA : isA S 15 a) (hi : vp_in i (sN S a)) (hd : decode cc pc = .ok (.dastore, 1)) (kk : fV F (wJ S a i.toNatClampNeg x.toInt64) n (pc + 1) l st) : fV F S n pc l (aD x :: aI i :: aR r :: st) := by
  subst he
  refine fV.of fun H locs cells slots ls hB hH hS hl => ?_
  obtain ⟨q0, hq⟩ := hH.at hA.1
  exact va_dast hF.1 hF.2.1 hH.2.2.1 hH.1 hH.2.1 hS q0 4 (hq.trans (congrArg (fun e => some (a, e)) (cell_D hA.2))) rfl hi hd (fun H1 locs1 hP1 hD1 hS1 => kk.to hB (fH.put (s0 := xs F) hH hA.1 hq (putA_D hA.2) rfl rfl rfl rfl hP1 hD1 hS hS1 hF.2.2.2.2.2.2.1.1) hS1 hl)
/-- what may be put into a row of objects: null, a job, a reservation, a team -/
def fEl (S : fMS) (r : Option Nat) : Prop := r = none ∨ ∃ b, r = some b ∧ (isA S 1 b ∨ isA S 2 b ∨ isA S 3 b)
theorem fEl.any {G : fG} {n : Nat} {s : State} {H : Heap} (hT : fT s) (h : fH G S n s H) {b : Nat} (hb : isA S 1 b ∨ isA S 2 b ∨ isA S 3 b) : va_Any "java/lang/Object" s H b := by
  rcases hb with hb | hb | hb
  · exact h.any hT hb (Or.inl rfl)
  · exact h.any hT hb (Or.inr (Or.inl rfl))
  · exact h.any hT hb (Or.inr (Or.inr rfl))
theorem fV_aast (hF : fOk F cc own lv) {a : Nat} {r x : Option Nat} {i : Int32} (he : r = some a) (hA : isA S 14 a) (hi : vp_in i (sN S a)) (hx : fEl S x) (hd : decode cc pc = .ok (.aastore, 1)) (kk : fV F (wR S a i.toNatClampNeg x) n (pc + 1) l st) : fV F S n pc l (aR x :: aI i :: aR r :: st) := by
  subst he
  refine fV.of fun H locs cells slots ls hB hH hS hl => ?_
  obtain ⟨q0, hq⟩ := hH.at hA.1
  have hq1 := hq.trans (congrArg (fun e => some (a, e)) (cell_O hA.2))
  rcases hx with rfl | ⟨b, rfl, hb⟩
  · exact va_astqN hF.1 hF.2.1 hH.2.2.1 hH.1 hH.2.1 hS q0 3 hq1 rfl hi hd (fun H1 locs1 hP1 hD1 hS1 => kk.to hB (fH.put (s0 := xs F) hH hA.1 hq (putA_O hA.2) rfl rfl rfl rfl hP1 hD1 hS hS1 hF.2.2.2.2.2.2.1.1) hS1 hl)
  · exact va_astqM hF.1 hF.2.1 hH.2.2.1 hH.1 hH.2.1 hS q0 3 hq1 rfl (fEl.any hF.2.2.2.2.2.2.2.2.2 hH hb) hi hd (fun H1 locs1 hP1 hD1 hS1 => kk.to hB (fH.put (s0 := xs F) hH hA.1 hq (putA_O hA.2) rfl rfl rfl rfl hP1 hD1 hS hS1 hF.2.2.2.2.2.2.1.1) hS1 hl)
theorem fV_alenI (hF : fOk F cc own lv) {a : Nat} {r : Option Nat} (he : r = some a) (hA : isA S 11 a) (hd : decode cc pc = .ok (.arraylength, 1)) (kk : fV F S n (pc + 1) l (aI (Int32.ofNat (sN S a)) :: st)) : fV F S n pc l (aR r :: st) := by
  subst he
  refine fV.of fun H locs cells slots ls hB hH hS hl => ?_
  obtain ⟨q0, hq⟩ := hH.at hA.1
  exact va_alen hF.1 hF.2.1 hH.2.2.1 hH.1 q0 0 (hq.trans (congrArg (fun e => some (a, e)) (cell_I hA.2))) rfl rfl hd (kk.to hB hH hS hl)
/-- a row of objects, or the empty row of the lists -/
theorem fV_alenO (hF : fOk F cc own lv) {a : Nat} {r : Option Nat} (he : r = some a) (hA : isA S 14 a ∨ a = sE S) (hd : decode cc pc = .ok (.arraylength, 1)) (kk : fV F S n (pc + 1) l (aI (Int32.ofNat (sN S a)) :: st)) : fV F S n pc l (aR r :: st) := by
  subst he
  refine fV.of fun H locs cells slots ls hB hH hS hl => ?_
  rcases hA with hA | hA
  · obtain ⟨q0, hq⟩ := hH.at hA.1
    exact va_alen hF.1 hF.2.1 hH.2.2.1 hH.1 q0 3 (hq.trans (congrArg (fun e => some (a, e)) (cell_O hA.2))) rfl rfl hd (kk.to hB hH hS hl)
  · subst hA
    obtain ⟨cell, c1, c2, c3, c4, c5, -⟩ := hH.2.2.2.1.2.1
    refine W.alen (n := Int32.ofNat (sN S (sE S))) hF.1 hF.2.1 c1 c2 ?_ rfl rfl hd (kk.to hB hH hS hl)
    rw [c5, hH.2.2.2.2.1]
theorem fV_castK (hF : fOk F cc own lv) {k a index : Nat} {r : Option Nat} {C : String} {T : u_T} (hk : fKind k C T) (he : r = some a) (hA : isA S k a) (hw : Cond.classLink own index C ∈ fBig) (hd : decode cc pc = .ok (.checkcast index, 3)) (kk : fV F S n (pc + 3) l (aR r :: st)) : fV F S n pc l (aR r :: st) := by
  subst he
  refine fV.of fun H locs cells slots ls hB hH hS hl => ?_
  obtain ⟨q0, hq⟩ := hH.at hA.1
  obtain ⟨r, hr, cell, c1, c2, c3, -⟩ := hH.1 q0 _ (hq.trans (congrArg (fun e => some (a, e)) (cell_obj hA.2 hk.1)))
  obtain ⟨-, hfc, -⟩ := hH.2.2.1.1 _ _ hk.2.1
  exact va_castE hF.1 hF.2.1 hF.2.2.2.1 (hF.2.2.2.2.1 _ hw) ⟨cell, c1, by rw [c3]; rfl, by rw [c2]; exact hfc⟩ hd (kk.to hB hH hS hl)
end
-- ===== room, new cells, calls =====
theorem fBd.le {F : fX} {n cells slots : Nat} (hz : fgz (xG F) ≤ (xs F).heap.size ∧ fgs (xG F) ≤ hsl (xs F).heap) (h : fBd F n cells slots) : cells ≤ n ∧ slots ≤ n := by
  obtain ⟨h1, h2⟩ := h
  omega
theorem fBd.heap {F : fX} {n cells slots : Nat} {T : State} {locs : List Loc} (X : xS F T locs cells slots) (h : fBd F n cells slots) : T.heap.size ≤ fgz (xG F) + n ∧ hsl T.heap ≤ fgs (xG F) + n ∧ hsl (xs F).heap ≤ hsl T.heap := by
  obtain ⟨h1, h2⟩ := h
  have e1 : T.heap.size ≤ (xs F).heap.size + cells := X.heapSize
  have e2 := hsl_new (t := T.setVm (xs F).vm) X.same
  have e3 : ((T.heap.toList.drop (xs F).heap.size).map (fun c => c.slots.size)).sum ≤ slots := X.same.2.2.2.2.1
  have e4 : hsl T.heap = hsl (xs F).heap + ((T.heap.toList.drop (xs F).heap.size).map (fun c => c.slots.size)).sum := e2
  omega
/-- the counters drawn tight -/
theorem xS.tight {F : fX} {T : State} {locs : List Loc} {cells slots n : Nat} (X : xS F T locs cells slots) (h1 : T.heap.size ≤ fgz (xG F) + n) (h2 : hsl T.heap ≤ fgs (xG F) + n) (hz : fgz (xG F) ≤ (xs F).heap.size ∧ fgs (xG F) ≤ hsl (xs F).heap) :
    ∃ k m, xS F T locs k m ∧ k + (xs F).heap.size ≤ fgz (xG F) + n ∧ m + hsl (xs F).heap ≤ fgs (xG F) + n := by
  have e2 : hsl T.heap = hsl (xs F).heap + ((T.heap.toList.drop (xs F).heap.size).map (fun c => c.slots.size)).sum := hsl_new (t := T.setVm (xs F).vm) X.same
  obtain ⟨s1, s2, s3, s4, s5, s6⟩ := X.same
  have s2' : (xs F).heap.size ≤ T.heap.size := s2
  refine ⟨T.heap.size - (xs F).heap.size, ((T.heap.toList.drop (xs F).heap.size).map (fun c => c.slots.size)).sum, { X with same := ⟨s1, s2, ?_, s4, Nat.le_refl _, s6⟩ }, ?_, ?_⟩
  · show T.heap.size ≤ _
    omega
  · omega
  · omega
theorem fH.fresh {G : fG} {S : fMS} {n : Nat} {s : State} {H H1 : Heap} {q k N : Nat} {e : va_E} (h : fH G S n s H) (he : cellOf G (wN S q k N) q = e) {n' : Nat} (hn : n' ≤ 30000)
    (hP : va_P (fgD G) vwCl (va_pl (sL S) (cellOf G S) ++ [(q, e)]) H1) (hD : va_D (fgA G) (va_pl (sL S) (cellOf G S) ++ [(q, e)])) {locs0 locs : List Loc} {H0 : Heap} (hS0 : va_S (fgA G) H0 H locs0) (hS : va_S (fgA G) H0 H1 locs) (hz : fgz G ≤ H0.size) : q ∉ sL S ∧ q ≠ sE S ∧ fH G (wN S q k N) n' s H1 := by
  have hq : q ∉ sL S := va_pl_fresh2 (X := []) hD
  have hqA : fgA G q := hD.2 (va_pl (sL S) (cellOf G S)).length (q, e) (by simp)
  obtain ⟨-, -, h3, h4, h5, h6⟩ := h
  have hqE : q ≠ sE S := fun c => by
    obtain ⟨cell, -, -, -, -, -, -, hA⟩ := h4.2.1
    exact hA (c ▸ hqA)
  have e1 : va_pl (sL S) (cellOf G S) ++ [(q, e)] = va_pl (sL (wN S q k N)) (cellOf G (wN S q k N)) := by
    rw [va_pl_push hq]
    exact va_pl_congr (new_up he)
  rw [e1] at hP hD
  refine ⟨hq, hqE, hP, hD, h3, ?_, ?_, hn⟩
  · exact fZ.kept h4 (H1 := H1) (fun b hb hA => by
      have hb0 : b < H0.size := Nat.lt_of_lt_of_le (Nat.not_le.mp hA) hz
      rw [hS.2.1 b hb0 hA, hS0.2.1 b hb0 hA])
  · show va_up S.2.2.1 q N (sE S) = 0
    rw [va_up_ne _ _ (fun c => hqE c.symm)]
    exact h5
def fdef (k i : Nat) : fAV := match kft k i with
  | 0 => aI 0
  | 1 => aJ 0
  | _ => aR none
theorem slot_new (S : fMS) (q k N i : Nat) : slotAV (wN S q k N) k q i = fdef k i := by
  unfold slotAV fdef
  split <;> simp [wN, sI, sJ, sR]
theorem cell_new {G : fG} {S : fMS} {q k : Nat} (hk : k < 11) : cellOf G (wN S q k 0) q = .inr (kc k, (List.range (kn k)).map (fun i => fv (fdef k i))) := by
  have h : sK (wN S q k 0) q = k := va_up_self _ _ _
  rw [cell_obj h hk]
  simp only [slot_new]
section
variable {F : fX} {S : fMS} {n pc : Nat} {l : List (Option fAV)} {st : List fAV} {cc : ByteArray} {own : String} {lv : Nat}
theorem fV_new (hF : fOk F cc own lv) {k index : Nat} {C : String} {T : u_T} {ty : Nat → FieldType} (hk : fKind k C T) (hty : ∀ j, j < kn k → parseFieldDescriptor (T j).2.2.1 = some (ty j)) (hdef : ∀ j, j < kn k → defaultValue (ty j) = fv (fdef k j)) (hlv : 1 ≤ lv) (hw1 : Cond.classLink own index C ∈ fBig) (hw2 : Cond.instantiable C (kn k) ∈ fBig) (hw3 : Cond.initialized C ∈ fBig) (hn : n + (kn k + 1) ≤ 30000) (hd : decode cc pc = .ok (.new index, 3))
    (kk : ∀ q : Nat, q ∉ sL S → q ≠ sE S → fV F (wN S q k 0) (n + (kn k + 1)) (pc + 3) l (aR (some q) :: st)) : fV F S n pc l st := by
  refine fV.of fun H locs cells slots ls hB hH hS hl => ?_
  have hz := hF.2.2.2.2.2.2.1
  have hc := hB.le hz
  have hR := hF.2.2.2.2.2.1
  refine va_new hF.1 hF.2.1 hF.2.2.2.2.1 hk.2.2 ty hty hF.2.2.2.1 (hF.2.2.2.2.1 _ hw1) (hF.2.2.2.2.1 _ hw2) (hF.2.2.2.2.1 _ hw3) hH.2.2.1 hH.1 hH.2.1 hS (fun q hq => Nat.le_trans hz.1 hq) hk.2.1 (fs := (List.range (kn k)).map (fun i => fv (fdef k i))) ?_ ?_ ?_ hd (fun q H1 hP1 hD1 hS1 => ?_)
  · intro j hj
    rw [hdef j hj]
    simp [vp_V, hj]
  · omega
  · omega
  · obtain ⟨h1, h2, h3⟩ := fH.fresh hH (cell_new hk.1) hn hP1 hD1 hS hS1 hz.1
    refine (kk q h1 h2).to ?_ h3 hS1 hl
    obtain ⟨b1, b2⟩ := hB
    exact ⟨by omega, by omega⟩
theorem fV_newI (hF : fOk F cc own lv) {x : Int32} {N : Nat} (hlv : 1 ≤ lv) (hw : Cond.arrayClass .int ∈ fBig) (hx : x = Int32.ofNat N) (hN : N ≤ 10000) (hn : n + (N + 1) ≤ 30000) (hd : decode cc pc = .ok (.newarray .int, 2)) (kk : ∀ q : Nat, q ∉ sL S → q ≠ sE S → fV F (wN S q 11 N) (n + (N + 1)) (pc + 2) l (aR (some q) :: st)) : fV F S n pc l (aI x :: st) := by
  refine fV.of fun H locs cells slots ls hB hH hS hl => ?_
  have hz := hF.2.2.2.2.2.2.1
  have hc := hB.le hz
  have hR := hF.2.2.2.2.2.1
  have hN2 : (nI N).toNatClampNeg = N := nI_clamp (by omega)
  refine va_newa (atype := .int) (ty := .int) (a0 := (N, .inl (fun _ => 0))) hF.1 hF.2.1 (hF.2.2.2.2.1 _ hw) rfl hH.2.2.1 hH.1 hH.2.1 hS (fun q hq => Nat.le_trans hz.1 hq) (fun cA => rfl) (by rw [hx]; exact nI_pos (by omega)) (by rw [hx]; exact hN2) (by show N * 4 ≤ 536870912; omega) ?_ ?_ hd (fun q cA H1 hK1 hP1 hD1 hS1 => ?_)
  · omega
  · omega
  · have hcA : cA = fgI (xG F) := by
      have r1 := (hK1.2 5 (cA, .int) rfl).2
      have r2 := (hK1.2 0 (fgI (xG F), .int) rfl).2
      exact Option.some.inj (r1.symm.trans r2)
    subst hcA
    have he : cellOf (xG F) (wN S q 11 N) q = .inl (fgI (xG F), (N, .inl (fun _ => 0))) := by
      rw [cell_I (S := wN S q 11 N) (a := q) (va_up_self _ _ _)]
      have e1 : sN (wN S q 11 N) q = N := va_up_self _ _ _
      have e2 : sI (wN S q 11 N) q = fun _ => 0 := by funext j; simp [wN, sI]
      rw [e1, e2]
    obtain ⟨h1, h2, h3⟩ := fH.fresh hH he hn hP1 hD1 hS hS1 hz.1
    refine (kk q h1 h2).to ?_ h3 hS1 hl
    obtain ⟨b1, b2⟩ := hB
    exact ⟨by omega, by omega⟩
theorem fV_newJ (hF : fOk F cc own lv) {x : Int32} {N : Nat} (hlv : 1 ≤ lv) (hw : Cond.arrayClass .long ∈ fBig) (hx : x = Int32.ofNat N) (hN : N ≤ 10000) (hn : n + (N + 1) ≤ 30000) (hd : decode cc pc = .ok (.newarray .long, 2)) (kk : ∀ q : Nat, q ∉ sL S → q ≠ sE S → fV F (wN S q 12 N) (n + (N + 1)) (pc + 2) l (aR (some q) :: st)) : fV F S n pc l (aI x :: st) := by
  refine fV.of fun H locs cells slots ls hB hH hS hl => ?_
  have hz := hF.2.2.2.2.2.2.1
  have hc := hB.le hz
  have hR := hF.2.2.2.2.2.1
  have hN2 : (nI N).toNatClampNeg = N := nI_clamp (by omega)
  refine va_newa (atype := .long) (ty := .long) (a0 := (N, .inr (.inl (fun _ => 0)))) hF.1 hF.2.1 (hF.2.2.2.2.1 _ hw) rfl hH.2.2.1 hH.1 hH.2.1 hS (fun q hq => Nat.le_trans hz.1 hq) (fun cA => rfl) (by rw [hx]; exact nI_pos (by omega)) (by rw [hx]; exact hN2) (by show N * 8 ≤ 536870912; omega) ?_ ?_ hd (fun q cA H1 hK1 hP1 hD1 hS1 => ?_)
  · omega
  · omega
  · have hcA : cA = fgJ (xG F) := by
      have r1 := (hK1.2 5 (cA, .long) rfl).2
      have r2 := (hK1.2 1 (fgJ (xG F), .long) rfl).2
      exact Option.some.inj (r1.symm.trans r2)
    subst hcA
    have he : cellOf (xG F) (wN S q 12 N) q = .inl (fgJ (xG F), (N, .inr (.inl (fun _ => 0)))) := by
      rw [cell_J (S := wN S q 12 N) (a := q) (va_up_self _ _ _)]
      have e1 : sN (wN S q 12 N) q = N := va_up_self _ _ _
      have e2 : sJ (wN S q 12 N) q = fun _ => 0 := by funext j; simp [wN, sJ]
      rw [e1, e2]
    obtain ⟨h1, h2, h3⟩ := fH.fresh hH he hn hP1 hD1 hS hS1 hz.1
    refine (kk q h1 h2).to ?_ h3 hS1 hl
    obtain ⟨b1, b2⟩ := hB
    exact ⟨by omega, by omega⟩
theorem fV_newZ (hF : fOk F cc own lv) {x : Int32} {N : Nat} (hlv : 1 ≤ lv) (hw : Cond.arrayClass .boolean ∈ fBig) (hx : x = Int32.ofNat N) (hN : N ≤ 10000) (hn : n + (N + 1) ≤ 30000) (hd : decode cc pc = .ok (.newarray .boolean, 2)) (kk : ∀ q : Nat, q ∉ sL S → q ≠ sE S → fV F (wN S q 13 N) (n + (N + 1)) (pc + 2) l (aR (some q) :: st)) : fV F S n pc l (aI x :: st) := by
  refine fV.of fun H locs cells slots ls hB hH hS hl => ?_
  have hz := hF.2.2.2.2.2.2.1
  have hc := hB.le hz
  have hR := hF.2.2.2.2.2.1
  have hN2 : (nI N).toNatClampNeg = N := nI_clamp (by omega)
  refine va_newa (atype := .boolean) (ty := .boolean) (a0 := (N, .inl (fun _ => 0))) hF.1 hF.2.1 (hF.2.2.2.2.1 _ hw) rfl hH.2.2.1 hH.1 hH.2.1 hS (fun q hq => Nat.le_trans hz.1 hq) (fun cA => rfl) (by rw [hx]; exact nI_pos (by omega)) (by rw [hx]; exact hN2) (by show N * 1 ≤ 536870912; omega) ?_ ?_ hd (fun q cA H1 hK1 hP1 hD1 hS1 => ?_)
  · omega
  · omega
  · have hcA : cA = fgZ (xG F) := by
      have r1 := (hK1.2 5 (cA, .boolean) rfl).2
      have r2 := (hK1.2 2 (fgZ (xG F), .boolean) rfl).2
      exact Option.some.inj (r1.symm.trans r2)
    subst hcA
    have he : cellOf (xG F) (wN S q 13 N) q = .inl (fgZ (xG F), (N, .inl (fun _ => 0))) := by
      rw [cell_Z (S := wN S q 13 N) (a := q) (va_up_self _ _ _)]
      have e1 : sN (wN S q 13 N) q = N := va_up_self _ _ _
      have e2 : sI (wN S q 13 N) q = fun _ => 0 := by funext j; simp [wN, sI]
      rw [e1, e2]
    obtain ⟨h1, h2, h3⟩ := fH.fresh hH he hn hP1 hD1 hS hS1 hz.1
    refine (kk q h1 h2).to ?_ h3 hS1 hl
    obtain ⟨b1, b2⟩ := hB
    exact ⟨by omega, by omega⟩
end
-- ===== contracts =====
def fHd (G : fG) (S : fMS) (n : Nat) (U : State) : Prop := fH G S n U U.heap ∧ (U.heap.size ≤ fgz G + n ∧ hsl U.heap ≤ fgs G + n) ∧ (fgz G ≤ U.heap.size ∧ fgs G ≤ hsl U.heap)
def fRoom (lv : Nat) : Room := { frames := 20 * lv, cells := 30000 * lv, slots := 30000 * lv, locals := 100 * lv }
def fPc (G : fG) (av : List fAV) (S : fMS) (n : Nat) : Array Value → State → Prop := va_Pc (av.map fv) (fun U => fHd G S n U ∧ fT U)
def fQc (G : fG) (post : Option fAV → fMS → Nat → Prop) : Array Value → State → Outcome → State → Prop := fun _ st o t => (∃ (r : Option fAV) (S' : fMS) (n' : Nat), o = .returned (r.map fv) ∧ post r S' n' ∧ fHd G S' n' t) ∧ va_F (fgA G) st t
def fXc (G : fG) (postX : String → fMS → Nat → Prop) : String → State → State → Prop := fun E st t => (∃ (S' : fMS) (n' : Nat), postX E S' n' ∧ fHd G S' n' t) ∧ va_F (fgA G) st t
/-- a method that returns; one that returns or throws -/
def fCM (l : Launch) (y : MethodName) (w0 : Cond) (lv : Nat) (G : fG) (av : List fAV) (S : fMS) (n : Nat) (post : Option fAV → fMS → Nat → Prop) : Prop := Met l y (w0 :: fBig) (fRoom lv) (fPc G av S n) (fQc G post) (30000 * lv) (30000 * lv) (fgA G)
def fCX (l : Launch) (y : MethodName) (w0 : Cond) (lv : Nat) (G : fG) (av : List fAV) (S : fMS) (n : Nat) (post : Option fAV → fMS → Nat → Prop) (postX : String → fMS → Nat → Prop) : Prop := vx_Met l y (w0 :: fBig) (fRoom lv) (fPc G av S n) (fQc G post) (fXc G postX) (30000 * lv) (30000 * lv) (fgA G)
theorem fPc.blind {G : fG} {av : List fAV} {S : fMS} {n : Nat} : FrameBlind (fPc G av S n) := by
  rintro a U g mk ⟨h1, ⟨h2, h3, h4⟩, h5⟩
  exact ⟨h1, ⟨fH.moved (u := U) (U := U.calling g mk a) (Vm.Alike.refl U.vm) h2, h3, h4⟩, fT.warm (s := U) (U := U.calling g mk a) (State.WarmedH.refl U) h5⟩
theorem fgood {own : String} {idx : Nat} {C : String} {y : MethodName} {w0 : Cond} (h0 : w0 ∈ fBig) (h1 : Cond.methodLink own idx y ∈ fBig) (h2 : Cond.instanceMethod y ∈ fBig) (h3 : Cond.selects C y y ∈ fBig) (h4 : Cond.initialized C ∈ fBig) : GoodIn fBig (wsV own idx C y (w0 :: fBig)) := by
  intro w hw
  unfold wsV at hw
  refine fbig_good w ?_
  simp only [List.mem_append, List.mem_cons, List.not_mem_nil, or_false] at hw
  rcases hw with (h | h | h | h) | h | h
  · rw [h]; exact h1
  · rw [h]; exact h2
  · rw [h]; exact h3
  · rw [h]; exact h4
  · rw [h]; exact h0
  · exact h
theorem fgoodS {own : String} {idx : Nat} {y : MethodName} {w0 : Cond} (h0 : w0 ∈ fBig) (h1 : Cond.methodLink own idx y ∈ fBig) (h2 : Cond.static y ∈ fBig) (h4 : Cond.initialized own ∈ fBig) : GoodIn fBig (wsS own idx y (w0 :: fBig)) := by
  intro w hw
  unfold wsS at hw
  refine fbig_good w ?_
  simp only [List.mem_append, List.mem_cons, List.not_mem_nil, or_false] at hw
  rcases hw with (h | h | h) | h | h
  · rw [h]; exact h1
  · rw [h]; exact h2
  · rw [h]; exact h4
  · rw [h]; exact h0
  · exact h
theorem fgoodSa {own : String} {idx : Nat} {y : MethodName} {w0 : Cond} (h0 : w0 ∈ fBig) (h1 : Cond.methodLink own idx y ∈ fBig) (h2 : Cond.static y ∈ fBig) (h4 : Cond.initialized y.cls ∈ fBig) : GoodIn fBig (va_wsS own idx y (w0 :: fBig)) := by
  intro w hw
  unfold va_wsS at hw
  refine fbig_good w ?_
  simp only [List.mem_append, List.mem_cons, List.not_mem_nil, or_false] at hw
  rcases hw with (h | h | h) | h | h
  · rw [h]; exact h1
  · rw [h]; exact h2
  · rw [h]; exact h4
  · rw [h]; exact h0
  · exact h
theorem fgood0 {w0 : Cond} (h0 : w0 ∈ fBig) : GoodIn fBig (w0 :: fBig) := by
  intro w hw
  refine fbig_good w ?_
  rcases List.mem_cons.mp hw with h | h
  · rw [h]; exact h0
  · exact h
section
variable {F : fX} {S : fMS} {n pc : Nat} {l : List (Option fAV)} {st stk : List fAV} {cc : ByteArray} {own : String} {lv : Nat}
theorem fHd.call {T : State} {locs : List Loc} {cells slots : Nat} (hF : fOk F cc own lv) (X : xS F T locs cells slots) (hB : fBd F n cells slots) (hH : fH (xG F) S n (xs F) T.heap) (hS : va_S (fgA (xG F)) (xs F).heap T.heap locs) : ∀ U : State, U.heap = T.heap → (xs F).WarmedH U.vm → fHd (xG F) S n U ∧ fT U := by
  intro U hU hW
  obtain ⟨b1, b2, b3⟩ := hB.heap X
  have hz := hF.2.2.2.2.2.2.1
  refine ⟨⟨?_, ?_, ?_⟩, fT.warm hW hF.2.2.2.2.2.2.2.2.2⟩
  · rw [hU]; exact fH.moved hW.alike hH
  · rw [hU]; exact ⟨b1, b2⟩
  · rw [hU]; exact ⟨Nat.le_trans hz.1 hS.1, Nat.le_trans hz.2 b3⟩
theorem fV_ofRun {post : Option fAV → fMS → Nat → Prop} {lv' : Nat} {aa : Array Value} (hF : fOk F cc own lv)
    (hr : ∀ (T : State) (locs : List Loc) (cells slots : Nat) (ls : Array Slot), xS F T locs cells slots → fBd F n cells slots → fH (xG F) S n (xs F) T.heap → va_S (fgA (xG F)) (xs F).heap T.heap locs → fok ls (xn F) l →
      va_Run (xp F) (xl F) (xe F) (xR F) (xs F) (xm F) (xa F) (xb F) (xM F) (xc F) T.heap locs cells slots (30000 * lv') (30000 * lv') (F0 (xm F) pc ls (stk.map fv)) (st.map fv) (fQc (xG F) post aa) (fgA (xG F)))
    (kk : ∀ (rv : Option fAV) (S' : fMS) (n' : Nat), post rv S' n' → fV F S' n' (pc + 3) l (rv.toList ++ st)) : fV F S n pc l stk := by
  intro T locs cells slots ls X hB hH hS hl
  obtain ⟨v, st0, t, T', L, h0, X', hL, e1, e2, ⟨⟨r, S', n', hv, hp, hd, ⟨d1, d2⟩, -⟩, hz1, hk1⟩, go⟩ := hr T locs cells slots ls X hB hH hS hl T rfl X
  cases hv
  rw [← e1] at d1 d2
  obtain ⟨k, m, X2, b1, b2⟩ := xS.tight X' d1 d2 hF.2.2.2.2.2.2.1
  have hH' : fH (xG F) S' n' (xs F) T'.heap := by
    rw [e1]
    exact fH.moved (by rw [← e2]; exact X'.warmed.alike.symm) hd
  have hS' : va_S (fgA (xG F)) (xs F).heap T'.heap (locs ++ L) := by
    refine ⟨?_, fun q h1 h2 => ?_, fun q hq => ?_⟩
    · rw [e1]; rw [h0] at hz1; exact Nat.le_trans hS.1 hz1
    · rw [e1, hk1 q (by rw [h0]; exact Nat.lt_of_lt_of_le h1 hS.1) h2, h0]
      exact hS.2.1 q h1 h2
    · rcases List.mem_append.mp hq with h | h
      · exact hS.2.2 q h
      · exact hL q h
  obtain ⟨t2, a1, q1⟩ := kk r S' n' hp T' (locs ++ L) k m ls X2 ⟨b1, b2⟩ hH' hS' hl
  refine ⟨t2, go t2 ?_, q1⟩
  have e3 : (r.toList ++ st).map fv = (r.map fv).toList ++ st.map fv := by cases r <;> rfl
  rw [e3] at a1
  exact a1
theorem froom {cells slots lv' : Nat} (hF : fOk F cc own lv) (hB : fBd F n cells slots) (hn : n ≤ 30000) (hlv : lv' + 1 ≤ lv) : cells + 30000 * lv' ≤ (xR F).cells ∧ slots + 30000 * lv' ≤ (xR F).slots := by
  have hc := hB.le hF.2.2.2.2.2.2.1
  have hR := hF.2.2.2.2.2.1
  omega
theorem froom2 {lv' maxL : Nat} (hF : fOk F cc own lv) (hlv : lv' + 1 ≤ lv) (hm : maxL ≤ 60) : (fRoom lv').frames + 1 ≤ (xR F).frames ∧ 8 + (maxL + 11) + (fRoom lv').locals ≤ (xR F).locals := by
  have hR := hF.2.2.2.2.2.1
  show 20 * lv' + 1 ≤ _ ∧ 8 + (maxL + 11) + 100 * lv' ≤ _
  omega
theorem fcats : ∀ (st : List fAV), (st.map fv).map (fun v => v.category) = st.map fcat
  | [] => rfl
  | v :: st => by rw [List.map_cons, List.map_cons, List.map_cons, fcats st, fcat_ok]
/-- an object's own method, that returns -/
theorem fV_callV {k b index lv' maxL : Nat} {r : Option Nat} {C : String} {T : u_T} {y : MethodName} {bytes : ByteArray} {ret : Option FieldType} {As : List fAV} {post : Option fAV → fMS → Nat → Prop} (hF : fOk F cc own lv) (hM : fCM (xl F) y (.code y bytes maxL ret) lv' (xG F) (aR (some b) :: As) S n post)
    (hk : fKind k C T) (he : r = some b) (hA : isA S k b) (hlv : lv' + 1 ≤ lv) (h0 : Cond.code y bytes maxL ret ∈ fBig) (h1 : Cond.methodLink own index y ∈ fBig) (h2 : Cond.instanceMethod y ∈ fBig) (h3 : Cond.selects C y y ∈ fBig) (h4 : Cond.initialized C ∈ fBig)
    (hy : y.cls = C ∧ y.cls ≠ "java/lang/invoke/MethodHandle" ∧ y.cls ≠ "java/lang/invoke/VarHandle" ∧ (parseMethodDescriptor y.desc).map (fun d => d.parameters.length) = some As.length) (hmL : maxL ≤ 60) (hst : (st.map fcat).sum ≤ 8) (hd : decode cc pc = .ok (.invokevirtual index, 3)) (hstk : stk = As.reverse ++ aR r :: st)
    (kk : ∀ (rv : Option fAV) (S' : fMS) (n' : Nat), post rv S' n' → fV F S' n' (pc + 3) l (rv.toList ++ st)) : fV F S n pc l stk := by
  subst he
  refine fV_ofRun (lv' := lv') (aa := (Value.ref b :: As.map fv).toArray) hF (fun T locs cells slots ls X hB hH hS hl => ?_) kk
  obtain ⟨q0, hq⟩ := hH.at hA.1
  obtain ⟨rr, hr, cell, c1, c2, c3, -⟩ := hH.1 q0 _ (hq.trans (congrArg (fun e => some (b, e)) (cell_obj hA.2 hk.1)))
  obtain ⟨-, hfc, -⟩ := hH.2.2.1.1 _ _ hk.2.1
  refine va_runV (As := As.map fv) (rest := st.map fv) ⟨hF.1, hF.2.1, hF.2.2.1, hF.2.2.2.1, hF.2.2.2.2.1⟩ hM (cwV As.length hF.2.2.2.2.1 (fgood h0 h1 h2 h3 h4) rfl rfl rfl hy (froom2 hF hlv hmL)) ⟨fPc.blind, ⟨cell, c1, by rw [c3]; rfl, by rw [c2]; exact hfc⟩, fun U hU hW => ⟨rfl, fHd.call hF X hB hH hS U hU hW⟩⟩ rfl (by simp) hl.1 ?_ ?_ hd (froom hF hB hH.2.2.2.2.2 hlv)
  · show stk.map fv = _
    rw [hstk]
    simp [fv, aR, va_rf]
  · show 2 * 0 + _ ≤ 8
    rw [fcats]; omega
/-- a static method, that returns -/
theorem fV_callS {index lv' maxL : Nat} {y : MethodName} {bytes : ByteArray} {ret : Option FieldType} {As : List fAV} {post : Option fAV → fMS → Nat → Prop} (hF : fOk F cc own lv) (hM : fCM (xl F) y (.code y bytes maxL ret) lv' (xG F) As S n post)
    (hlv : lv' + 1 ≤ lv) (h0 : Cond.code y bytes maxL ret ∈ fBig) (h1 : Cond.methodLink own index y ∈ fBig) (h2 : Cond.static y ∈ fBig) (h4 : Cond.initialized y.cls ∈ fBig)
    (hy : y.cls ≠ "java/lang/invoke/MethodHandle" ∧ y.cls ≠ "java/lang/invoke/VarHandle" ∧ (parseMethodDescriptor y.desc).map (fun d => d.parameters.length) = some As.length) (hmL : maxL ≤ 60) (hst : (st.map fcat).sum ≤ 8) (hd : decode cc pc = .ok (.invokestatic index, 3)) (hstk : stk = As.reverse ++ st)
    (kk : ∀ (rv : Option fAV) (S' : fMS) (n' : Nat), post rv S' n' → fV F S' n' (pc + 3) l (rv.toList ++ st)) : fV F S n pc l stk := by
  refine fV_ofRun (lv' := lv') (aa := (As.map fv).toArray) hF (fun T locs cells slots ls X hB hH hS hl => ?_) kk
  refine va_runS (As := As.map fv) (rest := st.map fv) ⟨hF.1, hF.2.1, hF.2.2.1, hF.2.2.2.1, hF.2.2.2.2.1⟩ hM ⟨callB_of As.length hF.2.2.2.2.1 (fgood0 h0) rfl rfl rfl (hF.2.2.2.2.1 _ h4) (hF.2.2.2.2.1 _ h1) hy (froom2 hF hlv hmL), hF.2.2.2.2.1 _ h2⟩ ⟨fPc.blind, fun U hU hW => ⟨rfl, fHd.call hF X hB hH hS U hU hW⟩⟩ rfl (by simp) hl.1 ?_ ?_ hd (froom hF hB hH.2.2.2.2.2 hlv)
  · show stk.map fv = _
    rw [hstk]
    simp
  · show 2 * 0 + _ ≤ 8
    rw [fcats]; omega
/-- a constructor -/
theorem fV_callI {b index lv' maxL : Nat} {r : Option Nat} {y : MethodName} {bytes : ByteArray} {As : List fAV} {post : Option fAV → fMS → Nat → Prop} (hF : fOk F cc own lv) (hM : fCM (xl F) y (.code y bytes maxL none) lv' (xG F) (aR (some b) :: As) S n post)
    (he : r = some b) (hlv : lv' + 1 ≤ lv) (h0 : Cond.code y bytes maxL none ∈ fBig) (h1 : Cond.methodLink own index y ∈ fBig) (h2 : Cond.instanceMethod y ∈ fBig) (h4 : Cond.initialized y.cls ∈ fBig)
    (hy : y.cls ≠ "java/lang/invoke/MethodHandle" ∧ y.cls ≠ "java/lang/invoke/VarHandle" ∧ (parseMethodDescriptor y.desc).map (fun d => d.parameters.length) = some As.length) (hyn : y.name = "<init>") (hmL : maxL ≤ 60) (hst : (st.map fcat).sum ≤ 8) (hd : decode cc pc = .ok (.invokespecial index, 3)) (hstk : stk = As.reverse ++ aR r :: st)
    (kk : ∀ (rv : Option fAV) (S' : fMS) (n' : Nat), post rv S' n' → fV F S' n' (pc + 3) l (rv.toList ++ st)) : fV F S n pc l stk := by
  subst he
  refine fV_ofRun (lv' := lv') (aa := (Value.ref b :: As.map fv).toArray) hF (fun T locs cells slots ls X hB hH hS hl => ?_) kk
  refine va_runI (As := As.map fv) (rest := st.map fv) ⟨hF.1, hF.2.1, hF.2.2.1, hF.2.2.2.1, hF.2.2.2.2.1⟩ hM ⟨callB_of As.length hF.2.2.2.2.1 (fgood0 h0) rfl rfl rfl (hF.2.2.2.2.1 _ h4) (hF.2.2.2.2.1 _ h1) hy (froom2 hF hlv hmL), hyn, hF.2.2.2.2.1 _ h2⟩ ⟨fPc.blind, fun U hU hW => ⟨rfl, fHd.call hF X hB hH hS U hU hW⟩⟩ rfl (by simp) hl.1 ?_ ?_ hd (froom hF hB hH.2.2.2.2.2 hlv)
  · show stk.map fv = _
    rw [hstk]
    simp [fv, aR, va_rf]
  · show 2 * 0 + _ ≤ 8
    rw [fcats]; omega
end
section
variable {F : fX} {S : fMS} {n pc : Nat} {l : List (Option fAV)} {st stk : List fAV} {cc : ByteArray} {own : String} {lv : Nat} {post : Option fAV → fMS → Nat → Prop}
theorem fV_min (hF : fOk F cc own lv) {x y : Int32} {index : Nat} (hlv : 1 ≤ lv) (hs : (st.map fcat).sum ≤ 8) (hw : Cond.methodLink own index Lib.Math.min.name ∈ fBig) (hd : decode cc pc = .ok (.invokestatic index, 3)) (kk : fV F S n (pc + 3) l (aI (if y < x then y else x) :: st)) : fV F S n pc l (aI y :: aI x :: st) := by
  refine fV.of fun H locs cells slots ls hB hH hS hl => ?_
  have hz := hF.2.2.2.2.2.2.1
  have hR := hF.2.2.2.2.2.1
  have hc := hB.le hz
  have hn := hH.2.2.2.2.2
  refine va_mmin hF.1 hF.2.1 (hF.2.2.1.trans hl.1.symm) hF.2.2.2.1 (hF.2.2.2.2.1 _ hw) (hF.2.2.2.2.1 _ fw_minS) (hF.2.2.2.2.1 _ fw_mathI) (hF.2.2.2.2.1 _ fw_minC) ?_ ?_ ?_ ?_ hd (kk.to hB hH hS hl)
  · have hR := hF.2.2.2.2.2.1; omega
  · rw [fcats]; omega
  · omega
  · omega
theorem fV_max (hF : fOk F cc own lv) {x y : Int32} {index : Nat} (hlv : 1 ≤ lv) (hs : (st.map fcat).sum ≤ 8) (hw : Cond.methodLink own index Lib.Math.max.name ∈ fBig) (hd : decode cc pc = .ok (.invokestatic index, 3)) (kk : fV F S n (pc + 3) l (aI (if x < y then y else x) :: st)) : fV F S n pc l (aI y :: aI x :: st) := by
  refine fV.of fun H locs cells slots ls hB hH hS hl => ?_
  have hz := hF.2.2.2.2.2.2.1
  have hR := hF.2.2.2.2.2.1
  have hc := hB.le hz
  have hn := hH.2.2.2.2.2
  refine va_mmax hF.1 hF.2.1 (hF.2.2.1.trans hl.1.symm) hF.2.2.2.1 (hF.2.2.2.2.1 _ hw) (hF.2.2.2.2.1 _ fw_maxS) (hF.2.2.2.2.1 _ fw_mathI) (hF.2.2.2.2.1 _ fw_maxC) ?_ ?_ ?_ ?_ hd (kk.to hB hH hS hl)
  · have hR := hF.2.2.2.2.2.1; omega
  · rw [fcats]; omega
  · omega
  · omega
end
-- ===== from a contract's start to its walk; ends =====
def fentry : List fAV → Nat → List (Option fAV)
  | [], m => List.replicate m none
  | v :: vs, m => some v :: fentry vs (m - 1)
theorem fentry_mem : ∀ (vs : List fAV) (m i : Nat), (∀ v ∈ vs, fcat v = 1) → ∀ q ∈ fls i (fentry vs m), q ∈ lv_args i (vs.map fv)
  | [], m, i, _, q, h => by
    exfalso
    obtain ⟨j, v, h1, -⟩ := (fls_mem _ i q).mp h
    simp [fentry, List.getElem?_replicate] at h1
  | v :: vs, m, i, hc, q, h => by
    rw [fentry, fls] at h
    have hv : (fv v).category = 1 := (fcat_ok v).trans (hc v List.mem_cons_self)
    have e : lv_args i ((v :: vs).map fv) = (i, fv v) :: lv_args (i + 1) (vs.map fv) := by
      rw [List.map_cons, lv_args, hv]
      first | rfl | simp
    rw [e]
    rcases List.mem_cons.mp h with h | h
    · rw [h]; exact List.mem_cons_self
    · exact List.mem_cons_of_mem _ (fentry_mem vs (m - 1) (i + 1) (fun w hw => hc w (List.mem_cons_of_mem _ hw)) q h)
theorem flg_len : ∀ (av : List fAV), (∀ v ∈ av, fcat v = 1) → (lg_sl (av.map fv)).length = av.length
  | [], _ => rfl
  | v :: av, h => by
    have hv : (fv v).category = 1 := (fcat_ok v).trans (h v List.mem_cons_self)
    have ih := flg_len av (fun w hw => h w (List.mem_cons_of_mem _ hw))
    unfold lg_sl at ih ⊢
    rw [List.map_cons, List.flatMap_cons, List.length_append, ih, hv]
    simp
    omega
/-- the answers by their kinds -/
def fPI (post : Int32 → fMS → Nat → Prop) : Option fAV → fMS → Nat → Prop := fun rv S n => ∃ x, rv = some (aI x) ∧ post x S n
def fPJ (post : Int64 → fMS → Nat → Prop) : Option fAV → fMS → Nat → Prop := fun rv S n => ∃ x, rv = some (aJ x) ∧ post x S n
def fPD (post : UInt64 → fMS → Nat → Prop) : Option fAV → fMS → Nat → Prop := fun rv S n => ∃ x, rv = some (aD x) ∧ post x S n
def fPF (post : UInt32 → fMS → Nat → Prop) : Option fAV → fMS → Nat → Prop := fun rv S n => ∃ x, rv = some (aF x) ∧ post x S n
def fPR (post : Option Nat → fMS → Nat → Prop) : Option fAV → fMS → Nat → Prop := fun rv S n => ∃ x, rv = some (aR x) ∧ post x S n
def fPV (post : fMS → Nat → Prop) : Option fAV → fMS → Nat → Prop := fun rv S n => rv = none ∧ post S n
/-- the end of a method that returns, of one that may throw -/
def fEnd (F : fX) (lv : Nat) (post : Option fAV → fMS → Nat → Prop) : Prop := xQ F = MQ (xb F) (fQc (xG F) post) (xa F) (xs F) (30000 * lv) (30000 * lv) (fgA (xG F))
def fEndX (F : fX) (lv : Nat) (post : Option fAV → fMS → Nat → Prop) (postX : String → fMS → Nat → Prop) : Prop := xQ F = vx_MQ (xb F) (fQc (xG F) post) (fXc (xG F) postX) (xa F) (xs F) (30000 * lv) (30000 * lv) (fgA (xG F))
/-- either -/
def fEnds (F : fX) (lv : Nat) (post : Option fAV → fMS → Nat → Prop) : Prop := ∀ (H : Heap) (locs : List Loc) (cells slots : Nat) (g : JFrame), W (xp F) (xl F) (xe F) (xR F) (xs F) (xm F) (xa F) (xb F) (xM F) (xc F) H locs cells slots (MQ (xb F) (fQc (xG F) post) (xa F) (xs F) (30000 * lv) (30000 * lv) (fgA (xG F))) g → xW F H locs cells slots g
theorem fEnd.s {F : fX} {lv : Nat} {post : Option fAV → fMS → Nat → Prop} (h : fEnd F lv post) : fEnds F lv post := fun H locs cells slots g k => by
  unfold xW
  rw [show xQ F = _ from h]
  exact k
theorem fEndX.s {F : fX} {lv : Nat} {post : Option fAV → fMS → Nat → Prop} {postX : String → fMS → Nat → Prop} (h : fEndX F lv post postX) : fEnds F lv post := fun H locs cells slots g k => by
  unfold xW
  rw [show xQ F = _ from h]
  exact vx_ret k
theorem fCM_of {l : Launch} {y : MethodName} {cc : ByteArray} {maxL : Nat} {ret : Option FieldType} {lv : Nat} {G : fG} {av : List fAV} {S : fMS} {n : Nat} {post : Option fAV → fMS → Nat → Prop} (hfl : l.stackTraces = false) (hy : plainName y.cls = true) (hc1 : ∀ v ∈ av, fcat v = 1) (hlen : av.length ≤ maxL)
    (body : ∀ F : fX, fOk F cc y.cls lv → xn F = maxL → xl F = l → xG F = G → (xM F).sig.returnType = ret → (xM F).name = y.name → fEnd F lv post → fV F S n 0 (fentry av maxL) []) : fCM l y (.code y cc maxL ret) lv G av S n post := by
  refine Met.ofW (cc := cc) (maxL := maxL) (ret := ret) hy rfl ?_
  intro p e s m args below meth c s1 B hml hv
  obtain ⟨rfl, ⟨hH, hbd, hz⟩, hT⟩ := hv
  have hts : ∀ w ∈ Cond.code y cc maxL ret :: fBig, w.before (av.map fv).toArray s = true := atoms_spec (ws := Cond.code y cc maxL ret :: fBig) B.pre
  have k := body ((p, l, e, fRoom lv, s, m, (av.map fv).toArray, below, meth, c), MQ below (fQc G post) (av.map fv).toArray s (30000 * lv) (30000 * lv) (fgA G), maxL, G)
    ⟨B.exec, B.bytes, hml, findClass_of_methodNamed B.named, fun w hw => hts w (List.mem_cons_of_mem _ hw), ⟨Nat.le_refl _, Nat.le_refl _, Nat.le_refl _, Nat.le_refl _⟩, hz, B.notSynchronized, hfl, hT⟩ rfl rfl rfl B.returns (name_of_methodNamed B.named B.method).1 rfl
  have hl := lv_entry (av.map fv) (n := maxL) (by rw [flg_len av hc1]; exact hlen)
  rw [lg_entry_eq]
  have hl2 : fok ((lg_sl (av.map fv) ++ List.replicate (maxL - (lg_sl (av.map fv)).length) Slot.unset).toArray) maxL (fentry av maxL) := ⟨hl.1, hl.2.1, fun q hq => hl.2.2 q (fentry_mem av maxL 0 hc1 q hq)⟩
  exact k.to (F := ((p, l, e, fRoom lv, s, m, (av.map fv).toArray, below, meth, c), MQ below (fQc G post) (av.map fv).toArray s (30000 * lv) (30000 * lv) (fgA G), maxL, G)) ⟨by show 0 + s.heap.size ≤ fgz G + n; omega, by show 0 + hsl s.heap ≤ fgs G + n; omega⟩ hH va_S.rf hl2
theorem fCX_of {l : Launch} {y : MethodName} {cc : ByteArray} {maxL : Nat} {ret : Option FieldType} {lv : Nat} {G : fG} {av : List fAV} {S : fMS} {n : Nat} {post : Option fAV → fMS → Nat → Prop} {postX : String → fMS → Nat → Prop} (hfl : l.stackTraces = false) (hy : plainName y.cls = true) (hc1 : ∀ v ∈ av, fcat v = 1) (hlen : av.length ≤ maxL)
    (body : ∀ F : fX, fOk F cc y.cls lv → xn F = maxL → xl F = l → xG F = G → (xM F).sig.returnType = ret → (xM F).name = y.name → (∀ x ∈ (xc F).exceptionTable.toList, False) → fEndX F lv post postX → fV F S n 0 (fentry av maxL) []) : fCX l y (.code y cc maxL ret) lv G av S n post postX := by
  refine vx_ofW (cc := cc) (maxL := maxL) (ret := ret) hy rfl ?_
  intro p e s m args below meth c s1 B hml hex hv
  obtain ⟨rfl, ⟨hH, hbd, hz⟩, hT⟩ := hv
  have hts : ∀ w ∈ Cond.code y cc maxL ret :: fBig, w.before (av.map fv).toArray s = true := atoms_spec (ws := Cond.code y cc maxL ret :: fBig) B.pre
  have k := body ((p, l, e, fRoom lv, s, m, (av.map fv).toArray, below, meth, c), vx_MQ below (fQc G post) (fXc G postX) (av.map fv).toArray s (30000 * lv) (30000 * lv) (fgA G), maxL, G)
    ⟨B.exec, B.bytes, hml, findClass_of_methodNamed B.named, fun w hw => hts w (List.mem_cons_of_mem _ hw), ⟨Nat.le_refl _, Nat.le_refl _, Nat.le_refl _, Nat.le_refl _⟩, hz, B.notSynchronized, hfl, hT⟩ rfl rfl rfl B.returns (name_of_methodNamed B.named B.method).1 hex rfl
  have hl := lv_entry (av.map fv) (n := maxL) (by rw [flg_len av hc1]; exact hlen)
  rw [lg_entry_eq]
  have hl2 : fok ((lg_sl (av.map fv) ++ List.replicate (maxL - (lg_sl (av.map fv)).length) Slot.unset).toArray) maxL (fentry av maxL) := ⟨hl.1, hl.2.1, fun q hq => hl.2.2 q (fentry_mem av maxL 0 hc1 q hq)⟩
  exact k.to (F := ((p, l, e, fRoom lv, s, m, (av.map fv).toArray, below, meth, c), vx_MQ below (fQc G post) (fXc G postX) (av.map fv).toArray s (30000 * lv) (30000 * lv) (fgA G), maxL, G)) ⟨by show 0 + s.heap.size ≤ fgz G + n; omega, by show 0 + hsl s.heap ≤ fgs G + n; omega⟩ hH va_S.rf hl2
section
variable {F : fX} {S : fMS} {n pc : Nat} {l : List (Option fAV)} {st stk : List fAV} {cc : ByteArray} {own : String} {lv : Nat} {post : Option fAV → fMS → Nat → Prop}
/-- what a return owes: the answer, the world, the frame -/
theorem fQc.mk {T : State} {locs : List Loc} {cells slots : Nat} {r : Option fAV} (hF : fOk F cc own lv) (X : xS F T locs cells slots) (hB : fBd F n cells slots) (hH : fH (xG F) S n (xs F) T.heap) (hS : va_S (fgA (xG F)) (xs F).heap T.heap locs) (hp : post r S n) : ∀ t : State, t.heap = T.heap → (xs F).WarmedH t.vm → fQc (xG F) post (xa F) (xs F) (.returned (r.map fv)) t :=
  fun t ht hW => ⟨⟨r, S, n, rfl, hp, (fHd.call hF X hB hH hS t ht hW).1⟩, hS.F ht⟩
theorem fV_iret (hF : fOk F cc own lv) (hE : fEnds F lv post) {x : Int32} {ty : FieldType} (hlv : 1 ≤ lv) (hr : (xM F).sig.returnType = some ty) (hn : narrow ty (.int x) = .int x) (hd : decode cc pc = .ok (.ireturn, 1)) (hp : post (some (aI x)) S n) : fV F S n pc l [aI x] := by
  intro T locs cells slots ls X hB hH hS hl
  have hc := hB.le hF.2.2.2.2.2.2.1
  have hn3 := hH.2.2.2.2.2
  refine hE T.heap locs cells slots _ ?_ T rfl X
  refine W.widen (k := 30000 * lv) (n := 30000 * lv) (by omega) (by omega) ?_
  exact W.zret hF.1 hF.2.1 hr hn (fQc.mk (r := some (aI x)) hF X hB hH hS hp) hS.2.2 hd hF.2.2.2.2.2.2.2.1
theorem fV_vret (hF : fOk F cc own lv) (hE : fEnds F lv post) (hlv : 1 ≤ lv) (hr : (xM F).sig.returnType = none) (hd : decode cc pc = .ok (.return_, 1)) (hp : post none S n) : fV F S n pc l [] := by
  intro T locs cells slots ls X hB hH hS hl
  have hc := hB.le hF.2.2.2.2.2.2.1
  have hn3 := hH.2.2.2.2.2
  refine hE T.heap locs cells slots _ ?_ T rfl X
  refine W.widen (k := 30000 * lv) (n := 30000 * lv) (by omega) (by omega) ?_
  exact W.vret hF.1 hF.2.1 hr (fQc.mk (r := none) hF X hB hH hS hp) hS.2.2 hd hF.2.2.2.2.2.2.2.1
theorem fV_aret (hF : fOk F cc own lv) (hE : fEnds F lv post) {r : Option Nat} {ty : FieldType} (hlv : 1 ≤ lv) (hr : (xM F).sig.returnType = some ty) (hrt : (∃ n, ty = .object n) ∨ ∃ t, ty = .array t) (hd : decode cc pc = .ok (.areturn, 1)) (hp : post (some (aR r)) S n) : fV F S n pc l [aR r] := by
  intro T locs cells slots ls X hB hH hS hl
  have hc := hB.le hF.2.2.2.2.2.2.1
  have hn3 := hH.2.2.2.2.2
  refine hE T.heap locs cells slots _ ?_ T rfl X
  refine W.widen (k := 30000 * lv) (n := 30000 * lv) (by omega) (by omega) ?_
  refine W.aret (v := va_rf r) hF.1 hF.2.1 hr hrt ?_ (fQc.mk (r := some (aR r)) hF X hB hH hS hp) hS.2.2 hd hF.2.2.2.2.2.2.2.1
  cases r with
  | none => exact Or.inl rfl
  | some a => exact Or.inr ⟨a, rfl⟩
theorem fV_lret (hF : fOk F cc own lv) (hE : fEnds F lv post) {x : Int64} (hlv : 1 ≤ lv) (hr : (xM F).sig.returnType = some .long) (hd : decode cc pc = .ok (.lreturn, 1)) (hp : post (some (aJ x)) S n) : fV F S n pc l [aJ x] := by
  intro T locs cells slots ls X hB hH hS hl
  have hc := hB.le hF.2.2.2.2.2.2.1
  have hn3 := hH.2.2.2.2.2
  refine hE T.heap locs cells slots _ ?_ T rfl X
  refine W.widen (k := 30000 * lv) (n := 30000 * lv) (by omega) (by omega) ?_
  exact W.lret hF.1 hF.2.1 hr (fQc.mk (r := some (aJ x)) hF X hB hH hS hp) hS.2.2 hd hF.2.2.2.2.2.2.2.1
theorem fV_dret (hF : fOk F cc own lv) (hE : fEnds F lv post) {x : UInt64} (hlv : 1 ≤ lv) (hr : (xM F).sig.returnType = some .double) (hd : decode cc pc = .ok (.dreturn, 1)) (hp : post (some (aD x)) S n) : fV F S n pc l [aD x] := by
  intro T locs cells slots ls X hB hH hS hl
  have hc := hB.le hF.2.2.2.2.2.2.1
  have hn3 := hH.2.2.2.2.2
  refine hE T.heap locs cells slots _ ?_ T rfl X
  refine W.widen (k := 30000 * lv) (n := 30000 * lv) (by omega) (by omega) ?_
  exact W.dret hF.1 hF.2.1 hr (fQc.mk (r := some (aD x)) hF X hB hH hS hp) hS.2.2 hd hF.2.2.2.2.2.2.2.1
theorem fV_fret (hF : fOk F cc own lv) (hE : fEnds F lv post) {x : UInt32} (hlv : 1 ≤ lv) (hr : (xM F).sig.returnType = some .float) (hd : decode cc pc = .ok (.freturn, 1)) (hp : post (some (aF x)) S n) : fV F S n pc l [aF x] := by
  intro T locs cells slots ls X hB hH hS hl
  have hc := hB.le hF.2.2.2.2.2.2.1
  have hn3 := hH.2.2.2.2.2
  refine hE T.heap locs cells slots _ ?_ T rfl X
  refine W.widen (k := 30000 * lv) (n := 30000 * lv) (by omega) (by omega) ?_
  exact W.fret hF.1 hF.2.1 hr (fQc.mk (r := some (aF x)) hF X hB hH hS hp) hS.2.2 hd hF.2.2.2.2.2.2.2.1
theorem fV_obj (hF : fOk F cc own lv) {b : Nat} {r : Option Nat} {idx : Nat} (he : r = some b) (hlv : 1 ≤ lv) (h1 : Cond.methodLink own idx Lib.objectInit ∈ fBig) (hst : (st.map fcat).sum ≤ 8) (hd : decode cc pc = .ok (.invokespecial idx, 3)) (kk : fV F S n (pc + 3) l st) : fV F S n pc l (aR r :: st) := by
  subst he
  refine fV.of fun H locs cells slots ls hB hH hS hl => ?_
  refine W.objInit (g := F0 (xm F) pc ls ((aR (some b) :: st).map fv)) (a := b) (rest := st.map fv) hF.1 hF.2.1 hF.2.2.2.1 (hF.2.2.2.2.1 _ h1) (hF.2.2.2.2.1 _ fw_objI) (hF.2.2.2.2.1 _ fw_objC) rfl (hl.1.trans hF.2.2.1.symm) rfl hd ?_ ?_ ?_
  · have hR := hF.2.2.2.2.2.1; omega
  · have hR := hF.2.2.2.2.2.1; rw [fcats]; show 2 * 0 + _ + 12 ≤ _; omega
  · exact kk.to hB hH hS hl
end
theorem fDef1 : ∀ j, j < kn 1 → defaultValue (tyX0 j) = fv (fdef 1 j) := by
  intro j hj
  have hj : j < 8 := hj
  rcases (show j = 0 ∨ j = 1 ∨ j = 2 ∨ j = 3 ∨ j = 4 ∨ j = 5 ∨ j = 6 ∨ j = 7 by omega) with rfl | rfl | rfl | rfl | rfl | rfl | rfl | rfl <;> rfl
theorem fDef2 : ∀ j, j < kn 2 → defaultValue (tyX1 j) = fv (fdef 2 j) := by
  intro j hj
  have hj : j < 4 := hj
  rcases (show j = 0 ∨ j = 1 ∨ j = 2 ∨ j = 3 by omega) with rfl | rfl | rfl | rfl <;> rfl
theorem fDef3 : ∀ j, j < kn 3 → defaultValue (tyX2 j) = fv (fdef 3 j) := by
  intro j hj
  have hj : j < 14 := hj
  rcases (show j = 0 ∨ j = 1 ∨ j = 2 ∨ j = 3 ∨ j = 4 ∨ j = 5 ∨ j = 6 ∨ j = 7 ∨ j = 8 ∨ j = 9 ∨ j = 10 ∨ j = 11 ∨ j = 12 ∨ j = 13 by omega) with rfl | rfl | rfl | rfl | rfl | rfl | rfl | rfl | rfl | rfl | rfl | rfl | rfl | rfl <;> rfl
theorem fDef4 : ∀ j, j < kn 4 → defaultValue (tyX3 j) = fv (fdef 4 j) := by
  intro j hj
  have hj : j < 11 := hj
  rcases (show j = 0 ∨ j = 1 ∨ j = 2 ∨ j = 3 ∨ j = 4 ∨ j = 5 ∨ j = 6 ∨ j = 7 ∨ j = 8 ∨ j = 9 ∨ j = 10 by omega) with rfl | rfl | rfl | rfl | rfl | rfl | rfl | rfl | rfl | rfl | rfl <;> rfl
theorem fDef5 : ∀ j, j < kn 5 → defaultValue (tyX4 j) = fv (fdef 5 j) := by
  intro j hj
  have hj : j < 33 := hj
  rcases (show j = 0 ∨ j = 1 ∨ j = 2 ∨ j = 3 ∨ j = 4 ∨ j = 5 ∨ j = 6 ∨ j = 7 ∨ j = 8 ∨ j = 9 ∨ j = 10 ∨ j = 11 ∨ j = 12 ∨ j = 13 ∨ j = 14 ∨ j = 15 ∨ j = 16 ∨ j = 17 ∨ j = 18 ∨ j = 19 ∨ j = 20 ∨ j = 21 ∨ j = 22 ∨ j = 23 ∨ j = 24 ∨ j = 25 ∨ j = 26 ∨ j = 27 ∨ j = 28 ∨ j = 29 ∨ j = 30 ∨ j = 31 ∨ j = 32 by omega) with rfl | rfl | rfl | rfl | rfl | rfl | rfl | rfl | rfl | rfl | rfl | rfl | rfl | rfl | rfl | rfl | rfl | rfl | rfl | rfl | rfl | rfl | rfl | rfl | rfl | rfl | rfl | rfl | rfl | rfl | rfl | rfl | rfl <;> rfl
theorem fDef6 : ∀ j, j < kn 6 → defaultValue (tyJx4a65c j) = fv (fdef 6 j) := by
  intro j hj
  have hj : j < 3 := hj
  rcases (show j = 0 ∨ j = 1 ∨ j = 2 by omega) with rfl | rfl | rfl <;> rfl
-- ===== rows of objects, doubles; the statics; copies; throws; calls that may throw =====
section
variable {F : fX} {S : fMS} {n pc : Nat} {l : List (Option fAV)} {st stk : List fAV} {cc : ByteArray} {own : String} {lv : Nat}
theorem fV_newD (hF : fOk F cc own lv) {x : Int32} {N : Nat} (hlv : 1 ≤ lv) (hw : Cond.arrayClass .double ∈ fBig) (hx : x = Int32.ofNat N) (hN : N ≤ 10000) (hn : n + (N + 1) ≤ 30000) (hd : decode cc pc = .ok (.newarray .double, 2)) (kk : ∀ q : Nat, q ∉ sL S → q ≠ sE S → fV F (wN S q 15 N) (n + (N + 1)) (pc + 2) l (aR (some q) :: st)) : fV F S n pc l (aI x :: st) := by
  refine fV.of fun H locs cells slots ls hB hH hS hl => ?_
  have hz := hF.2.2.2.2.2.2.1
  have hc := hB.le hz
  have hR := hF.2.2.2.2.2.1
  have hN2 : (nI N).toNatClampNeg = N := nI_clamp (by omega)
  refine va_newa (atype := .double) (ty := .double) (a0 := (N, .inr (.inr (.inr (.inl (fun _ => 0)))))) hF.1 hF.2.1 (hF.2.2.2.2.1 _ hw) rfl hH.2.2.1 hH.1 hH.2.1 hS (fun q hq => Nat.le_trans hz.1 hq) (fun cA => rfl) (by rw [hx]; exact nI_pos (by omega)) (by rw [hx]; exact hN2) (by show N * 8 ≤ 536870912; omega) ?_ ?_ hd (fun q cA H1 hK1 hP1 hD1 hS1 => ?_)
  · omega
  · omega
  · have hcA : cA = fgDD (xG F) := by
      have r1 := (hK1.2 5 (cA, .double) rfl).2
      have r2 := (hK1.2 4 (fgDD (xG F), .double) rfl).2
      exact Option.some.inj (r1.symm.trans r2)
    subst hcA
    have he : cellOf (xG F) (wN S q 15 N) q = .inl (fgDD (xG F), (N, .inr (.inr (.inr (.inl (fun _ => 0)))))) := by
      rw [cell_D (S := wN S q 15 N) (a := q) (va_up_self _ _ _)]
      have e1 : sN (wN S q 15 N) q = N := va_up_self _ _ _
      have e2 : (fun i => (sJ (wN S q 15 N) q i).toUInt64) = fun _ => 0 := by funext j; simp [wN, sJ]; rfl
      rw [e1, e2]
    obtain ⟨h1, h2, h3⟩ := fH.fresh hH he hn hP1 hD1 hS hS1 hz.1
    refine (kk q h1 h2).to ?_ h3 hS1 hl
    obtain ⟨b1, b2⟩ := hB
    exact ⟨by omega, by omega⟩
theorem fV_newO (hF : fOk F cc own lv) {x : Int32} {N index : Nat} (hlv : 1 ≤ lv) (hw : Cond.classLink own index "java/lang/Object" ∈ fBig) (hx : x = Int32.ofNat N) (hN : N ≤ 10000) (hn : n + (N + 1) ≤ 30000) (hd : decode cc pc = .ok (.anewarray index, 3)) (kk : ∀ q : Nat, q ∉ sL S → q ≠ sE S → fV F (wN S q 14 N) (n + (N + 1)) (pc + 3) l (aR (some q) :: st)) : fV F S n pc l (aI x :: st) := by
  refine fV.of fun H locs cells slots ls hB hH hS hl => ?_
  have hz := hF.2.2.2.2.2.2.1
  have hc := hB.le hz
  have hR := hF.2.2.2.2.2.1
  have hN2 : (nI N).toNatClampNeg = N := nI_clamp (by omega)
  refine va_newq hF.1 hF.2.1 hF.2.2.2.1 (hF.2.2.2.2.1 _ hw) hF.2.2.2.2.2.2.2.2.2.2.1 hH.2.2.1 hH.1 hH.2.1 hS (fun q hq => Nat.le_trans hz.1 hq) (by rw [hx]; exact nI_pos (by omega)) (N' := N) (by rw [hx]; exact hN2) (by omega) ?_ ?_ hd (fun q cA H1 hK1 hP1 hD1 hS1 => ?_)
  · omega
  · omega
  · have hcA : cA = fgO (xG F) := by
      have r1 := (hK1.2 5 (cA, .object "java/lang/Object") rfl).2
      have r2 := (hK1.2 3 (fgO (xG F), .object "java/lang/Object") rfl).2
      obtain ⟨_, _, -, -, -, q1⟩ := r1
      obtain ⟨_, _, -, -, -, q2⟩ := r2
      exact Option.some.inj (q1.symm.trans q2)
    subst hcA
    have he : cellOf (xG F) (wN S q 14 N) q = .inl (fgO (xG F), (N, .inr (.inr (.inr (.inr (fun _ => none)))))) := by
      rw [cell_O (S := wN S q 14 N) (a := q) (va_up_self _ _ _)]
      have e1 : sN (wN S q 14 N) q = N := va_up_self _ _ _
      have e2 : sR (wN S q 14 N) q = fun _ => none := by funext j; simp [wN, sR]
      rw [e1, e2]
    obtain ⟨h1, h2, h3⟩ := fH.fresh hH he hn hP1 hD1 hS hS1 hz.1
    refine (kk q h1 h2).to ?_ h3 hS1 hl
    obtain ⟨b1, b2⟩ := hB
    exact ⟨by omega, by omega⟩
theorem fZ.start {H : Heap} {locs : List Loc} (hF : fOk F cc own lv) (hH : fH (xG F) S n (xs F) H) (hS : va_S (fgA (xG F)) (xs F).heap H locs) : fZ (xG F) S (xs F) (xs F).heap :=
  fZ.kept hH.2.2.2.1 (fun b _ hA => (hS.2.1 b (Nat.lt_of_lt_of_le (Nat.not_le.mp hA) hF.2.2.2.2.2.2.1.1) hA).symm)
theorem fV_getE (hF : fOk F cc own lv) {index : Nat} (hw : Cond.fieldLink own index "java/util/ArrayList" "DEFAULTCAPACITY_EMPTY_ELEMENTDATA" "[Ljava/lang/Object;" ∈ fBig) (hd : decode cc pc = .ok (.getstatic index, 3)) (kk : fV F S n (pc + 3) l (aR (some (sE S)) :: st)) : fV F S n pc l st := by
  refine fV.of fun H locs cells slots ls hB hH hS hl => ?_
  exact va_gets hF.1 hF.2.1 (fZ.start hF hH hS).1 hS hF.2.2.2.1 (hF.2.2.2.2.1 _ hw) (fun _ h => h) hd (kk.to hB hH hS hl)
theorem fV_ldcM (hF : fOk F cc own lv) {index : Nat} (hw : Cond.classLink own index "[Ljava/lang/Object;" ∈ fBig) (hd : decode cc pc = .ok (.ldc index, 2)) (kk : fV F S n (pc + 2) l (aR (some (sM S)) :: st)) : fV F S n pc l st := by
  refine fV.of fun H locs cells slots ls hB hH hS hl => ?_
  exact va_ldcM hF.1 hF.2.1 hF.2.2.2.1 (hF.2.2.2.2.1 _ hw) hH.2.2.2.1.2.2.1 hd (kk.to hB hH hS hl)
theorem fV_getClass (hF : fOk F cc own lv) {a index : Nat} {r : Option Nat} (he : r = some a) (hA : isA S 14 a) (hlv : 1 ≤ lv) (hst : (st.map fcat).sum ≤ 8) (hw : Cond.methodLink own index ⟨"java/lang/Object", "getClass", "()Ljava/lang/Class;"⟩ ∈ fBig) (hd : decode cc pc = .ok (.invokevirtual index, 3)) (kk : fV F S n (pc + 3) l (aR (some (sM S)) :: st)) : fV F S n pc l (aR r :: st) := by
  subst he
  refine fV.of fun H locs cells slots ls hB hH hS hl => ?_
  have hR := hF.2.2.2.2.2.1
  obtain ⟨q0, hq⟩ := hH.at hA.1
  have hcell := hH.1 q0 _ (hq.trans (congrArg (fun e => some (a, e)) (cell_O hA.2)))
  obtain ⟨_, _, -, -, -, q2⟩ := (hH.2.2.1.2 3 (fgO (xG F), .object "java/lang/Object") rfl).2
  refine va_getC hF.1 hF.2.1 (hF.2.2.1.trans hl.1.symm) hF.2.2.2.1 (hF.2.2.2.2.1 _ hw) (va_tabs rfl rfl hF.2.2.2.2.2.2.2.2.2.2.2.2.2) (hF.2.2.2.2.1 _ fw_gcS) (hF.2.2.2.2.1 _ fw_gcI) (hF.2.2.2.2.1 _ fw_gcN) hH.2.2.2.1.2.2.1 ⟨_, hcell, rfl, q2⟩ (by omega) (by rw [fcats]; omega) hd (kk.to hB hH hS hl)
theorem fV_copy (hF : fOk F cc own lv) {a0 a1 index : Nat} {r0 r1 : Option Nat} {sp dp m : Int32} (he0 : r0 = some a0) (hA0 : isA S 14 a0) (he1 : r1 = some a1) (hA1 : isA S 14 a1) (hc : ¬ sp < 0 ∧ ¬ dp < 0 ∧ ¬ m < 0 ∧ sp.toNatClampNeg + m.toNatClampNeg ≤ sN S a0 ∧ dp.toNatClampNeg + m.toNatClampNeg ≤ sN S a1 ∧ ∀ i : Nat, i < m.toNatClampNeg → fEl S (sR S a0 (sp.toNatClampNeg + i)))
    (hlv : 1 ≤ lv) (hst : (st.map fcat).sum ≤ 8) (hw : Cond.methodLink own index arraycopyName ∈ fBig) (hd : decode cc pc = .ok (.invokestatic index, 3)) (kk : fV F (wC S a0 sp.toNatClampNeg a1 dp.toNatClampNeg m.toNatClampNeg) n (pc + 3) l st) : fV F S n pc l (aI m :: aI dp :: aR r1 :: aI sp :: aR r0 :: st) := by
  subst he0 he1
  refine fV.of fun H locs cells slots ls hB hH hS hl => ?_
  have hR := hF.2.2.2.2.2.1
  obtain ⟨h1, h2, h3, h4, h5, hel⟩ := hc
  obtain ⟨q0, hq0⟩ := hH.at hA0.1
  obtain ⟨q1, hq1⟩ := hH.at hA1.1
  refine va_copyM hF.1 hF.2.1 (hF.2.2.1.trans hl.1.symm) hF.2.2.2.1 (hF.2.2.2.2.1 _ hw) (hF.2.2.2.2.1 _ fw_acN) (hF.2.2.2.2.1 _ fw_acS) (hF.2.2.2.2.1 _ fw_acI) hH.2.2.1 hH.1 hH.2.1 hS q0 q1 3 3 (hq0.trans (congrArg (fun e => some (a0, e)) (cell_O hA0.2))) (hq1.trans (congrArg (fun e => some (a1, e)) (cell_O hA1.2))) rfl rfl h1 h2 h3 h4 h5 ?_ (by omega) ?_ hd (fun H1 locs1 hP1 hD1 hS1 => ?_)
  · intro i hi y hy
    rcases hel i hi with e | ⟨b, e, hb⟩
    · rw [e] at hy; cases hy
    · rw [e] at hy; cases hy; exact fEl.any hF.2.2.2.2.2.2.2.2.2 hH hb
  · rw [fcats]
    have hwd : nativeFrameWords "java/lang/System" "arraycopy" 5 + 11 ≤ 80 := by decide
    omega
  · exact kk.to hB (fH.put (s0 := xs F) hH hA1.1 hq1 (putA_C hA1.2) rfl rfl rfl rfl hP1 hD1 hS hS1 hF.2.2.2.2.2.2.1.1) hS1 hl
/-- a method throws: the exception is new -/
theorem fV_throw {post : Option fAV → fMS → Nat → Prop} {postX : String → fMS → Nat → Prop} (hF : fOk F cc own lv) (hE : fEndX F lv post postX) (hex : ∀ x ∈ (xc F).exceptionTable.toList, False) {cls text : String} {ik is ic : Nat} (hn : n + 7 ≤ 30000) (hp : postX cls S (n + 7)) (hlv : 1 ≤ lv) (hst : (st.map fcat).sum ≤ 8) (hown : own = RX3)
    (hk : Cond.classLink own ik cls ∈ fBig) (hini : Cond.initialized cls ∈ fBig) (hfit : Bundle.fit cls = true) (hat : ∀ w ∈ vx_atS own ic cls ["java/lang/RuntimeException", "java/lang/Exception"], w ∈ fBig ∨ ((w = .castable cls cls) ∧ (cls, cls) ∈ fCast)) (hstr : (is, text) ∈ fStrs)
    (d0 : decode cc pc = .ok (.new ik, 3)) (d3 : decode cc (pc + 3) = .ok (.dup, 1)) (d4 : decode cc (pc + 4) = .ok (.ldc is, 2)) (d6 : decode cc (pc + 6) = .ok (.invokespecial ic, 3)) (d9 : decode cc (pc + 9) = .ok (.athrow, 1)) : fV F S n pc l st := by
  subst hown
  intro T locs cells slots ls X hB hH hS hl
  have hz := hF.2.2.2.2.2.2.1
  have hc := hB.le hz
  have hR := hF.2.2.2.2.2.1
  have hT := hF.2.2.2.2.2.2.2.2.2
  have hZs := fZ.start hF hH hS
  obtain ⟨sa, hsa⟩ := hT.1 _ hstr
  have hbh := hB.heap X
  have hgw : ∀ w ∈ fBig, goodWord w = true := fun w hw => (List.mem_filter.mp hw).2
  obtain ⟨t, a1, o, b1, b2, b3⟩ := vx_throwS (Qc := fQc (xG F) post) (XC := fun E _ t => E = cls ∧ T.heap.size ≤ t.heap.size ∧ (∀ q : Nat, q < T.heap.size → t.heap[q]? = T.heap[q]?) ∧ (xs F).vm.Alike t.vm) (mc := cells + 1) (ms := slots + 6) (free := fgA (xG F)) (rest := st.map fv) (text := text) (names := ["java/lang/RuntimeException", "java/lang/Exception"]) hF.1 hF.2.1 hF.2.2.2.2.2.2.2.2.1 hF.2.2.2.1 hfit (by decide) (hF.2.2.2.2.1 _ hk) (hF.2.2.2.2.1 _ hini) hsa
    (fun w hw => by
      rcases hat w hw with h | ⟨h, h2⟩
      · exact hF.2.2.2.2.1 _ h
      · rw [h]; exact va_tabs rfl rfl (hT.2.2.1 _ h2))
    (fun w hw => by
      have key : ∀ w ∈ fBig, vx_ot w = true := fun w h => by unfold vx_ot; rw [hgw w h]; simp
      rcases List.mem_cons.mp hw with h | hw
      · rw [h]; exact key _ hk
      rcases List.mem_cons.mp hw with h | hw
      · rw [h]; exact key _ hini
      rcases hat w hw with h | ⟨h, -⟩
      · exact key _ h
      · rw [h]; rfl)
    hZs.2.2.2.1 hZs.2.2.2.2 hS (hl.1.trans hF.2.2.1.symm) d0 d3 d4 d6 d9 (fun x hx => (hex x hx).elim) (by show 2 + 3 < _; omega) (by rw [fcats]; show _ + (13 * 3 + 43) ≤ _; omega) (by omega) (by omega) hF.2.2.2.2.2.2.2.1
    (fun t h1 h2 h3 => ⟨rfl, h2, h3, h1⟩) hS.2.2 (Nat.le_refl _) (Nat.le_refl _) T rfl X
  refine ⟨t, a1, ?_⟩
  have hQ : xQ F = _ := hE
  rw [hQ]
  refine ⟨o, b1, b2, ?_⟩
  rcases b3 with ⟨h1, L, h2, h3⟩ | ⟨q, h1, E, ce, L, ⟨hcl, hsz, hsame, hal⟩, h3, h4, h5, h6, h7, h8⟩
  · left
    obtain ⟨f1, f2, f3⟩ := h2
    exact ⟨h1, L, ⟨f1, f2, f3.mono (by omega) (by omega)⟩, h3⟩
  · right
    refine ⟨q, h1, E, ce, L, ?_, h3, h4, h5, h6, h7.mono (by omega) (by omega), h8⟩
    subst hcl
    have g1 : t.heap.size ≤ (xs F).heap.size + (cells + 1) := h7.2.2.1
    have g2 : hsl t.heap ≤ hsl (xs F).heap + (slots + 6) := by
      have e1 : hsl t.heap = hsl (xs F).heap + ((t.heap.toList.drop (xs F).heap.size).map (fun c => c.slots.size)).sum := hsl_new (t := { t with vm := (xs F).vm }) h7
      have e2 : ((t.heap.toList.drop (xs F).heap.size).map (fun c => c.slots.size)).sum ≤ slots + 6 := h7.2.2.2.2.1
      omega
    have g3 : hsl (xs F).heap ≤ hsl t.heap := by
      have e1 : hsl t.heap = hsl (xs F).heap + ((t.heap.toList.drop (xs F).heap.size).map (fun c => c.slots.size)).sum := hsl_new (t := { t with vm := (xs F).vm }) h7
      omega
    have hBB := hB
    obtain ⟨b1', b2'⟩ := hBB
    have hke : ∀ b : Nat, b < T.heap.size → ¬ fgA (xG F) b → t.heap[b]? = T.heap[b]? := fun b hb _ => hsame b hb
    refine ⟨⟨S, n + 7, hp, ?_, ⟨by omega, by omega⟩, ⟨?_, by omega⟩⟩, ?_⟩
    · refine fH.moved hal ⟨hH.1.kept (fun k q hk => hsame _ (hH.1 k q hk).lt), hH.2.1, hH.2.2.1, fZ.kept hH.2.2.2.1 hke, hH.2.2.2.2.1, hn⟩
    · exact Nat.le_trans hz.1 (Nat.le_trans hS.1 hsz)
    · refine ⟨Nat.le_trans hS.1 hsz, fun q hq hA => ?_⟩
      rw [hsame q (Nat.lt_of_lt_of_le hq hS.1)]
      exact hS.2.1 q hq hA
end
section
variable {F : fX} {S : fMS} {n pc : Nat} {l : List (Option fAV)} {st stk : List fAV} {cc : ByteArray} {own : String} {lv : Nat}
/-- what stands behind a throw: the frame with the rest of its stack, the exception on top -/
def fVX (F : fX) (S : fMS) (n pc : Nat) (l : List (Option fAV)) (st : List fAV) (E : String) (q : Nat) : Prop :=
  ∀ (T : State) (locs : List Loc) (cells slots : Nat) (ls : Array Slot) (ce : Cell), xS F T locs cells slots → fBd F n cells slots → fH (xG F) S n (xs F) T.heap → va_S (fgA (xG F)) (xs F).heap T.heap locs → fok ls (xn F) l → T.heap[q]? = some ce → ce.vm = .none → (xs F).vm.findClass E = some ce.cls →
    ∃ t, Steps (xp F).tables (xe F) (xb F) ((T.setTop (F0 (xm F) pc ls (st.map fv))).pushFrame (.throwing q)) t ∧ xQ F t
theorem fV_ofRunX {post : Option fAV → fMS → Nat → Prop} {postX : String → fMS → Nat → Prop} {lv' : Nat} {aa : Array Value} (hF : fOk F cc own lv)
    (hr : ∀ (T : State) (locs : List Loc) (cells slots : Nat) (ls : Array Slot), xS F T locs cells slots → fBd F n cells slots → fH (xG F) S n (xs F) T.heap → va_S (fgA (xG F)) (xs F).heap T.heap locs → fok ls (xn F) l →
      vx_Run (xp F) (xl F) (xe F) (xR F) (xs F) (xm F) (xa F) (xb F) (xM F) (xc F) T.heap locs cells slots (30000 * lv') (30000 * lv') (F0 (xm F) pc ls (stk.map fv)) (st.map fv) (fQc (xG F) post aa) (fXc (xG F) postX) (fgA (xG F)))
    (kx : ∀ (E : String) (S' : fMS) (n' q : Nat), postX E S' n' → fVX F S' n' pc l st E q)
    (kk : ∀ (rv : Option fAV) (S' : fMS) (n' : Nat), post rv S' n' → fV F S' n' (pc + 3) l (rv.toList ++ st)) : fV F S n pc l stk := by
  intro T locs cells slots ls X hB hH hS hl
  rcases hr T locs cells slots ls X hB hH hS hl T rfl X with ⟨v, st0, t, T', L, h0, X', hL, e1, e2, ⟨⟨r, S', n', hv, hp, hd, ⟨d1, d2⟩, -⟩, hz1, hk1⟩, go⟩ | ⟨q, st0, t, T', L, E, ce, h0, X', hL, e1, e2, ⟨⟨S', n', hp, hd, ⟨d1, d2⟩, -⟩, hz1, hk1⟩, c1, c2, c3, go⟩
  · cases hv
    rw [← e1] at d1 d2
    obtain ⟨k, m, X2, b1, b2⟩ := xS.tight X' d1 d2 hF.2.2.2.2.2.2.1
    have hH' : fH (xG F) S' n' (xs F) T'.heap := by
      rw [e1]
      exact fH.moved (by rw [← e2]; exact X'.warmed.alike.symm) hd
    have hS' : va_S (fgA (xG F)) (xs F).heap T'.heap (locs ++ L) := by
      refine ⟨?_, fun q h1 h2 => ?_, fun q hq => ?_⟩
      · rw [e1]; rw [h0] at hz1; exact Nat.le_trans hS.1 hz1
      · rw [e1, hk1 q (by rw [h0]; exact Nat.lt_of_lt_of_le h1 hS.1) h2, h0]
        exact hS.2.1 q h1 h2
      · rcases List.mem_append.mp hq with h | h
        · exact hS.2.2 q h
        · exact hL q h
    obtain ⟨t2, a1, q1⟩ := kk r S' n' hp T' (locs ++ L) k m ls X2 ⟨b1, b2⟩ hH' hS' hl
    refine ⟨t2, go t2 ?_, q1⟩
    have e3 : (r.toList ++ st).map fv = (r.map fv).toList ++ st.map fv := by cases r <;> rfl
    rw [e3] at a1
    exact a1
  · rw [← e1] at d1 d2
    obtain ⟨k, m, X2, b1, b2⟩ := xS.tight X' d1 d2 hF.2.2.2.2.2.2.1
    have hH' : fH (xG F) S' n' (xs F) T'.heap := by
      rw [e1]
      exact fH.moved (by rw [← e2]; exact X'.warmed.alike.symm) hd
    have hS' : va_S (fgA (xG F)) (xs F).heap T'.heap (locs ++ L) := by
      refine ⟨?_, fun q h1 h2 => ?_, fun q hq => ?_⟩
      · rw [e1]; rw [h0] at hz1; exact Nat.le_trans hS.1 hz1
      · rw [e1, hk1 q (by rw [h0]; exact Nat.lt_of_lt_of_le h1 hS.1) h2, h0]
        exact hS.2.1 q h1 h2
      · rcases List.mem_append.mp hq with h | h
        · exact hS.2.2 q h
        · exact hL q h
    obtain ⟨t2, a1, q1⟩ := kx E S' n' q hp T' (locs ++ L) k m ls ce X2 ⟨b1, b2⟩ hH' hS' hl (by rw [e1]; exact c1) c2 c3
    exact ⟨t2, Steps.trans go a1, q1⟩
/-- not caught: the method throws it on -/
theorem fVX_out {post : Option fAV → fMS → Nat → Prop} {postX : String → fMS → Nat → Prop} {E : String} {q : Nat} (hF : fOk F cc own lv) (hE : fEndX F lv post postX) (hex : ∀ x ∈ (xc F).exceptionTable.toList, False) (hlv : 1 ≤ lv) (hp : postX E S n) : fVX F S n pc l st E q := by
  intro T locs cells slots ls ce X hB hH hS hl c1 c2 c3
  have hc := hB.le hF.2.2.2.2.2.2.1
  have hn3 := hH.2.2.2.2.2
  have hbh := hB.heap X
  have hz := hF.2.2.2.2.2.2.1
  have hQ : xQ F = _ := hE
  rw [hQ]
  refine vx_out (H := T.heap) (E := E) (ce := ce) (fun x hx => (hex x hx).elim) hF.2.2.2.2.2.2.2.1 c1 c2 c3 (fun t ht hal => ⟨⟨S, n, hp, ?_, ?_, ?_⟩, hS.F ht⟩) hS.2.2 (by omega) (by omega) T rfl X
  · rw [ht]; exact fH.moved hal hH
  · rw [ht]; exact ⟨hbh.1, hbh.2.1⟩
  · rw [ht]; exact ⟨Nat.le_trans hz.1 hS.1, Nat.le_trans hz.2 hbh.2.2⟩
theorem fV_callVX {k b index lv' maxL : Nat} {r : Option Nat} {C : String} {T : u_T} {y : MethodName} {bytes : ByteArray} {ret : Option FieldType} {As : List fAV} {post post0 : Option fAV → fMS → Nat → Prop} {postX : String → fMS → Nat → Prop} (hF : fOk F cc own lv) (hM : fCX (xl F) y (.code y bytes maxL ret) lv' (xG F) (aR (some b) :: As) S n post postX) (hE : fEndX F lv post0 postX) (hex : ∀ x ∈ (xc F).exceptionTable.toList, False)
    (hk : fKind k C T) (he : r = some b) (hA : isA S k b) (hlv : lv' + 1 ≤ lv) (h0 : Cond.code y bytes maxL ret ∈ fBig) (h1 : Cond.methodLink own index y ∈ fBig) (h2 : Cond.instanceMethod y ∈ fBig) (h3 : Cond.selects C y y ∈ fBig) (h4 : Cond.initialized C ∈ fBig)
    (hy : y.cls = C ∧ y.cls ≠ "java/lang/invoke/MethodHandle" ∧ y.cls ≠ "java/lang/invoke/VarHandle" ∧ (parseMethodDescriptor y.desc).map (fun d => d.parameters.length) = some As.length) (hmL : maxL ≤ 60) (hst : (st.map fcat).sum ≤ 8) (hd : decode cc pc = .ok (.invokevirtual index, 3)) (hstk : stk = As.reverse ++ aR r :: st)
    (kk : ∀ (rv : Option fAV) (S' : fMS) (n' : Nat), post rv S' n' → fV F S' n' (pc + 3) l (rv.toList ++ st)) : fV F S n pc l stk := by
  subst he
  refine fV_ofRunX (lv' := lv') (postX := postX) (aa := (Value.ref b :: As.map fv).toArray) hF (fun T locs cells slots ls X hB hH hS hl => ?_) (fun E S' n' q hp => fVX_out hF hE hex (by omega) hp) kk
  obtain ⟨q0, hq⟩ := hH.at hA.1
  obtain ⟨rr, hr, cell, c1, c2, c3, -⟩ := hH.1 q0 _ (hq.trans (congrArg (fun e => some (b, e)) (cell_obj hA.2 hk.1)))
  obtain ⟨-, hfc, -⟩ := hH.2.2.1.1 _ _ hk.2.1
  refine vx_runV (As := As.map fv) (rest := st.map fv) ⟨hF.1, hF.2.1, hF.2.2.1, hF.2.2.2.1, hF.2.2.2.2.1⟩ hM (cwV As.length hF.2.2.2.2.1 (fgood h0 h1 h2 h3 h4) rfl rfl rfl hy (froom2 hF hlv hmL)) ⟨fPc.blind, ⟨cell, c1, by rw [c3]; rfl, by rw [c2]; exact hfc⟩, fun U hU hW => ⟨rfl, fHd.call hF X hB hH hS U hU hW⟩⟩ rfl (by simp) hl.1 ?_ ?_ hd (froom hF hB hH.2.2.2.2.2 hlv)
  · show stk.map fv = _
    rw [hstk]
    simp [fv, aR, va_rf]
  · show 2 * 0 + _ ≤ 8
    rw [fcats]; omega
theorem fV_callSX {index lv' maxL : Nat} {y : MethodName} {bytes : ByteArray} {ret : Option FieldType} {As : List fAV} {post post0 : Option fAV → fMS → Nat → Prop} {postX : String → fMS → Nat → Prop} (hF : fOk F cc own lv) (hM : fCX (xl F) y (.code y bytes maxL ret) lv' (xG F) As S n post postX) (hE : fEndX F lv post0 postX) (hex : ∀ x ∈ (xc F).exceptionTable.toList, False)
    (hlv : lv' + 1 ≤ lv) (h0 : Cond.code y bytes maxL ret ∈ fBig) (h1 : Cond.methodLink own index y ∈ fBig) (h2 : Cond.static y ∈ fBig) (h4 : Cond.initialized y.cls ∈ fBig)
    (hy : y.cls ≠ "java/lang/invoke/MethodHandle" ∧ y.cls ≠ "java/lang/invoke/VarHandle" ∧ (parseMethodDescriptor y.desc).map (fun d => d.parameters.length) = some As.length) (hmL : maxL ≤ 60) (hst : (st.map fcat).sum ≤ 8) (hd : decode cc pc = .ok (.invokestatic index, 3)) (hstk : stk = As.reverse ++ st)
    (kk : ∀ (rv : Option fAV) (S' : fMS) (n' : Nat), post rv S' n' → fV F S' n' (pc + 3) l (rv.toList ++ st)) : fV F S n pc l stk := by
  refine fV_ofRunX (lv' := lv') (postX := postX) (aa := (As.map fv).toArray) hF (fun T locs cells slots ls X hB hH hS hl => ?_) (fun E S' n' q hp => fVX_out hF hE hex (by omega) hp) kk
  refine vx_runS (As := As.map fv) (rest := st.map fv) ⟨hF.1, hF.2.1, hF.2.2.1, hF.2.2.2.1, hF.2.2.2.2.1⟩ hM ⟨callB_of As.length hF.2.2.2.2.1 (fgood0 h0) rfl rfl rfl (hF.2.2.2.2.1 _ h4) (hF.2.2.2.2.1 _ h1) hy (froom2 hF hlv hmL), hF.2.2.2.2.1 _ h2⟩ ⟨fPc.blind, fun U hU hW => ⟨rfl, fHd.call hF X hB hH hS U hU hW⟩⟩ rfl (by simp) hl.1 ?_ ?_ hd (froom hF hB hH.2.2.2.2.2 hlv)
  · show stk.map fv = _
    rw [hstk]
    simp
  · show 2 * 0 + _ ≤ 8
    rw [fcats]; omega
end
end
