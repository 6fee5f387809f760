-- ===== PART A: goes FIRST, ahead of the names: the tables' words, and 'selects' of the private methods out of them =====
/-- a private method of a class that the tables say can be made, by its rows of tables_1 -/
def lw_okq (q : MethodName × Nat) : Prop := (q.1.cls ≠ "java/lang/invoke/MethodHandle" ∧ q.1.cls ≠ "java/lang/invoke/VarHandle") ∧ Cond.instantiable q.1.cls q.2 ∈ tables_1 ∧ Cond.privateMethod q.1 ∈ tables_1 ∧ Cond.instanceMethod q.1 ∈ tables_1
theorem lw_p0 : lw_okq (⟨"LogCluster", "post", "(LLogCluster$Request;LLogCluster$Client;)I"⟩, 6) := ⟨⟨by decide +kernel, by decide +kernel⟩, List.mem_of_getElem? (i := 29) (by decide +kernel), List.mem_of_getElem? (i := 367) (by decide +kernel), List.mem_of_getElem? (i := 368) (by decide +kernel)⟩
theorem lw_p1 : lw_okq (⟨"LogCluster", "freePlace", "()I"⟩, 6) := ⟨⟨by decide +kernel, by decide +kernel⟩, List.mem_of_getElem? (i := 29) (by decide +kernel), List.mem_of_getElem? (i := 374) (by decide +kernel), List.mem_of_getElem? (i := 375) (by decide +kernel)⟩
theorem lw_p2 : lw_okq (⟨"LogCluster", "requestOf", "(II)LLogCluster$Request;"⟩, 6) := ⟨⟨by decide +kernel, by decide +kernel⟩, List.mem_of_getElem? (i := 29) (by decide +kernel), List.mem_of_getElem? (i := 412) (by decide +kernel), List.mem_of_getElem? (i := 413) (by decide +kernel)⟩
theorem lw_p3 : lw_okq (⟨"LogCluster", "messageAt", "(I)LLogCluster$Message;"⟩, 6) := ⟨⟨by decide +kernel, by decide +kernel⟩, List.mem_of_getElem? (i := 29) (by decide +kernel), List.mem_of_getElem? (i := 420) (by decide +kernel), List.mem_of_getElem? (i := 421) (by decide +kernel)⟩
theorem lw_p4 : lw_okq (⟨"LogCluster", "serve", "(LLogCluster$Server;LLogCluster$Message;)LLogCluster$Answer;"⟩, 6) := ⟨⟨by decide +kernel, by decide +kernel⟩, List.mem_of_getElem? (i := 29) (by decide +kernel), List.mem_of_getElem? (i := 428) (by decide +kernel), List.mem_of_getElem? (i := 429) (by decide +kernel)⟩
theorem lw_p5 : lw_okq (⟨"LogCluster", "readAt", "(LLogCluster$Server;I)LLogCluster$Answer;"⟩, 6) := ⟨⟨by decide +kernel, by decide +kernel⟩, List.mem_of_getElem? (i := 29) (by decide +kernel), List.mem_of_getElem? (i := 460) (by decide +kernel), List.mem_of_getElem? (i := 461) (by decide +kernel)⟩
theorem lw_p6 : lw_okq (⟨"LogCluster$Storage", "clean", "(LLogCluster$Server;)V"⟩, 12) := ⟨⟨by decide +kernel, by decide +kernel⟩, List.mem_of_getElem? (i := 37) (by decide +kernel), List.mem_of_getElem? (i := 486) (by decide +kernel), List.mem_of_getElem? (i := 487) (by decide +kernel)⟩
theorem lw_p7 : lw_okq (⟨"LogCluster$Survey", "begin", "()V"⟩, 6) := ⟨⟨by decide +kernel, by decide +kernel⟩, List.mem_of_getElem? (i := 52) (by decide +kernel), List.mem_of_getElem? (i := 494) (by decide +kernel), List.mem_of_getElem? (i := 495) (by decide +kernel)⟩
theorem lw_p8 : lw_okq (⟨"LogCluster$Survey", "learn", "(LLogCluster$Part;)V"⟩, 6) := ⟨⟨by decide +kernel, by decide +kernel⟩, List.mem_of_getElem? (i := 52) (by decide +kernel), List.mem_of_getElem? (i := 514) (by decide +kernel), List.mem_of_getElem? (i := 515) (by decide +kernel)⟩
theorem lw_p9 : lw_okq (⟨"LogCluster$Survey", "isLive", "(LLogCluster$Part;)Z"⟩, 6) := ⟨⟨by decide +kernel, by decide +kernel⟩, List.mem_of_getElem? (i := 52) (by decide +kernel), List.mem_of_getElem? (i := 518) (by decide +kernel), List.mem_of_getElem? (i := 519) (by decide +kernel)⟩
theorem lw_p10 : lw_okq (⟨"LogCluster$Storage", "sortForCleaning", "(LLogCluster$Log;)V"⟩, 12) := ⟨⟨by decide +kernel, by decide +kernel⟩, List.mem_of_getElem? (i := 37) (by decide +kernel), List.mem_of_getElem? (i := 522) (by decide +kernel), List.mem_of_getElem? (i := 523) (by decide +kernel)⟩
theorem lw_p11 : lw_okq (⟨"java/util/ArrayList", "rangeCheckForAdd", "(I)V"⟩, 3) := ⟨⟨by decide +kernel, by decide +kernel⟩, List.mem_of_getElem? (i := 85) (by decide +kernel), List.mem_of_getElem? (i := 536) (by decide +kernel), List.mem_of_getElem? (i := 537) (by decide +kernel)⟩
theorem lw_p12 : lw_okq (⟨"java/util/ArrayList", "grow", "()[Ljava/lang/Object;"⟩, 3) := ⟨⟨by decide +kernel, by decide +kernel⟩, List.mem_of_getElem? (i := 85) (by decide +kernel), List.mem_of_getElem? (i := 540) (by decide +kernel), List.mem_of_getElem? (i := 541) (by decide +kernel)⟩
theorem lw_p13 : lw_okq (⟨"java/util/ArrayList", "grow", "(I)[Ljava/lang/Object;"⟩, 3) := ⟨⟨by decide +kernel, by decide +kernel⟩, List.mem_of_getElem? (i := 85) (by decide +kernel), List.mem_of_getElem? (i := 544) (by decide +kernel), List.mem_of_getElem? (i := 545) (by decide +kernel)⟩
theorem lw_p14 : lw_okq (⟨"java/util/ArrayList", "fastRemove", "([Ljava/lang/Object;I)V"⟩, 3) := ⟨⟨by decide +kernel, by decide +kernel⟩, List.mem_of_getElem? (i := 85) (by decide +kernel), List.mem_of_getElem? (i := 602) (by decide +kernel), List.mem_of_getElem? (i := 603) (by decide +kernel)⟩
theorem lw_p15 : lw_okq (⟨"LogCluster$Storage", "endOfPacked", "(I)I"⟩, 12) := ⟨⟨by decide +kernel, by decide +kernel⟩, List.mem_of_getElem? (i := 37) (by decide +kernel), List.mem_of_getElem? (i := 606) (by decide +kernel), List.mem_of_getElem? (i := 607) (by decide +kernel)⟩
def lw_privs_1 : List (MethodName × Nat) := [(⟨"LogCluster", "post", "(LLogCluster$Request;LLogCluster$Client;)I"⟩, 6), (⟨"LogCluster", "freePlace", "()I"⟩, 6), (⟨"LogCluster", "requestOf", "(II)LLogCluster$Request;"⟩, 6), (⟨"LogCluster", "messageAt", "(I)LLogCluster$Message;"⟩, 6), (⟨"LogCluster", "serve", "(LLogCluster$Server;LLogCluster$Message;)LLogCluster$Answer;"⟩, 6), (⟨"LogCluster", "readAt", "(LLogCluster$Server;I)LLogCluster$Answer;"⟩, 6), (⟨"LogCluster$Storage", "clean", "(LLogCluster$Server;)V"⟩, 12), (⟨"LogCluster$Survey", "begin", "()V"⟩, 6), (⟨"LogCluster$Survey", "learn", "(LLogCluster$Part;)V"⟩, 6), (⟨"LogCluster$Survey", "isLive", "(LLogCluster$Part;)Z"⟩, 6), (⟨"LogCluster$Storage", "sortForCleaning", "(LLogCluster$Log;)V"⟩, 12), (⟨"java/util/ArrayList", "rangeCheckForAdd", "(I)V"⟩, 3), (⟨"java/util/ArrayList", "grow", "()[Ljava/lang/Object;"⟩, 3), (⟨"java/util/ArrayList", "grow", "(I)[Ljava/lang/Object;"⟩, 3), (⟨"java/util/ArrayList", "fastRemove", "([Ljava/lang/Object;I)V"⟩, 3), (⟨"LogCluster$Storage", "endOfPacked", "(I)I"⟩, 12)]
theorem lw_r1 : ∀ q ∈ lw_privs_1, lw_okq q := List.forall_mem_cons.mpr ⟨lw_p0, List.forall_mem_cons.mpr ⟨lw_p1, List.forall_mem_cons.mpr ⟨lw_p2, List.forall_mem_cons.mpr ⟨lw_p3, List.forall_mem_cons.mpr ⟨lw_p4, List.forall_mem_cons.mpr ⟨lw_p5, List.forall_mem_cons.mpr ⟨lw_p6, List.forall_mem_cons.mpr ⟨lw_p7, List.forall_mem_cons.mpr ⟨lw_p8, List.forall_mem_cons.mpr ⟨lw_p9, List.forall_mem_cons.mpr ⟨lw_p10, List.forall_mem_cons.mpr ⟨lw_p11, List.forall_mem_cons.mpr ⟨lw_p12, List.forall_mem_cons.mpr ⟨lw_p13, List.forall_mem_cons.mpr ⟨lw_p14, List.forall_mem_cons.mpr ⟨lw_p15, fun _ h => absurd h List.not_mem_nil⟩⟩⟩⟩⟩⟩⟩⟩⟩⟩⟩⟩⟩⟩⟩⟩
theorem lw_p16 : lw_okq (⟨"LogCluster$Storage", "newSegment", "(LLogCluster$Server;)LLogCluster$Segment;"⟩, 12) := ⟨⟨by decide +kernel, by decide +kernel⟩, List.mem_of_getElem? (i := 37) (by decide +kernel), List.mem_of_getElem? (i := 610) (by decide +kernel), List.mem_of_getElem? (i := 611) (by decide +kernel)⟩
theorem lw_p17 : lw_okq (⟨"LogCluster$Storage", "ringAt", "(ILLogCluster$Server;I)I"⟩, 12) := ⟨⟨by decide +kernel, by decide +kernel⟩, List.mem_of_getElem? (i := 37) (by decide +kernel), List.mem_of_getElem? (i := 682) (by decide +kernel), List.mem_of_getElem? (i := 683) (by decide +kernel)⟩
theorem lw_p18 : lw_okq (⟨"java/util/ArrayList", "add", "(Ljava/lang/Object;[Ljava/lang/Object;I)V"⟩, 3) := ⟨⟨by decide +kernel, by decide +kernel⟩, List.mem_of_getElem? (i := 85) (by decide +kernel), List.mem_of_getElem? (i := 705) (by decide +kernel), List.mem_of_getElem? (i := 706) (by decide +kernel)⟩
theorem lw_p19 : lw_okq (⟨"LogCluster", "changeAt", "(LLogCluster$Server;LLogCluster$Message;)LLogCluster$Answer;"⟩, 6) := ⟨⟨by decide +kernel, by decide +kernel⟩, List.mem_of_getElem? (i := 29) (by decide +kernel), List.mem_of_getElem? (i := 799) (by decide +kernel), List.mem_of_getElem? (i := 800) (by decide +kernel)⟩
theorem lw_p20 : lw_okq (⟨"LogCluster", "isServer", "(I)Z"⟩, 6) := ⟨⟨by decide +kernel, by decide +kernel⟩, List.mem_of_getElem? (i := 29) (by decide +kernel), List.mem_of_getElem? (i := 868) (by decide +kernel), List.mem_of_getElem? (i := 869) (by decide +kernel)⟩
theorem lw_p21 : lw_okq (⟨"LogCluster", "moved", "(III)Z"⟩, 6) := ⟨⟨by decide +kernel, by decide +kernel⟩, List.mem_of_getElem? (i := 29) (by decide +kernel), List.mem_of_getElem? (i := 876) (by decide +kernel), List.mem_of_getElem? (i := 877) (by decide +kernel)⟩
theorem lw_p22 : lw_okq (⟨"LogCluster$Storage", "spareFor", "(LLogCluster$Segment;LLogCluster$Server;)I"⟩, 12) := ⟨⟨by decide +kernel, by decide +kernel⟩, List.mem_of_getElem? (i := 37) (by decide +kernel), List.mem_of_getElem? (i := 911) (by decide +kernel), List.mem_of_getElem? (i := 912) (by decide +kernel)⟩
theorem lw_p23 : lw_okq (⟨"LogCluster$Coordinator", "declareDead", "(LLogCluster$Server;)V"⟩, 7) := ⟨⟨by decide +kernel, by decide +kernel⟩, List.mem_of_getElem? (i := 242) (by decide +kernel), List.mem_of_getElem? (i := 920) (by decide +kernel), List.mem_of_getElem? (i := 921) (by decide +kernel)⟩
theorem lw_p24 : lw_okq (⟨"LogCluster$Coordinator", "heirOfNext", "()LLogCluster$Server;"⟩, 7) := ⟨⟨by decide +kernel, by decide +kernel⟩, List.mem_of_getElem? (i := 242) (by decide +kernel), List.mem_of_getElem? (i := 944) (by decide +kernel), List.mem_of_getElem? (i := 945) (by decide +kernel)⟩
theorem lw_p25 : lw_okq (⟨"LogCluster$Coordinator", "takeOver", "(LLogCluster$Server;I)V"⟩, 7) := ⟨⟨by decide +kernel, by decide +kernel⟩, List.mem_of_getElem? (i := 242) (by decide +kernel), List.mem_of_getElem? (i := 948) (by decide +kernel), List.mem_of_getElem? (i := 949) (by decide +kernel)⟩
theorem lw_p26 : lw_okq (⟨"LogCluster$Coordinator", "gatherMoving", "(LLogCluster$Log;I)V"⟩, 7) := ⟨⟨by decide +kernel, by decide +kernel⟩, List.mem_of_getElem? (i := 242) (by decide +kernel), List.mem_of_getElem? (i := 953) (by decide +kernel), List.mem_of_getElem? (i := 954) (by decide +kernel)⟩
theorem lw_p27 : lw_okq (⟨"LogCluster", "unitsOf", "(LLogCluster$Log;I)I"⟩, 6) := ⟨⟨by decide +kernel, by decide +kernel⟩, List.mem_of_getElem? (i := 29) (by decide +kernel), List.mem_of_getElem? (i := 977) (by decide +kernel), List.mem_of_getElem? (i := 978) (by decide +kernel)⟩
theorem lw_p28 : lw_okq (⟨"LogCluster", "messagesInNet", "()I"⟩, 6) := ⟨⟨by decide +kernel, by decide +kernel⟩, List.mem_of_getElem? (i := 29) (by decide +kernel), List.mem_of_getElem? (i := 1004) (by decide +kernel), List.mem_of_getElem? (i := 1005) (by decide +kernel)⟩
theorem lw_p29 : lw_okq (⟨"java/lang/Throwable", "fillInStackTrace", "(I)Ljava/lang/Throwable;"⟩, 6) := ⟨⟨by decide +kernel, by decide +kernel⟩, List.mem_of_getElem? (i := 1056) (by decide +kernel), List.mem_of_getElem? (i := 1054) (by decide +kernel), List.mem_of_getElem? (i := 1055) (by decide +kernel)⟩
theorem lw_p30 : lw_okq (⟨"LogClusterModel", "free", "()I"⟩, 59) := ⟨⟨by decide +kernel, by decide +kernel⟩, List.mem_of_getElem? (i := 1087) (by decide +kernel), List.mem_of_getElem? (i := 1288) (by decide +kernel), List.mem_of_getElem? (i := 1289) (by decide +kernel)⟩
theorem lw_p31 : lw_okq (⟨"LogClusterModel", "goes", "(III)V"⟩, 59) := ⟨⟨by decide +kernel, by decide +kernel⟩, List.mem_of_getElem? (i := 1087) (by decide +kernel), List.mem_of_getElem? (i := 1292) (by decide +kernel), List.mem_of_getElem? (i := 1293) (by decide +kernel)⟩
def lw_privs_2 : List (MethodName × Nat) := [(⟨"LogCluster$Storage", "newSegment", "(LLogCluster$Server;)LLogCluster$Segment;"⟩, 12), (⟨"LogCluster$Storage", "ringAt", "(ILLogCluster$Server;I)I"⟩, 12), (⟨"java/util/ArrayList", "add", "(Ljava/lang/Object;[Ljava/lang/Object;I)V"⟩, 3), (⟨"LogCluster", "changeAt", "(LLogCluster$Server;LLogCluster$Message;)LLogCluster$Answer;"⟩, 6), (⟨"LogCluster", "isServer", "(I)Z"⟩, 6), (⟨"LogCluster", "moved", "(III)Z"⟩, 6), (⟨"LogCluster$Storage", "spareFor", "(LLogCluster$Segment;LLogCluster$Server;)I"⟩, 12), (⟨"LogCluster$Coordinator", "declareDead", "(LLogCluster$Server;)V"⟩, 7), (⟨"LogCluster$Coordinator", "heirOfNext", "()LLogCluster$Server;"⟩, 7), (⟨"LogCluster$Coordinator", "takeOver", "(LLogCluster$Server;I)V"⟩, 7), (⟨"LogCluster$Coordinator", "gatherMoving", "(LLogCluster$Log;I)V"⟩, 7), (⟨"LogCluster", "unitsOf", "(LLogCluster$Log;I)I"⟩, 6), (⟨"LogCluster", "messagesInNet", "()I"⟩, 6), (⟨"java/lang/Throwable", "fillInStackTrace", "(I)Ljava/lang/Throwable;"⟩, 6), (⟨"LogClusterModel", "free", "()I"⟩, 59), (⟨"LogClusterModel", "goes", "(III)V"⟩, 59)]
theorem lw_r2 : ∀ q ∈ lw_privs_2, lw_okq q := List.forall_mem_cons.mpr ⟨lw_p16, List.forall_mem_cons.mpr ⟨lw_p17, List.forall_mem_cons.mpr ⟨lw_p18, List.forall_mem_cons.mpr ⟨lw_p19, List.forall_mem_cons.mpr ⟨lw_p20, List.forall_mem_cons.mpr ⟨lw_p21, List.forall_mem_cons.mpr ⟨lw_p22, List.forall_mem_cons.mpr ⟨lw_p23, List.forall_mem_cons.mpr ⟨lw_p24, List.forall_mem_cons.mpr ⟨lw_p25, List.forall_mem_cons.mpr ⟨lw_p26, List.forall_mem_cons.mpr ⟨lw_p27, List.forall_mem_cons.mpr ⟨lw_p28, List.forall_mem_cons.mpr ⟨lw_p29, List.forall_mem_cons.mpr ⟨lw_p30, List.forall_mem_cons.mpr ⟨lw_p31, fun _ h => absurd h List.not_mem_nil⟩⟩⟩⟩⟩⟩⟩⟩⟩⟩⟩⟩⟩⟩⟩⟩
theorem lw_p32 : lw_okq (⟨"LogClusterModel", "ackedOf", "(I)I"⟩, 59) := ⟨⟨by decide +kernel, by decide +kernel⟩, List.mem_of_getElem? (i := 1087) (by decide +kernel), List.mem_of_getElem? (i := 1296) (by decide +kernel), List.mem_of_getElem? (i := 1297) (by decide +kernel)⟩
theorem lw_p33 : lw_okq (⟨"LogClusterModel", "isMessage", "(I)Z"⟩, 59) := ⟨⟨by decide +kernel, by decide +kernel⟩, List.mem_of_getElem? (i := 1087) (by decide +kernel), List.mem_of_getElem? (i := 1308) (by decide +kernel), List.mem_of_getElem? (i := 1309) (by decide +kernel)⟩
theorem lw_p34 : lw_okq (⟨"LogClusterModel", "arrives", "(I)I"⟩, 59) := ⟨⟨by decide +kernel, by decide +kernel⟩, List.mem_of_getElem? (i := 1087) (by decide +kernel), List.mem_of_getElem? (i := 1312) (by decide +kernel), List.mem_of_getElem? (i := 1313) (by decide +kernel)⟩
theorem lw_p35 : lw_okq (⟨"LogClusterModel", "forgets", "(I)V"⟩, 59) := ⟨⟨by decide +kernel, by decide +kernel⟩, List.mem_of_getElem? (i := 1087) (by decide +kernel), List.mem_of_getElem? (i := 1316) (by decide +kernel), List.mem_of_getElem? (i := 1317) (by decide +kernel)⟩
theorem lw_p36 : lw_okq (⟨"LogClusterModel", "loses", "(I)V"⟩, 59) := ⟨⟨by decide +kernel, by decide +kernel⟩, List.mem_of_getElem? (i := 1087) (by decide +kernel), List.mem_of_getElem? (i := 1320) (by decide +kernel), List.mem_of_getElem? (i := 1321) (by decide +kernel)⟩
theorem lw_p37 : lw_okq (⟨"LogClusterModel", "answers", "(IIII)I"⟩, 59) := ⟨⟨by decide +kernel, by decide +kernel⟩, List.mem_of_getElem? (i := 1087) (by decide +kernel), List.mem_of_getElem? (i := 1324) (by decide +kernel), List.mem_of_getElem? (i := 1325) (by decide +kernel)⟩
theorem lw_p38 : lw_okq (⟨"LogClusterModel", "reads", "(III)I"⟩, 59) := ⟨⟨by decide +kernel, by decide +kernel⟩, List.mem_of_getElem? (i := 1087) (by decide +kernel), List.mem_of_getElem? (i := 1328) (by decide +kernel), List.mem_of_getElem? (i := 1329) (by decide +kernel)⟩
theorem lw_p39 : lw_okq (⟨"LogClusterModel", "isHeadGood", "(I)Z"⟩, 59) := ⟨⟨by decide +kernel, by decide +kernel⟩, List.mem_of_getElem? (i := 1087) (by decide +kernel), List.mem_of_getElem? (i := 1332) (by decide +kernel), List.mem_of_getElem? (i := 1333) (by decide +kernel)⟩
theorem lw_p40 : lw_okq (⟨"LogClusterModel", "holdersUp", "(I)I"⟩, 59) := ⟨⟨by decide +kernel, by decide +kernel⟩, List.mem_of_getElem? (i := 1087) (by decide +kernel), List.mem_of_getElem? (i := 1336) (by decide +kernel), List.mem_of_getElem? (i := 1337) (by decide +kernel)⟩
theorem lw_p41 : lw_okq (⟨"LogClusterModel", "isUp", "(I)Z"⟩, 59) := ⟨⟨by decide +kernel, by decide +kernel⟩, List.mem_of_getElem? (i := 1087) (by decide +kernel), List.mem_of_getElem? (i := 1340) (by decide +kernel), List.mem_of_getElem? (i := 1341) (by decide +kernel)⟩
theorem lw_p42 : lw_okq (⟨"LogClusterModel", "opens", "(IZ)Z"⟩, 59) := ⟨⟨by decide +kernel, by decide +kernel⟩, List.mem_of_getElem? (i := 1087) (by decide +kernel), List.mem_of_getElem? (i := 1344) (by decide +kernel), List.mem_of_getElem? (i := 1345) (by decide +kernel)⟩
theorem lw_p43 : lw_okq (⟨"LogClusterModel", "upBut", "(I)I"⟩, 59) := ⟨⟨by decide +kernel, by decide +kernel⟩, List.mem_of_getElem? (i := 1087) (by decide +kernel), List.mem_of_getElem? (i := 1348) (by decide +kernel), List.mem_of_getElem? (i := 1349) (by decide +kernel)⟩
theorem lw_p44 : lw_okq (⟨"LogClusterModel", "segmentsOf", "(I)I"⟩, 59) := ⟨⟨by decide +kernel, by decide +kernel⟩, List.mem_of_getElem? (i := 1087) (by decide +kernel), List.mem_of_getElem? (i := 1352) (by decide +kernel), List.mem_of_getElem? (i := 1353) (by decide +kernel)⟩
theorem lw_p45 : lw_okq (⟨"LogClusterModel", "clean", "(I)V"⟩, 59) := ⟨⟨by decide +kernel, by decide +kernel⟩, List.mem_of_getElem? (i := 1087) (by decide +kernel), List.mem_of_getElem? (i := 1356) (by decide +kernel), List.mem_of_getElem? (i := 1357) (by decide +kernel)⟩
theorem lw_p46 : lw_okq (⟨"LogClusterModel", "latest", "(I)I"⟩, 59) := ⟨⟨by decide +kernel, by decide +kernel⟩, List.mem_of_getElem? (i := 1087) (by decide +kernel), List.mem_of_getElem? (i := 1360) (by decide +kernel), List.mem_of_getElem? (i := 1361) (by decide +kernel)⟩
theorem lw_p47 : lw_okq (⟨"LogClusterModel", "next", "(II)I"⟩, 59) := ⟨⟨by decide +kernel, by decide +kernel⟩, List.mem_of_getElem? (i := 1087) (by decide +kernel), List.mem_of_getElem? (i := 1364) (by decide +kernel), List.mem_of_getElem? (i := 1365) (by decide +kernel)⟩
def lw_privs_3 : List (MethodName × Nat) := [(⟨"LogClusterModel", "ackedOf", "(I)I"⟩, 59), (⟨"LogClusterModel", "isMessage", "(I)Z"⟩, 59), (⟨"LogClusterModel", "arrives", "(I)I"⟩, 59), (⟨"LogClusterModel", "forgets", "(I)V"⟩, 59), (⟨"LogClusterModel", "loses", "(I)V"⟩, 59), (⟨"LogClusterModel", "answers", "(IIII)I"⟩, 59), (⟨"LogClusterModel", "reads", "(III)I"⟩, 59), (⟨"LogClusterModel", "isHeadGood", "(I)Z"⟩, 59), (⟨"LogClusterModel", "holdersUp", "(I)I"⟩, 59), (⟨"LogClusterModel", "isUp", "(I)Z"⟩, 59), (⟨"LogClusterModel", "opens", "(IZ)Z"⟩, 59), (⟨"LogClusterModel", "upBut", "(I)I"⟩, 59), (⟨"LogClusterModel", "segmentsOf", "(I)I"⟩, 59), (⟨"LogClusterModel", "clean", "(I)V"⟩, 59), (⟨"LogClusterModel", "latest", "(I)I"⟩, 59), (⟨"LogClusterModel", "next", "(II)I"⟩, 59)]
theorem lw_r3 : ∀ q ∈ lw_privs_3, lw_okq q := List.forall_mem_cons.mpr ⟨lw_p32, List.forall_mem_cons.mpr ⟨lw_p33, List.forall_mem_cons.mpr ⟨lw_p34, List.forall_mem_cons.mpr ⟨lw_p35, List.forall_mem_cons.mpr ⟨lw_p36, List.forall_mem_cons.mpr ⟨lw_p37, List.forall_mem_cons.mpr ⟨lw_p38, List.forall_mem_cons.mpr ⟨lw_p39, List.forall_mem_cons.mpr ⟨lw_p40, List.forall_mem_cons.mpr ⟨lw_p41, List.forall_mem_cons.mpr ⟨lw_p42, List.forall_mem_cons.mpr ⟨lw_p43, List.forall_mem_cons.mpr ⟨lw_p44, List.forall_mem_cons.mpr ⟨lw_p45, List.forall_mem_cons.mpr ⟨lw_p46, List.forall_mem_cons.mpr ⟨lw_p47, fun _ h => absurd h List.not_mem_nil⟩⟩⟩⟩⟩⟩⟩⟩⟩⟩⟩⟩⟩⟩⟩⟩
theorem lw_p48 : lw_okq (⟨"LogClusterModel", "isLive", "(III)Z"⟩, 59) := ⟨⟨by decide +kernel, by decide +kernel⟩, List.mem_of_getElem? (i := 1087) (by decide +kernel), List.mem_of_getElem? (i := 1368) (by decide +kernel), List.mem_of_getElem? (i := 1369) (by decide +kernel)⟩
theorem lw_p49 : lw_okq (⟨"LogClusterModel", "versionIn", "(II)I"⟩, 59) := ⟨⟨by decide +kernel, by decide +kernel⟩, List.mem_of_getElem? (i := 1087) (by decide +kernel), List.mem_of_getElem? (i := 1375) (by decide +kernel), List.mem_of_getElem? (i := 1376) (by decide +kernel)⟩
theorem lw_p50 : lw_okq (⟨"LogClusterModel", "there", "(I)I"⟩, 59) := ⟨⟨by decide +kernel, by decide +kernel⟩, List.mem_of_getElem? (i := 1087) (by decide +kernel), List.mem_of_getElem? (i := 1379) (by decide +kernel), List.mem_of_getElem? (i := 1380) (by decide +kernel)⟩
theorem lw_p51 : lw_okq (⟨"LogClusterModel", "hasName", "(II)Z"⟩, 59) := ⟨⟨by decide +kernel, by decide +kernel⟩, List.mem_of_getElem? (i := 1087) (by decide +kernel), List.mem_of_getElem? (i := 1383) (by decide +kernel), List.mem_of_getElem? (i := 1384) (by decide +kernel)⟩
theorem lw_p52 : lw_okq (⟨"LogClusterModel", "ackedIn", "(II)I"⟩, 59) := ⟨⟨by decide +kernel, by decide +kernel⟩, List.mem_of_getElem? (i := 1087) (by decide +kernel), List.mem_of_getElem? (i := 1387) (by decide +kernel), List.mem_of_getElem? (i := 1388) (by decide +kernel)⟩
theorem lw_p53 : lw_okq (⟨"LogClusterModel", "isNoteLive", "(IIIII)Z"⟩, 59) := ⟨⟨by decide +kernel, by decide +kernel⟩, List.mem_of_getElem? (i := 1087) (by decide +kernel), List.mem_of_getElem? (i := 1391) (by decide +kernel), List.mem_of_getElem? (i := 1392) (by decide +kernel)⟩
theorem lw_p54 : lw_okq (⟨"LogClusterModel", "liveUnits", "(I)I"⟩, 59) := ⟨⟨by decide +kernel, by decide +kernel⟩, List.mem_of_getElem? (i := 1087) (by decide +kernel), List.mem_of_getElem? (i := 1395) (by decide +kernel), List.mem_of_getElem? (i := 1396) (by decide +kernel)⟩
theorem lw_p55 : lw_okq (⟨"LogClusterModel", "newSegment", "(IZ)I"⟩, 59) := ⟨⟨by decide +kernel, by decide +kernel⟩, List.mem_of_getElem? (i := 1087) (by decide +kernel), List.mem_of_getElem? (i := 1402) (by decide +kernel), List.mem_of_getElem? (i := 1403) (by decide +kernel)⟩
theorem lw_p56 : lw_okq (⟨"LogClusterModel", "ring", "(III)I"⟩, 59) := ⟨⟨by decide +kernel, by decide +kernel⟩, List.mem_of_getElem? (i := 1087) (by decide +kernel), List.mem_of_getElem? (i := 1406) (by decide +kernel), List.mem_of_getElem? (i := 1407) (by decide +kernel)⟩
theorem lw_p57 : lw_okq (⟨"LogClusterModel", "addHolder", "(II)V"⟩, 59) := ⟨⟨by decide +kernel, by decide +kernel⟩, List.mem_of_getElem? (i := 1087) (by decide +kernel), List.mem_of_getElem? (i := 1410) (by decide +kernel), List.mem_of_getElem? (i := 1411) (by decide +kernel)⟩
theorem lw_p58 : lw_okq (⟨"LogClusterModel", "makeOf", "(I)V"⟩, 59) := ⟨⟨by decide +kernel, by decide +kernel⟩, List.mem_of_getElem? (i := 1087) (by decide +kernel), List.mem_of_getElem? (i := 1414) (by decide +kernel), List.mem_of_getElem? (i := 1415) (by decide +kernel)⟩
theorem lw_p59 : lw_okq (⟨"LogClusterModel", "blank", "()V"⟩, 59) := ⟨⟨by decide +kernel, by decide +kernel⟩, List.mem_of_getElem? (i := 1087) (by decide +kernel), List.mem_of_getElem? (i := 1418) (by decide +kernel), List.mem_of_getElem? (i := 1419) (by decide +kernel)⟩
theorem lw_p60 : lw_okq (⟨"LogClusterModel", "comes", "(II)V"⟩, 59) := ⟨⟨by decide +kernel, by decide +kernel⟩, List.mem_of_getElem? (i := 1087) (by decide +kernel), List.mem_of_getElem? (i := 1422) (by decide +kernel), List.mem_of_getElem? (i := 1423) (by decide +kernel)⟩
theorem lw_p61 : lw_okq (⟨"LogClusterModel", "objectIn", "(II)I"⟩, 59) := ⟨⟨by decide +kernel, by decide +kernel⟩, List.mem_of_getElem? (i := 1087) (by decide +kernel), List.mem_of_getElem? (i := 1426) (by decide +kernel), List.mem_of_getElem? (i := 1427) (by decide +kernel)⟩
theorem lw_p62 : lw_okq (⟨"LogClusterModel", "writes", "(IIII)I"⟩, 59) := ⟨⟨by decide +kernel, by decide +kernel⟩, List.mem_of_getElem? (i := 1087) (by decide +kernel), List.mem_of_getElem? (i := 1430) (by decide +kernel), List.mem_of_getElem? (i := 1431) (by decide +kernel)⟩
theorem lw_p63 : lw_okq (⟨"LogClusterModel", "resultIn", "(III)I"⟩, 59) := ⟨⟨by decide +kernel, by decide +kernel⟩, List.mem_of_getElem? (i := 1087) (by decide +kernel), List.mem_of_getElem? (i := 1435) (by decide +kernel), List.mem_of_getElem? (i := 1436) (by decide +kernel)⟩
def lw_privs_4 : List (MethodName × Nat) := [(⟨"LogClusterModel", "isLive", "(III)Z"⟩, 59), (⟨"LogClusterModel", "versionIn", "(II)I"⟩, 59), (⟨"LogClusterModel", "there", "(I)I"⟩, 59), (⟨"LogClusterModel", "hasName", "(II)Z"⟩, 59), (⟨"LogClusterModel", "ackedIn", "(II)I"⟩, 59), (⟨"LogClusterModel", "isNoteLive", "(IIIII)Z"⟩, 59), (⟨"LogClusterModel", "liveUnits", "(I)I"⟩, 59), (⟨"LogClusterModel", "newSegment", "(IZ)I"⟩, 59), (⟨"LogClusterModel", "ring", "(III)I"⟩, 59), (⟨"LogClusterModel", "addHolder", "(II)V"⟩, 59), (⟨"LogClusterModel", "makeOf", "(I)V"⟩, 59), (⟨"LogClusterModel", "blank", "()V"⟩, 59), (⟨"LogClusterModel", "comes", "(II)V"⟩, 59), (⟨"LogClusterModel", "objectIn", "(II)I"⟩, 59), (⟨"LogClusterModel", "writes", "(IIII)I"⟩, 59), (⟨"LogClusterModel", "resultIn", "(III)I"⟩, 59)]
theorem lw_r4 : ∀ q ∈ lw_privs_4, lw_okq q := List.forall_mem_cons.mpr ⟨lw_p48, List.forall_mem_cons.mpr ⟨lw_p49, List.forall_mem_cons.mpr ⟨lw_p50, List.forall_mem_cons.mpr ⟨lw_p51, List.forall_mem_cons.mpr ⟨lw_p52, List.forall_mem_cons.mpr ⟨lw_p53, List.forall_mem_cons.mpr ⟨lw_p54, List.forall_mem_cons.mpr ⟨lw_p55, List.forall_mem_cons.mpr ⟨lw_p56, List.forall_mem_cons.mpr ⟨lw_p57, List.forall_mem_cons.mpr ⟨lw_p58, List.forall_mem_cons.mpr ⟨lw_p59, List.forall_mem_cons.mpr ⟨lw_p60, List.forall_mem_cons.mpr ⟨lw_p61, List.forall_mem_cons.mpr ⟨lw_p62, List.forall_mem_cons.mpr ⟨lw_p63, fun _ h => absurd h List.not_mem_nil⟩⟩⟩⟩⟩⟩⟩⟩⟩⟩⟩⟩⟩⟩⟩⟩
theorem lw_p64 : lw_okq (⟨"LogClusterModel", "result", "(IIIIIIII)V"⟩, 59) := ⟨⟨by decide +kernel, by decide +kernel⟩, List.mem_of_getElem? (i := 1087) (by decide +kernel), List.mem_of_getElem? (i := 1439) (by decide +kernel), List.mem_of_getElem? (i := 1440) (by decide +kernel)⟩
theorem lw_p65 : lw_okq (⟨"LogClusterModel", "append", "(IZI)Z"⟩, 59) := ⟨⟨by decide +kernel, by decide +kernel⟩, List.mem_of_getElem? (i := 1087) (by decide +kernel), List.mem_of_getElem? (i := 1443) (by decide +kernel), List.mem_of_getElem? (i := 1444) (by decide +kernel)⟩
theorem lw_p66 : lw_okq (⟨"LogClusterModel", "used", "(I)I"⟩, 59) := ⟨⟨by decide +kernel, by decide +kernel⟩, List.mem_of_getElem? (i := 1087) (by decide +kernel), List.mem_of_getElem? (i := 1447) (by decide +kernel), List.mem_of_getElem? (i := 1448) (by decide +kernel)⟩
theorem lw_p67 : lw_okq (⟨"LogClusterModel", "entryUnits", "(II)I"⟩, 59) := ⟨⟨by decide +kernel, by decide +kernel⟩, List.mem_of_getElem? (i := 1087) (by decide +kernel), List.mem_of_getElem? (i := 1451) (by decide +kernel), List.mem_of_getElem? (i := 1452) (by decide +kernel)⟩
theorem lw_p68 : lw_okq (⟨"LogClusterModel", "madeUnits", "()I"⟩, 59) := ⟨⟨by decide +kernel, by decide +kernel⟩, List.mem_of_getElem? (i := 1087) (by decide +kernel), List.mem_of_getElem? (i := 1455) (by decide +kernel), List.mem_of_getElem? (i := 1456) (by decide +kernel)⟩
theorem lw_p69 : lw_okq (⟨"LogClusterModel", "goesDown", "(I)V"⟩, 59) := ⟨⟨by decide +kernel, by decide +kernel⟩, List.mem_of_getElem? (i := 1087) (by decide +kernel), List.mem_of_getElem? (i := 1459) (by decide +kernel), List.mem_of_getElem? (i := 1460) (by decide +kernel)⟩
theorem lw_p70 : lw_okq (⟨"LogClusterModel", "owns", "(I)I"⟩, 59) := ⟨⟨by decide +kernel, by decide +kernel⟩, List.mem_of_getElem? (i := 1087) (by decide +kernel), List.mem_of_getElem? (i := 1463) (by decide +kernel), List.mem_of_getElem? (i := 1464) (by decide +kernel)⟩
theorem lw_p71 : lw_okq (⟨"LogClusterModel", "isServer", "(I)Z"⟩, 59) := ⟨⟨by decide +kernel, by decide +kernel⟩, List.mem_of_getElem? (i := 1087) (by decide +kernel), List.mem_of_getElem? (i := 1492) (by decide +kernel), List.mem_of_getElem? (i := 1493) (by decide +kernel)⟩
theorem lw_p72 : lw_okq (⟨"LogClusterModel", "from", "(III)Z"⟩, 59) := ⟨⟨by decide +kernel, by decide +kernel⟩, List.mem_of_getElem? (i := 1087) (by decide +kernel), List.mem_of_getElem? (i := 1500) (by decide +kernel), List.mem_of_getElem? (i := 1501) (by decide +kernel)⟩
theorem lw_p73 : lw_okq (⟨"LogClusterModel", "oneTick", "()I"⟩, 59) := ⟨⟨by decide +kernel, by decide +kernel⟩, List.mem_of_getElem? (i := 1087) (by decide +kernel), List.mem_of_getElem? (i := 1524) (by decide +kernel), List.mem_of_getElem? (i := 1525) (by decide +kernel)⟩
theorem lw_p74 : lw_okq (⟨"LogClusterModel", "ticksServer", "(I)V"⟩, 59) := ⟨⟨by decide +kernel, by decide +kernel⟩, List.mem_of_getElem? (i := 1087) (by decide +kernel), List.mem_of_getElem? (i := 1528) (by decide +kernel), List.mem_of_getElem? (i := 1529) (by decide +kernel)⟩
theorem lw_p75 : lw_okq (⟨"LogClusterModel", "mends", "(II)Z"⟩, 59) := ⟨⟨by decide +kernel, by decide +kernel⟩, List.mem_of_getElem? (i := 1087) (by decide +kernel), List.mem_of_getElem? (i := 1532) (by decide +kernel), List.mem_of_getElem? (i := 1533) (by decide +kernel)⟩
theorem lw_p76 : lw_okq (⟨"LogClusterModel", "isHolder", "(II)Z"⟩, 59) := ⟨⟨by decide +kernel, by decide +kernel⟩, List.mem_of_getElem? (i := 1087) (by decide +kernel), List.mem_of_getElem? (i := 1536) (by decide +kernel), List.mem_of_getElem? (i := 1537) (by decide +kernel)⟩
theorem lw_p77 : lw_okq (⟨"LogClusterModel", "watches", "(I)V"⟩, 59) := ⟨⟨by decide +kernel, by decide +kernel⟩, List.mem_of_getElem? (i := 1087) (by decide +kernel), List.mem_of_getElem? (i := 1540) (by decide +kernel), List.mem_of_getElem? (i := 1541) (by decide +kernel)⟩
theorem lw_p78 : lw_okq (⟨"LogClusterModel", "freeDead", "()I"⟩, 59) := ⟨⟨by decide +kernel, by decide +kernel⟩, List.mem_of_getElem? (i := 1087) (by decide +kernel), List.mem_of_getElem? (i := 1544) (by decide +kernel), List.mem_of_getElem? (i := 1545) (by decide +kernel)⟩
theorem lw_p79 : lw_okq (⟨"LogClusterModel", "recovers", "(I)Z"⟩, 59) := ⟨⟨by decide +kernel, by decide +kernel⟩, List.mem_of_getElem? (i := 1087) (by decide +kernel), List.mem_of_getElem? (i := 1548) (by decide +kernel), List.mem_of_getElem? (i := 1549) (by decide +kernel)⟩
def lw_privs_5 : List (MethodName × Nat) := [(⟨"LogClusterModel", "result", "(IIIIIIII)V"⟩, 59), (⟨"LogClusterModel", "append", "(IZI)Z"⟩, 59), (⟨"LogClusterModel", "used", "(I)I"⟩, 59), (⟨"LogClusterModel", "entryUnits", "(II)I"⟩, 59), (⟨"LogClusterModel", "madeUnits", "()I"⟩, 59), (⟨"LogClusterModel", "goesDown", "(I)V"⟩, 59), (⟨"LogClusterModel", "owns", "(I)I"⟩, 59), (⟨"LogClusterModel", "isServer", "(I)Z"⟩, 59), (⟨"LogClusterModel", "from", "(III)Z"⟩, 59), (⟨"LogClusterModel", "oneTick", "()I"⟩, 59), (⟨"LogClusterModel", "ticksServer", "(I)V"⟩, 59), (⟨"LogClusterModel", "mends", "(II)Z"⟩, 59), (⟨"LogClusterModel", "isHolder", "(II)Z"⟩, 59), (⟨"LogClusterModel", "watches", "(I)V"⟩, 59), (⟨"LogClusterModel", "freeDead", "()I"⟩, 59), (⟨"LogClusterModel", "recovers", "(I)Z"⟩, 59)]
theorem lw_r5 : ∀ q ∈ lw_privs_5, lw_okq q := List.forall_mem_cons.mpr ⟨lw_p64, List.forall_mem_cons.mpr ⟨lw_p65, List.forall_mem_cons.mpr ⟨lw_p66, List.forall_mem_cons.mpr ⟨lw_p67, List.forall_mem_cons.mpr ⟨lw_p68, List.forall_mem_cons.mpr ⟨lw_p69, List.forall_mem_cons.mpr ⟨lw_p70, List.forall_mem_cons.mpr ⟨lw_p71, List.forall_mem_cons.mpr ⟨lw_p72, List.forall_mem_cons.mpr ⟨lw_p73, List.forall_mem_cons.mpr ⟨lw_p74, List.forall_mem_cons.mpr ⟨lw_p75, List.forall_mem_cons.mpr ⟨lw_p76, List.forall_mem_cons.mpr ⟨lw_p77, List.forall_mem_cons.mpr ⟨lw_p78, List.forall_mem_cons.mpr ⟨lw_p79, fun _ h => absurd h List.not_mem_nil⟩⟩⟩⟩⟩⟩⟩⟩⟩⟩⟩⟩⟩⟩⟩⟩
theorem lw_p80 : lw_okq (⟨"LogClusterModel", "canRead", "(I)Z"⟩, 59) := ⟨⟨by decide +kernel, by decide +kernel⟩, List.mem_of_getElem? (i := 1087) (by decide +kernel), List.mem_of_getElem? (i := 1552) (by decide +kernel), List.mem_of_getElem? (i := 1553) (by decide +kernel)⟩
theorem lw_p81 : lw_okq (⟨"LogClusterModel", "newOwner", "()I"⟩, 59) := ⟨⟨by decide +kernel, by decide +kernel⟩, List.mem_of_getElem? (i := 1087) (by decide +kernel), List.mem_of_getElem? (i := 1556) (by decide +kernel), List.mem_of_getElem? (i := 1557) (by decide +kernel)⟩
theorem lw_p82 : lw_okq (⟨"LogClusterModel", "takesOver", "(III)V"⟩, 59) := ⟨⟨by decide +kernel, by decide +kernel⟩, List.mem_of_getElem? (i := 1087) (by decide +kernel), List.mem_of_getElem? (i := 1560) (by decide +kernel), List.mem_of_getElem? (i := 1561) (by decide +kernel)⟩
theorem lw_p83 : lw_okq (⟨"LogClusterModel", "greatest", "(I)I"⟩, 59) := ⟨⟨by decide +kernel, by decide +kernel⟩, List.mem_of_getElem? (i := 1087) (by decide +kernel), List.mem_of_getElem? (i := 1564) (by decide +kernel), List.mem_of_getElem? (i := 1565) (by decide +kernel)⟩
theorem lw_p84 : lw_okq (⟨"LogClusterModel", "dropDead", "(I)V"⟩, 59) := ⟨⟨by decide +kernel, by decide +kernel⟩, List.mem_of_getElem? (i := 1087) (by decide +kernel), List.mem_of_getElem? (i := 1568) (by decide +kernel), List.mem_of_getElem? (i := 1569) (by decide +kernel)⟩
theorem lw_p85 : lw_okq (⟨"LogClusterModel", "ownTablets", "(I)I"⟩, 59) := ⟨⟨by decide +kernel, by decide +kernel⟩, List.mem_of_getElem? (i := 1087) (by decide +kernel), List.mem_of_getElem? (i := 1580) (by decide +kernel), List.mem_of_getElem? (i := 1581) (by decide +kernel)⟩
theorem lw_p86 : lw_okq (⟨"LogClusterModel", "sum", "(II)I"⟩, 59) := ⟨⟨by decide +kernel, by decide +kernel⟩, List.mem_of_getElem? (i := 1087) (by decide +kernel), List.mem_of_getElem? (i := 1584) (by decide +kernel), List.mem_of_getElem? (i := 1585) (by decide +kernel)⟩
def lw_privs_6 : List (MethodName × Nat) := [(⟨"LogClusterModel", "canRead", "(I)Z"⟩, 59), (⟨"LogClusterModel", "newOwner", "()I"⟩, 59), (⟨"LogClusterModel", "takesOver", "(III)V"⟩, 59), (⟨"LogClusterModel", "greatest", "(I)I"⟩, 59), (⟨"LogClusterModel", "dropDead", "(I)V"⟩, 59), (⟨"LogClusterModel", "ownTablets", "(I)I"⟩, 59), (⟨"LogClusterModel", "sum", "(II)I"⟩, 59)]
theorem lw_r6 : ∀ q ∈ lw_privs_6, lw_okq q := List.forall_mem_cons.mpr ⟨lw_p80, List.forall_mem_cons.mpr ⟨lw_p81, List.forall_mem_cons.mpr ⟨lw_p82, List.forall_mem_cons.mpr ⟨lw_p83, List.forall_mem_cons.mpr ⟨lw_p84, List.forall_mem_cons.mpr ⟨lw_p85, List.forall_mem_cons.mpr ⟨lw_p86, fun _ h => absurd h List.not_mem_nil⟩⟩⟩⟩⟩⟩⟩
def lw_privs : List (MethodName × Nat) := lw_privs_1 ++ (lw_privs_2 ++ (lw_privs_3 ++ (lw_privs_4 ++ (lw_privs_5 ++ (lw_privs_6)))))
def lw_tbl : List Cond := k2_sels lw_privs ++ tables_1
theorem lw_privs_ok : ∀ q ∈ lw_privs, lw_okq q := by
  show ∀ q ∈ lw_privs_1 ++ (lw_privs_2 ++ (lw_privs_3 ++ (lw_privs_4 ++ (lw_privs_5 ++ (lw_privs_6))))), lw_okq q
  exact List.forall_mem_append.mpr ⟨lw_r1, List.forall_mem_append.mpr ⟨lw_r2, List.forall_mem_append.mpr ⟨lw_r3, List.forall_mem_append.mpr ⟨lw_r4, List.forall_mem_append.mpr ⟨lw_r5, lw_r6⟩⟩⟩⟩⟩

/-! ===== BEGIN printed: names, fields, word lists, decode rows ===== -/
def RX0 : String := "LogCluster$Answer"
def TX0 : u_T := fun k => match k with
  | 0 => ("LogCluster$Answer", "status", "I", true)
  | 1 => ("LogCluster$Answer", "value", "I", true)
  | _ => ("LogCluster$Answer", "version", "I", true)
def tyX0 : Nat → FieldType := fun k => match k with
  | 0 => .int
  | 1 => .int
  | _ => .int
abbrev wsX00 : List Cond := u_ws RX0 TX0 3
theorem nmX0 : ∀ a, a < 3 → ∀ b, b < 3 → a ≠ b → (TX0 a).2.1 ≠ (TX0 b).2.1 := by decide +kernel
theorem tyX0_ok : ∀ k, k < 3 → parseFieldDescriptor (TX0 k).2.2.1 = some (tyX0 k) := by decide +kernel
abbrev cX0_init : ByteArray := prog_2_method_1_code
def yX0_init : MethodName := ⟨RX0, "<init>", "(III)V"⟩
def RX1 : String := "LogCluster$Client"
def TX1 : u_T := fun k => match k with
  | 0 => ("LogCluster$Client", "requests", "[LLogCluster$Request;", true)
  | 1 => ("LogCluster$Client", "answers", "[LLogCluster$Answer;", true)
  | _ => ("LogCluster$Client", "used", "I", false)
def tyX1 : Nat → FieldType := fun k => match k with
  | 0 => .array (.object "LogCluster$Request")
  | 1 => .array (.object "LogCluster$Answer")
  | _ => .int
abbrev wsX10 : List Cond := u_ws RX1 TX1 3
theorem nmX1 : ∀ a, a < 3 → ∀ b, b < 3 → a ≠ b → (TX1 a).2.1 ≠ (TX1 b).2.1 := by decide +kernel
theorem tyX1_ok : ∀ k, k < 3 → parseFieldDescriptor (TX1 k).2.2.1 = some (tyX1 k) := by decide +kernel
abbrev cX1_init : ByteArray := prog_3_method_1_code
def yX1_init : MethodName := ⟨RX1, "<init>", "()V"⟩
abbrev cX1_keep : ByteArray := prog_3_method_2_code
def yX1_keep : MethodName := ⟨RX1, "keep", "(LLogCluster$Request;)V"⟩
abbrev cX1_take : ByteArray := prog_3_method_3_code
def yX1_take : MethodName := ⟨RX1, "take", "(ILLogCluster$Answer;)I"⟩
abbrev cX1_leastOpen : ByteArray := prog_3_method_4_code
def yX1_leastOpen : MethodName := ⟨RX1, "leastOpen", "()I"⟩
def RX2 : String := "LogCluster$Coordinator"
def TX2 : u_T := fun k => match k with
  | 0 => ("LogCluster$Coordinator", "storage", "LLogCluster$Storage;", true)
  | 1 => ("LogCluster$Coordinator", "owners", "[I", true)
  | 2 => ("LogCluster$Coordinator", "dead", "Ljava/util/ArrayList;", true)
  | 3 => ("LogCluster$Coordinator", "past", "LLogCluster$Survey;", true)
  | 4 => ("LogCluster$Coordinator", "moving", "Ljava/util/ArrayList;", true)
  | 5 => ("LogCluster$Coordinator", "deaths", "I", false)
  | _ => ("LogCluster$Coordinator", "forgotten", "I", false)
def tyX2 : Nat → FieldType := fun k => match k with
  | 0 => .object "LogCluster$Storage"
  | 1 => .array .int
  | 2 => .object "java/util/ArrayList"
  | 3 => .object "LogCluster$Survey"
  | 4 => .object "java/util/ArrayList"
  | 5 => .int
  | _ => .int
abbrev wsX20 : List Cond := u_ws RX2 TX2 7
theorem nmX2 : ∀ a, a < 7 → ∀ b, b < 7 → a ≠ b → (TX2 a).2.1 ≠ (TX2 b).2.1 := by decide +kernel
theorem tyX2_ok : ∀ k, k < 7 → parseFieldDescriptor (TX2 k).2.2.1 = some (tyX2 k) := by decide +kernel
abbrev cX2_init : ByteArray := prog_4_method_1_code
def yX2_init : MethodName := ⟨RX2, "<init>", "(LLogCluster$Storage;)V"⟩
abbrev cX2_tabletsOf : ByteArray := prog_4_method_2_code
def yX2_tabletsOf : MethodName := ⟨RX2, "tabletsOf", "(I)I"⟩
abbrev cX2_bringDown : ByteArray := prog_4_method_3_code
def yX2_bringDown : MethodName := ⟨RX2, "bringDown", "(LLogCluster$Server;)V"⟩
abbrev cX2_forget : ByteArray := prog_4_method_4_code
def yX2_forget : MethodName := ⟨RX2, "forget", "(LLogCluster$Server;)V"⟩
abbrev cX2_copiesAt : ByteArray := prog_4_method_5_code
def yX2_copiesAt : MethodName := ⟨RX2, "copiesAt", "(I)I"⟩
abbrev cX2_tendServers : ByteArray := prog_4_method_6_code
def yX2_tendServers : MethodName := ⟨RX2, "tendServers", "()V"⟩
abbrev cX2_lookForDead : ByteArray := prog_4_method_7_code
def yX2_lookForDead : MethodName := ⟨RX2, "lookForDead", "()V"⟩
abbrev cX2_declareDead : ByteArray := prog_4_method_8_code
def yX2_declareDead : MethodName := ⟨RX2, "declareDead", "(LLogCluster$Server;)V"⟩
abbrev cX2_recoverDead : ByteArray := prog_4_method_9_code
def yX2_recoverDead : MethodName := ⟨RX2, "recoverDead", "()I"⟩
abbrev cX2_heirOfNext : ByteArray := prog_4_method_10_code
def yX2_heirOfNext : MethodName := ⟨RX2, "heirOfNext", "()LLogCluster$Server;"⟩
abbrev cX2_takeOver : ByteArray := prog_4_method_11_code
def yX2_takeOver : MethodName := ⟨RX2, "takeOver", "(LLogCluster$Server;I)V"⟩
abbrev cX2_gatherMoving : ByteArray := prog_4_method_12_code
def yX2_gatherMoving : MethodName := ⟨RX2, "gatherMoving", "(LLogCluster$Log;I)V"⟩
def RX3 : String := "LogCluster$Log"
def TX3 : u_T := fun k => match k with
  | 0 => ("LogCluster$Log", "segments", "Ljava/util/ArrayList;", true)
  | 1 => ("LogCluster$Log", "head", "LLogCluster$Segment;", false)
  | 2 => ("LogCluster$Log", "latest", "LLogCluster$Segment;", false)
  | _ => ("LogCluster$Log", "tablets", "I", false)
def tyX3 : Nat → FieldType := fun k => match k with
  | 0 => .object "java/util/ArrayList"
  | 1 => .object "LogCluster$Segment"
  | 2 => .object "LogCluster$Segment"
  | _ => .int
abbrev wsX30 : List Cond := u_ws RX3 TX3 4
theorem nmX3 : ∀ a, a < 4 → ∀ b, b < 4 → a ≠ b → (TX3 a).2.1 ≠ (TX3 b).2.1 := by decide +kernel
theorem tyX3_ok : ∀ k, k < 4 → parseFieldDescriptor (TX3 k).2.2.1 = some (tyX3 k) := by decide +kernel
abbrev cX3_init : ByteArray := prog_5_method_1_code
def yX3_init : MethodName := ⟨RX3, "<init>", "()V"⟩
abbrev cX3_homeOf : ByteArray := prog_5_method_2_code
def yX3_homeOf : MethodName := ⟨RX3, "homeOf", "(I)LLogCluster$Segment;"⟩
abbrev cX3_objectOf : ByteArray := prog_5_method_3_code
def yX3_objectOf : MethodName := ⟨RX3, "objectOf", "(I)LLogCluster$Part;"⟩
abbrev cX3_ackedOf : ByteArray := prog_5_method_4_code
def yX3_ackedOf : MethodName := ⟨RX3, "ackedOf", "(I)I"⟩
abbrev cX3_resultOf : ByteArray := prog_5_method_5_code
def yX3_resultOf : MethodName := ⟨RX3, "resultOf", "(II)LLogCluster$Part;"⟩
abbrev cX3_letGo : ByteArray := prog_5_method_6_code
def yX3_letGo : MethodName := ⟨RX3, "letGo", "(LLogCluster$Segment;)V"⟩
abbrev cX3_copiesAt : ByteArray := prog_5_method_7_code
def yX3_copiesAt : MethodName := ⟨RX3, "copiesAt", "(I)I"⟩
def RX4 : String := "LogCluster$Message"
def TX4 : u_T := fun k => match k with
  | 0 => ("LogCluster$Message", "request", "LLogCluster$Request;", true)
  | 1 => ("LogCluster$Message", "acked", "I", true)
  | 2 => ("LogCluster$Message", "target", "LLogCluster$Server;", true)
  | _ => ("LogCluster$Message", "answer", "LLogCluster$Answer;", true)
def tyX4 : Nat → FieldType := fun k => match k with
  | 0 => .object "LogCluster$Request"
  | 1 => .int
  | 2 => .object "LogCluster$Server"
  | _ => .object "LogCluster$Answer"
abbrev wsX40 : List Cond := u_ws RX4 TX4 4
theorem nmX4 : ∀ a, a < 4 → ∀ b, b < 4 → a ≠ b → (TX4 a).2.1 ≠ (TX4 b).2.1 := by decide +kernel
theorem tyX4_ok : ∀ k, k < 4 → parseFieldDescriptor (TX4 k).2.2.1 = some (tyX4 k) := by decide +kernel
abbrev cX4_init : ByteArray := prog_6_method_1_code
def yX4_init : MethodName := ⟨RX4, "<init>", "(LLogCluster$Request;ILLogCluster$Server;LLogCluster$Answer;)V"⟩
def RX5 : String := "LogCluster$Part"
def TX5 : u_T := fun k => match k with
  | 0 => ("LogCluster$Part", "kind", "I", true)
  | 1 => ("LogCluster$Part", "units", "I", true)
  | 2 => ("LogCluster$Part", "marksVersion", "Z", true)
  | 3 => ("LogCluster$Part", "tellsAcked", "Z", true)
  | 4 => ("LogCluster$Part", "client", "I", false)
  | 5 => ("LogCluster$Part", "number", "I", false)
  | 6 => ("LogCluster$Part", "key", "I", false)
  | 7 => ("LogCluster$Part", "status", "I", false)
  | 8 => ("LogCluster$Part", "value", "I", false)
  | 9 => ("LogCluster$Part", "version", "I", false)
  | 10 => ("LogCluster$Part", "acked", "I", false)
  | _ => ("LogCluster$Part", "home", "LLogCluster$Segment;", false)
def tyX5 : Nat → FieldType := fun k => match k with
  | 0 => .int
  | 1 => .int
  | 2 => .boolean
  | 3 => .boolean
  | 4 => .int
  | 5 => .int
  | 6 => .int
  | 7 => .int
  | 8 => .int
  | 9 => .int
  | 10 => .int
  | _ => .object "LogCluster$Segment"
abbrev wsX50 : List Cond := u_ws RX5 TX5 12
theorem nmX5 : ∀ a, a < 12 → ∀ b, b < 12 → a ≠ b → (TX5 a).2.1 ≠ (TX5 b).2.1 := by decide +kernel
theorem tyX5_ok : ∀ k, k < 12 → parseFieldDescriptor (TX5 k).2.2.1 = some (tyX5 k) := by decide +kernel
abbrev cX5_init : ByteArray := prog_7_method_1_code
def yX5_init : MethodName := ⟨RX5, "<init>", "(I)V"⟩
abbrev cX5_digest : ByteArray := prog_7_method_2_code
def yX5_digest : MethodName := ⟨RX5, "digest", "(I)LLogCluster$Part;"⟩
abbrev cX5_note : ByteArray := prog_7_method_3_code
def yX5_note : MethodName := ⟨RX5, "note", "(II)LLogCluster$Part;"⟩
abbrev cX5_object : ByteArray := prog_7_method_4_code
def yX5_object : MethodName := ⟨RX5, "object", "(III)LLogCluster$Part;"⟩
abbrev cX5_tomb : ByteArray := prog_7_method_5_code
def yX5_tomb : MethodName := ⟨RX5, "tomb", "(II)LLogCluster$Part;"⟩
abbrev cX5_result : ByteArray := prog_7_method_6_code
def yX5_result : MethodName := ⟨RX5, "result", "(LLogCluster$Request;I)LLogCluster$Part;"⟩
abbrev cX5_tell : ByteArray := prog_7_method_7_code
def yX5_tell : MethodName := ⟨RX5, "tell", "(III)V"⟩
def RX6 : String := "LogCluster$Request"
def TX6 : u_T := fun k => match k with
  | 0 => ("LogCluster$Request", "client", "I", true)
  | 1 => ("LogCluster$Request", "number", "I", true)
  | 2 => ("LogCluster$Request", "kind", "I", true)
  | 3 => ("LogCluster$Request", "key", "I", true)
  | 4 => ("LogCluster$Request", "a", "I", true)
  | _ => ("LogCluster$Request", "b", "I", true)
def tyX6 : Nat → FieldType := fun k => match k with
  | 0 => .int
  | 1 => .int
  | 2 => .int
  | 3 => .int
  | 4 => .int
  | _ => .int
abbrev wsX60 : List Cond := u_ws RX6 TX6 6
theorem nmX6 : ∀ a, a < 6 → ∀ b, b < 6 → a ≠ b → (TX6 a).2.1 ≠ (TX6 b).2.1 := by decide +kernel
theorem tyX6_ok : ∀ k, k < 6 → parseFieldDescriptor (TX6 k).2.2.1 = some (tyX6 k) := by decide +kernel
abbrev cX6_init : ByteArray := prog_8_method_1_code
def yX6_init : MethodName := ⟨RX6, "<init>", "(IIIIII)V"⟩
def RX7 : String := "LogCluster$Segment"
def TX7 : u_T := fun k => match k with
  | 0 => ("LogCluster$Segment", "name", "I", true)
  | 1 => ("LogCluster$Segment", "parts", "[LLogCluster$Part;", true)
  | 2 => ("LogCluster$Segment", "live", "[Z", true)
  | 3 => ("LogCluster$Segment", "entryEnds", "[I", true)
  | 4 => ("LogCluster$Segment", "holders", "[I", true)
  | 5 => ("LogCluster$Segment", "held", "[I", true)
  | 6 => ("LogCluster$Segment", "partTotal", "I", false)
  | 7 => ("LogCluster$Segment", "entryTotal", "I", false)
  | 8 => ("LogCluster$Segment", "units", "I", false)
  | 9 => ("LogCluster$Segment", "liveUnits", "I", false)
  | 10 => ("LogCluster$Segment", "holderTotal", "I", false)
  | 11 => ("LogCluster$Segment", "holderMask", "I", false)
  | _ => ("LogCluster$Segment", "gone", "Z", false)
def tyX7 : Nat → FieldType := fun k => match k with
  | 0 => .int
  | 1 => .array (.object "LogCluster$Part")
  | 2 => .array .boolean
  | 3 => .array .int
  | 4 => .array .int
  | 5 => .array .int
  | 6 => .int
  | 7 => .int
  | 8 => .int
  | 9 => .int
  | 10 => .int
  | 11 => .int
  | _ => .boolean
abbrev wsX70 : List Cond := u_ws RX7 TX7 13
theorem nmX7 : ∀ a, a < 13 → ∀ b, b < 13 → a ≠ b → (TX7 a).2.1 ≠ (TX7 b).2.1 := by decide +kernel
theorem tyX7_ok : ∀ k, k < 13 → parseFieldDescriptor (TX7 k).2.2.1 = some (tyX7 k) := by decide +kernel
abbrev cX7_init : ByteArray := prog_9_method_1_code
def yX7_init : MethodName := ⟨RX7, "<init>", "(III)V"⟩
abbrev cX7_addHolder : ByteArray := prog_9_method_2_code
def yX7_addHolder : MethodName := ⟨RX7, "addHolder", "(I)V"⟩
abbrev cX7_addEntry : ByteArray := prog_9_method_3_code
def yX7_addEntry : MethodName := ⟨RX7, "addEntry", "(LLogCluster$Part;LLogCluster$Part;I)V"⟩
abbrev cX7_partsReadable : ByteArray := prog_9_method_4_code
def yX7_partsReadable : MethodName := ⟨RX7, "partsReadable", "(I)I"⟩
abbrev cX7_objectHere : ByteArray := prog_9_method_5_code
def yX7_objectHere : MethodName := ⟨RX7, "objectHere", "(I)LLogCluster$Part;"⟩
def RX8 : String := "LogCluster$Server"
def TX8 : u_T := fun k => match k with
  | 0 => ("LogCluster$Server", "number", "I", true)
  | 1 => ("LogCluster$Server", "state", "I", false)
  | 2 => ("LogCluster$Server", "fenced", "Z", false)
  | 3 => ("LogCluster$Server", "lost", "Z", false)
  | 4 => ("LogCluster$Server", "tablets", "I", false)
  | 5 => ("LogCluster$Server", "safe", "I", false)
  | 6 => ("LogCluster$Server", "cutAt", "I", false)
  | 7 => ("LogCluster$Server", "misses", "I", false)
  | 8 => ("LogCluster$Server", "log", "LLogCluster$Log;", false)
  | _ => ("LogCluster$Server", "lostLog", "LLogCluster$Log;", false)
def tyX8 : Nat → FieldType := fun k => match k with
  | 0 => .int
  | 1 => .int
  | 2 => .boolean
  | 3 => .boolean
  | 4 => .int
  | 5 => .int
  | 6 => .int
  | 7 => .int
  | 8 => .object "LogCluster$Log"
  | _ => .object "LogCluster$Log"
abbrev wsX80 : List Cond := u_ws RX8 TX8 10
theorem nmX8 : ∀ a, a < 10 → ∀ b, b < 10 → a ≠ b → (TX8 a).2.1 ≠ (TX8 b).2.1 := by decide +kernel
theorem tyX8_ok : ∀ k, k < 10 → parseFieldDescriptor (TX8 k).2.2.1 = some (tyX8 k) := by decide +kernel
abbrev cX8_init : ByteArray := prog_10_method_1_code
def yX8_init : MethodName := ⟨RX8, "<init>", "(I)V"⟩
abbrev cX8_empty : ByteArray := prog_10_method_2_code
def yX8_empty : MethodName := ⟨RX8, "empty", "()V"⟩
def RX9 : String := "LogCluster$Storage"
def TX9 : u_T := fun k => match k with
  | 0 => ("LogCluster$Storage", "replicas", "I", true)
  | 1 => ("LogCluster$Storage", "units", "I", true)
  | 2 => ("LogCluster$Storage", "memory", "I", true)
  | 3 => ("LogCluster$Storage", "servers", "[LLogCluster$Server;", true)
  | 4 => ("LogCluster$Storage", "survey", "LLogCluster$Survey;", true)
  | 5 => ("LogCluster$Storage", "sorted", "Ljava/util/ArrayList;", true)
  | 6 => ("LogCluster$Storage", "up", "I", false)
  | 7 => ("LogCluster$Storage", "away", "Z", false)
  | 8 => ("LogCluster$Storage", "nextName", "I", false)
  | 9 => ("LogCluster$Storage", "cleanings", "I", false)
  | 10 => ("LogCluster$Storage", "appended", "I", false)
  | _ => ("LogCluster$Storage", "mendings", "I", false)
def tyX9 : Nat → FieldType := fun k => match k with
  | 0 => .int
  | 1 => .int
  | 2 => .int
  | 3 => .array (.object "LogCluster$Server")
  | 4 => .object "LogCluster$Survey"
  | 5 => .object "java/util/ArrayList"
  | 6 => .int
  | 7 => .boolean
  | 8 => .int
  | 9 => .int
  | 10 => .int
  | _ => .int
abbrev wsX90 : List Cond := u_ws RX9 TX9 12
theorem nmX9 : ∀ a, a < 12 → ∀ b, b < 12 → a ≠ b → (TX9 a).2.1 ≠ (TX9 b).2.1 := by decide +kernel
theorem tyX9_ok : ∀ k, k < 12 → parseFieldDescriptor (TX9 k).2.2.1 = some (tyX9 k) := by decide +kernel
abbrev cX9_init : ByteArray := prog_11_method_1_code
def yX9_init : MethodName := ⟨RX9, "<init>", "(IIII)V"⟩
abbrev cX9_setState : ByteArray := prog_11_method_2_code
def yX9_setState : MethodName := ⟨RX9, "setState", "(LLogCluster$Server;I)V"⟩
abbrev cX9_isUp : ByteArray := prog_11_method_3_code
def yX9_isUp : MethodName := ⟨RX9, "isUp", "(I)Z"⟩
abbrev cX9_allHoldersUp : ByteArray := prog_11_method_4_code
def yX9_allHoldersUp : MethodName := ⟨RX9, "allHoldersUp", "(LLogCluster$Segment;)Z"⟩
abbrev cX9_ringAt : ByteArray := prog_11_method_5_code
def yX9_ringAt : MethodName := ⟨RX9, "ringAt", "(ILLogCluster$Server;I)I"⟩
abbrev cX9_makeRoom : ByteArray := prog_11_method_6_code
def yX9_makeRoom : MethodName := ⟨RX9, "makeRoom", "(LLogCluster$Server;IZ)Z"⟩
abbrev cX9_open : ByteArray := prog_11_method_7_code
def yX9_open : MethodName := ⟨RX9, "open", "(LLogCluster$Server;Z)Z"⟩
abbrev cX9_newSegment : ByteArray := prog_11_method_8_code
def yX9_newSegment : MethodName := ⟨RX9, "newSegment", "(LLogCluster$Server;)LLogCluster$Segment;"⟩
abbrev cX9_clean : ByteArray := prog_11_method_9_code
def yX9_clean : MethodName := ⟨RX9, "clean", "(LLogCluster$Server;)V"⟩
abbrev cX9_sortForCleaning : ByteArray := prog_11_method_10_code
def yX9_sortForCleaning : MethodName := ⟨RX9, "sortForCleaning", "(LLogCluster$Log;)V"⟩
abbrev cX9_endOfPacked : ByteArray := prog_11_method_11_code
def yX9_endOfPacked : MethodName := ⟨RX9, "endOfPacked", "(I)I"⟩
abbrev cX9_copyLive : ByteArray := prog_11_method_12_code
def yX9_copyLive : MethodName := ⟨RX9, "copyLive", "(LLogCluster$Segment;LLogCluster$Segment;)V"⟩
abbrev cX9_write : ByteArray := prog_11_method_13_code
def yX9_write : MethodName := ⟨RX9, "write", "(LLogCluster$Server;LLogCluster$Part;LLogCluster$Part;I)V"⟩
abbrev cX9_mend : ByteArray := prog_11_method_14_code
def yX9_mend : MethodName := ⟨RX9, "mend", "(LLogCluster$Server;)V"⟩
abbrev cX9_spareFor : ByteArray := prog_11_method_15_code
def yX9_spareFor : MethodName := ⟨RX9, "spareFor", "(LLogCluster$Segment;LLogCluster$Server;)I"⟩
abbrev cX9_canRecover : ByteArray := prog_11_method_16_code
def yX9_canRecover : MethodName := ⟨RX9, "canRecover", "(LLogCluster$Log;)Z"⟩
def RX10 : String := "LogCluster$Survey"
def TX10 : u_T := fun k => match k with
  | 0 => ("LogCluster$Survey", "acked", "[I", true)
  | 1 => ("LogCluster$Survey", "ackedKept", "[Z", true)
  | 2 => ("LogCluster$Survey", "versions", "[I", true)
  | 3 => ("LogCluster$Survey", "objects", "[LLogCluster$Part;", true)
  | 4 => ("LogCluster$Survey", "results", "[LLogCluster$Part;", true)
  | _ => ("LogCluster$Survey", "greatestTold", "I", false)
def tyX10 : Nat → FieldType := fun k => match k with
  | 0 => .array .int
  | 1 => .array .boolean
  | 2 => .array .int
  | 3 => .array (.object "LogCluster$Part")
  | 4 => .array (.object "LogCluster$Part")
  | _ => .int
abbrev wsX100 : List Cond := u_ws RX10 TX10 6
theorem nmX10 : ∀ a, a < 6 → ∀ b, b < 6 → a ≠ b → (TX10 a).2.1 ≠ (TX10 b).2.1 := by decide +kernel
theorem tyX10_ok : ∀ k, k < 6 → parseFieldDescriptor (TX10 k).2.2.1 = some (tyX10 k) := by decide +kernel
abbrev cX10_init : ByteArray := prog_12_method_1_code
def yX10_init : MethodName := ⟨RX10, "<init>", "()V"⟩
abbrev cX10_begin : ByteArray := prog_12_method_2_code
def yX10_begin : MethodName := ⟨RX10, "begin", "()V"⟩
abbrev cX10_learn : ByteArray := prog_12_method_3_code
def yX10_learn : MethodName := ⟨RX10, "learn", "(LLogCluster$Part;)V"⟩
abbrev cX10_markLive : ByteArray := prog_12_method_4_code
def yX10_markLive : MethodName := ⟨RX10, "markLive", "(LLogCluster$Log;)V"⟩
abbrev cX10_isLive : ByteArray := prog_12_method_5_code
def yX10_isLive : MethodName := ⟨RX10, "isLive", "(LLogCluster$Part;)Z"⟩
abbrev cX10_readDead : ByteArray := prog_12_method_6_code
def yX10_readDead : MethodName := ⟨RX10, "readDead", "(LLogCluster$Log;I)V"⟩
def RX11 : String := "LogCluster"
def TX11 : u_T := fun k => match k with
  | 0 => ("LogCluster", "storage", "LLogCluster$Storage;", true)
  | 1 => ("LogCluster", "keeper", "LLogCluster$Coordinator;", true)
  | 2 => ("LogCluster", "clients", "[LLogCluster$Client;", true)
  | 3 => ("LogCluster", "net", "[LLogCluster$Message;", true)
  | 4 => ("LogCluster", "clock", "I", false)
  | _ => ("LogCluster", "effects", "I", false)
def tyX11 : Nat → FieldType := fun k => match k with
  | 0 => .object "LogCluster$Storage"
  | 1 => .object "LogCluster$Coordinator"
  | 2 => .array (.object "LogCluster$Client")
  | 3 => .array (.object "LogCluster$Message")
  | 4 => .int
  | _ => .int
abbrev wsX110 : List Cond := u_ws RX11 TX11 6
theorem nmX11 : ∀ a, a < 6 → ∀ b, b < 6 → a ≠ b → (TX11 a).2.1 ≠ (TX11 b).2.1 := by decide +kernel
theorem tyX11_ok : ∀ k, k < 6 → parseFieldDescriptor (TX11 k).2.2.1 = some (tyX11 k) := by decide +kernel
abbrev cX11_init : ByteArray := prog_1_method_1_code
def yX11_init : MethodName := ⟨RX11, "<init>", "(IIII)V"⟩
abbrev cX11_send : ByteArray := prog_1_method_2_code
def yX11_send : MethodName := ⟨RX11, "send", "(IIIII)I"⟩
abbrev cX11_again : ByteArray := prog_1_method_3_code
def yX11_again : MethodName := ⟨RX11, "again", "(II)I"⟩
abbrev cX11_deliver : ByteArray := prog_1_method_4_code
def yX11_deliver : MethodName := ⟨RX11, "deliver", "(I)I"⟩
abbrev cX11_drop : ByteArray := prog_1_method_5_code
def yX11_drop : MethodName := ⟨RX11, "drop", "(I)Z"⟩
abbrev cX11_twice : ByteArray := prog_1_method_6_code
def yX11_twice : MethodName := ⟨RX11, "twice", "(I)I"⟩
abbrev cX11_message : ByteArray := prog_1_method_7_code
def yX11_message : MethodName := ⟨RX11, "message", "(II)I"⟩
abbrev cX11_got : ByteArray := prog_1_method_8_code
def yX11_got : MethodName := ⟨RX11, "got", "(III)I"⟩
abbrev cX11_acked : ByteArray := prog_1_method_9_code
def yX11_acked : MethodName := ⟨RX11, "acked", "(I)I"⟩
abbrev cX11_crash : ByteArray := prog_1_method_10_code
def yX11_crash : MethodName := ⟨RX11, "crash", "(I)Z"⟩
abbrev cX11_restart : ByteArray := prog_1_method_11_code
def yX11_restart : MethodName := ⟨RX11, "restart", "(I)Z"⟩
abbrev cX11_sleep : ByteArray := prog_1_method_12_code
def yX11_sleep : MethodName := ⟨RX11, "sleep", "(I)Z"⟩
abbrev cX11_wake : ByteArray := prog_1_method_13_code
def yX11_wake : MethodName := ⟨RX11, "wake", "(I)Z"⟩
abbrev cX11_cut : ByteArray := prog_1_method_14_code
def yX11_cut : MethodName := ⟨RX11, "cut", "(II)Z"⟩
abbrev cX11_coordinator : ByteArray := prog_1_method_15_code
def yX11_coordinator : MethodName := ⟨RX11, "coordinator", "(Z)V"⟩
abbrev cX11_tick : ByteArray := prog_1_method_16_code
def yX11_tick : MethodName := ⟨RX11, "tick", "(I)I"⟩
abbrev cX11_owner : ByteArray := prog_1_method_17_code
def yX11_owner : MethodName := ⟨RX11, "owner", "(I)I"⟩
abbrev cX11_server : ByteArray := prog_1_method_18_code
def yX11_server : MethodName := ⟨RX11, "server", "(II)I"⟩
abbrev cX11_segment : ByteArray := prog_1_method_19_code
def yX11_segment : MethodName := ⟨RX11, "segment", "(III)I"⟩
abbrev cX11_peek : ByteArray := prog_1_method_20_code
def yX11_peek : MethodName := ⟨RX11, "peek", "(III)I"⟩
abbrev cX11_count : ByteArray := prog_1_method_21_code
def yX11_count : MethodName := ⟨RX11, "count", "(I)I"⟩
abbrev cX11_serve : ByteArray := prog_1_method_22_code
def yX11_serve : MethodName := ⟨RX11, "serve", "(LLogCluster$Server;LLogCluster$Message;)LLogCluster$Answer;"⟩
abbrev cX11_readAt : ByteArray := prog_1_method_23_code
def yX11_readAt : MethodName := ⟨RX11, "readAt", "(LLogCluster$Server;I)LLogCluster$Answer;"⟩
abbrev cX11_changeAt : ByteArray := prog_1_method_24_code
def yX11_changeAt : MethodName := ⟨RX11, "changeAt", "(LLogCluster$Server;LLogCluster$Message;)LLogCluster$Answer;"⟩
abbrev cX11_answerWithoutEntry : ByteArray := prog_1_method_25_code
def yX11_answerWithoutEntry : MethodName := ⟨RX11, "answerWithoutEntry", "(LLogCluster$Server;LLogCluster$Request;I)LLogCluster$Answer;"⟩
abbrev cX11_decide : ByteArray := prog_1_method_26_code
def yX11_decide : MethodName := ⟨RX11, "decide", "(LLogCluster$Server;LLogCluster$Request;LLogCluster$Part;)LLogCluster$Part;"⟩
abbrev cX11_nearest : ByteArray := prog_1_method_27_code
def yX11_nearest : MethodName := ⟨RX11, "nearest", "(III)I"⟩
abbrev cX11_tabletOf : ByteArray := prog_1_method_28_code
def yX11_tabletOf : MethodName := ⟨RX11, "tabletOf", "(I)I"⟩
abbrev cX11_isClient : ByteArray := prog_1_method_29_code
def yX11_isClient : MethodName := ⟨RX11, "isClient", "(I)Z"⟩
abbrev cX11_isKey : ByteArray := prog_1_method_30_code
def yX11_isKey : MethodName := ⟨RX11, "isKey", "(I)Z"⟩
abbrev cX11_isServer : ByteArray := prog_1_method_31_code
def yX11_isServer : MethodName := ⟨RX11, "isServer", "(I)Z"⟩
abbrev cX11_moved : ByteArray := prog_1_method_32_code
def yX11_moved : MethodName := ⟨RX11, "moved", "(III)Z"⟩
abbrev cX11_requestOf : ByteArray := prog_1_method_33_code
def yX11_requestOf : MethodName := ⟨RX11, "requestOf", "(II)LLogCluster$Request;"⟩
abbrev cX11_messageAt : ByteArray := prog_1_method_34_code
def yX11_messageAt : MethodName := ⟨RX11, "messageAt", "(I)LLogCluster$Message;"⟩
abbrev cX11_freePlace : ByteArray := prog_1_method_35_code
def yX11_freePlace : MethodName := ⟨RX11, "freePlace", "()I"⟩
abbrev cX11_post : ByteArray := prog_1_method_36_code
def yX11_post : MethodName := ⟨RX11, "post", "(LLogCluster$Request;LLogCluster$Client;)I"⟩
abbrev cX11_messagesInNet : ByteArray := prog_1_method_37_code
def yX11_messagesInNet : MethodName := ⟨RX11, "messagesInNet", "()I"⟩
abbrev cX11_unitsOf : ByteArray := prog_1_method_38_code
def yX11_unitsOf : MethodName := ⟨RX11, "unitsOf", "(LLogCluster$Log;I)I"⟩
def RX12 : String := "LogClusterModel"
def TX12 : u_T := fun k => match k with
  | 0 => ("LogClusterModel", "servers", "I", true)
  | 1 => ("LogClusterModel", "replicas", "I", true)
  | 2 => ("LogClusterModel", "units", "I", true)
  | 3 => ("LogClusterModel", "memory", "I", true)
  | 4 => ("LogClusterModel", "thrown", "I", false)
  | 5 => ("LogClusterModel", "state", "[I", true)
  | 6 => ("LogClusterModel", "isFenced", "[Z", true)
  | 7 => ("LogClusterModel", "isOwn", "[Z", true)
  | 8 => ("LogClusterModel", "isLost", "[Z", true)
  | 9 => ("LogClusterModel", "safe", "[I", true)
  | 10 => ("LogClusterModel", "head", "[I", true)
  | 11 => ("LogClusterModel", "misses", "[I", true)
  | 12 => ("LogClusterModel", "cutAt", "[I", true)
  | 13 => ("LogClusterModel", "owner", "[I", true)
  | 14 => ("LogClusterModel", "isAway", "Z", false)
  | 15 => ("LogClusterModel", "clock", "I", false)
  | 16 => ("LogClusterModel", "opened", "I", false)
  | 17 => ("LogClusterModel", "cleanings", "I", false)
  | 18 => ("LogClusterModel", "deadEver", "I", false)
  | 19 => ("LogClusterModel", "appended", "I", false)
  | 20 => ("LogClusterModel", "forgot", "I", false)
  | 21 => ("LogClusterModel", "mendings", "I", false)
  | 22 => ("LogClusterModel", "effects", "I", false)
  | 23 => ("LogClusterModel", "top", "I", false)
  | 24 => ("LogClusterModel", "logOf", "[I", true)
  | 25 => ("LogClusterModel", "nameOf", "[I", true)
  | 26 => ("LogClusterModel", "isOpened", "[Z", true)
  | 27 => ("LogClusterModel", "entries", "[I", true)
  | 28 => ("LogClusterModel", "part", "[I", true)
  | 29 => ("LogClusterModel", "holders", "[I", true)
  | 30 => ("LogClusterModel", "holder", "[I", true)
  | 31 => ("LogClusterModel", "holds", "[I", true)
  | 32 => ("LogClusterModel", "foundSegment", "I", false)
  | 33 => ("LogClusterModel", "made", "[I", true)
  | 34 => ("LogClusterModel", "sorted", "[I", true)
  | 35 => ("LogClusterModel", "sortedLive", "[I", true)
  | 36 => ("LogClusterModel", "lives", "[Z", true)
  | 37 => ("LogClusterModel", "kept", "[I", true)
  | 38 => ("LogClusterModel", "outer", "[I", true)
  | 39 => ("LogClusterModel", "asked", "[I", true)
  | 40 => ("LogClusterModel", "rKind", "[I", true)
  | 41 => ("LogClusterModel", "rKey", "[I", true)
  | 42 => ("LogClusterModel", "rA", "[I", true)
  | 43 => ("LogClusterModel", "rB", "[I", true)
  | 44 => ("LogClusterModel", "has", "[Z", true)
  | 45 => ("LogClusterModel", "gStatus", "[I", true)
  | 46 => ("LogClusterModel", "gValue", "[I", true)
  | 47 => ("LogClusterModel", "gVersion", "[I", true)
  | 48 => ("LogClusterModel", "mKind", "[I", true)
  | 49 => ("LogClusterModel", "mClient", "[I", true)
  | 50 => ("LogClusterModel", "mNumber", "[I", true)
  | 51 => ("LogClusterModel", "mServer", "[I", true)
  | 52 => ("LogClusterModel", "mAcked", "[I", true)
  | 53 => ("LogClusterModel", "mStatus", "[I", true)
  | 54 => ("LogClusterModel", "mValue", "[I", true)
  | 55 => ("LogClusterModel", "mVersion", "[I", true)
  | 56 => ("LogClusterModel", "deads", "I", false)
  | 57 => ("LogClusterModel", "deadLog", "[I", true)
  | _ => ("LogClusterModel", "deadTablet", "[Z", true)
def tyX12 : Nat → FieldType := fun k => match k with
  | 0 => .int
  | 1 => .int
  | 2 => .int
  | 3 => .int
  | 4 => .int
  | 5 => .array .int
  | 6 => .array .boolean
  | 7 => .array .boolean
  | 8 => .array .boolean
  | 9 => .array .int
  | 10 => .array .int
  | 11 => .array .int
  | 12 => .array .int
  | 13 => .array .int
  | 14 => .boolean
  | 15 => .int
  | 16 => .int
  | 17 => .int
  | 18 => .int
  | 19 => .int
  | 20 => .int
  | 21 => .int
  | 22 => .int
  | 23 => .int
  | 24 => .array .int
  | 25 => .array .int
  | 26 => .array .boolean
  | 27 => .array .int
  | 28 => .array .int
  | 29 => .array .int
  | 30 => .array .int
  | 31 => .array .int
  | 32 => .int
  | 33 => .array .int
  | 34 => .array .int
  | 35 => .array .int
  | 36 => .array .boolean
  | 37 => .array .int
  | 38 => .array .int
  | 39 => .array .int
  | 40 => .array .int
  | 41 => .array .int
  | 42 => .array .int
  | 43 => .array .int
  | 44 => .array .boolean
  | 45 => .array .int
  | 46 => .array .int
  | 47 => .array .int
  | 48 => .array .int
  | 49 => .array .int
  | 50 => .array .int
  | 51 => .array .int
  | 52 => .array .int
  | 53 => .array .int
  | 54 => .array .int
  | 55 => .array .int
  | 56 => .int
  | 57 => .array .int
  | _ => .array .boolean
abbrev wsX120 : List Cond := u_ws RX12 TX12 59
theorem nmX12 : ∀ a, a < 59 → ∀ b, b < 59 → a ≠ b → (TX12 a).2.1 ≠ (TX12 b).2.1 := by decide +kernel
theorem tyX12_ok : ∀ k, k < 59 → parseFieldDescriptor (TX12 k).2.2.1 = some (tyX12 k) := by decide +kernel
abbrev cX12_in : ByteArray := prog_14_method_1_code
def yX12_in : MethodName := ⟨RX12, "in", "(III)Z"⟩
abbrev cX12_near : ByteArray := prog_14_method_2_code
def yX12_near : MethodName := ⟨RX12, "near", "(III)I"⟩
abbrev cX12_init : ByteArray := prog_14_method_3_code
def yX12_init : MethodName := ⟨RX12, "<init>", "(IIII)V"⟩
abbrev cX12_thrown : ByteArray := prog_14_method_4_code
def yX12_thrown : MethodName := ⟨RX12, "thrown", "()I"⟩
abbrev cX12_isServer : ByteArray := prog_14_method_5_code
def yX12_isServer : MethodName := ⟨RX12, "isServer", "(I)Z"⟩
abbrev cX12_isUp : ByteArray := prog_14_method_6_code
def yX12_isUp : MethodName := ⟨RX12, "isUp", "(I)Z"⟩
abbrev cX12_upBut : ByteArray := prog_14_method_7_code
def yX12_upBut : MethodName := ⟨RX12, "upBut", "(I)I"⟩
abbrev cX12_owns : ByteArray := prog_14_method_8_code
def yX12_owns : MethodName := ⟨RX12, "owns", "(I)I"⟩
abbrev cX12_at : ByteArray := prog_14_method_9_code
def yX12_at : MethodName := ⟨RX12, "at", "(IIII)I"⟩
abbrev cX12_unitsOf : ByteArray := prog_14_method_10_code
def yX12_unitsOf : MethodName := ⟨RX12, "unitsOf", "(I)I"⟩
abbrev cX12_entryUnits : ByteArray := prog_14_method_11_code
def yX12_entryUnits : MethodName := ⟨RX12, "entryUnits", "(II)I"⟩
abbrev cX12_used : ByteArray := prog_14_method_12_code
def yX12_used : MethodName := ⟨RX12, "used", "(I)I"⟩
abbrev cX12_segmentsOf : ByteArray := prog_14_method_13_code
def yX12_segmentsOf : MethodName := ⟨RX12, "segmentsOf", "(I)I"⟩
abbrev cX12_next : ByteArray := prog_14_method_14_code
def yX12_next : MethodName := ⟨RX12, "next", "(II)I"⟩
abbrev cX12_hasName : ByteArray := prog_14_method_15_code
def yX12_hasName : MethodName := ⟨RX12, "hasName", "(II)Z"⟩
abbrev cX12_latest : ByteArray := prog_14_method_16_code
def yX12_latest : MethodName := ⟨RX12, "latest", "(I)I"⟩
abbrev cX12_ring : ByteArray := prog_14_method_17_code
def yX12_ring : MethodName := ⟨RX12, "ring", "(III)I"⟩
abbrev cX12_isHolder : ByteArray := prog_14_method_18_code
def yX12_isHolder : MethodName := ⟨RX12, "isHolder", "(II)Z"⟩
abbrev cX12_addHolder : ByteArray := prog_14_method_19_code
def yX12_addHolder : MethodName := ⟨RX12, "addHolder", "(II)V"⟩
abbrev cX12_holdersUp : ByteArray := prog_14_method_20_code
def yX12_holdersUp : MethodName := ⟨RX12, "holdersUp", "(I)I"⟩
abbrev cX12_newSegment : ByteArray := prog_14_method_21_code
def yX12_newSegment : MethodName := ⟨RX12, "newSegment", "(IZ)I"⟩
abbrev cX12_there : ByteArray := prog_14_method_22_code
def yX12_there : MethodName := ⟨RX12, "there", "(I)I"⟩
abbrev cX12_ackedIn : ByteArray := prog_14_method_23_code
def yX12_ackedIn : MethodName := ⟨RX12, "ackedIn", "(II)I"⟩
abbrev cX12_versionIn : ByteArray := prog_14_method_24_code
def yX12_versionIn : MethodName := ⟨RX12, "versionIn", "(II)I"⟩
abbrev cX12_objectIn : ByteArray := prog_14_method_25_code
def yX12_objectIn : MethodName := ⟨RX12, "objectIn", "(II)I"⟩
abbrev cX12_resultIn : ByteArray := prog_14_method_26_code
def yX12_resultIn : MethodName := ⟨RX12, "resultIn", "(III)I"⟩
abbrev cX12_isNoteLive : ByteArray := prog_14_method_27_code
def yX12_isNoteLive : MethodName := ⟨RX12, "isNoteLive", "(IIIII)Z"⟩
abbrev cX12_isLive : ByteArray := prog_14_method_28_code
def yX12_isLive : MethodName := ⟨RX12, "isLive", "(III)Z"⟩
abbrev cX12_liveUnits : ByteArray := prog_14_method_29_code
def yX12_liveUnits : MethodName := ⟨RX12, "liveUnits", "(I)I"⟩
abbrev cX12_blank : ByteArray := prog_14_method_30_code
def yX12_blank : MethodName := ⟨RX12, "blank", "()V"⟩
abbrev cX12_makeOf : ByteArray := prog_14_method_31_code
def yX12_makeOf : MethodName := ⟨RX12, "makeOf", "(I)V"⟩
abbrev cX12_madeUnits : ByteArray := prog_14_method_32_code
def yX12_madeUnits : MethodName := ⟨RX12, "madeUnits", "()I"⟩
abbrev cX12_comes : ByteArray := prog_14_method_33_code
def yX12_comes : MethodName := ⟨RX12, "comes", "(II)V"⟩
abbrev cX12_clean : ByteArray := prog_14_method_34_code
def yX12_clean : MethodName := ⟨RX12, "clean", "(I)V"⟩
abbrev cX12_opens : ByteArray := prog_14_method_35_code
def yX12_opens : MethodName := ⟨RX12, "opens", "(IZ)Z"⟩
abbrev cX12_isHeadGood : ByteArray := prog_14_method_36_code
def yX12_isHeadGood : MethodName := ⟨RX12, "isHeadGood", "(I)Z"⟩
abbrev cX12_append : ByteArray := prog_14_method_37_code
def yX12_append : MethodName := ⟨RX12, "append", "(IZI)Z"⟩
abbrev cX12_loses : ByteArray := prog_14_method_38_code
def yX12_loses : MethodName := ⟨RX12, "loses", "(I)V"⟩
abbrev cX12_goesDown : ByteArray := prog_14_method_39_code
def yX12_goesDown : MethodName := ⟨RX12, "goesDown", "(I)V"⟩
abbrev cX12_forgets : ByteArray := prog_14_method_40_code
def yX12_forgets : MethodName := ⟨RX12, "forgets", "(I)V"⟩
abbrev cX12_ackedOf : ByteArray := prog_14_method_41_code
def yX12_ackedOf : MethodName := ⟨RX12, "ackedOf", "(I)I"⟩
abbrev cX12_free : ByteArray := prog_14_method_42_code
def yX12_free : MethodName := ⟨RX12, "free", "()I"⟩
abbrev cX12_goes : ByteArray := prog_14_method_43_code
def yX12_goes : MethodName := ⟨RX12, "goes", "(III)V"⟩
abbrev cX12_send : ByteArray := prog_14_method_44_code
def yX12_send : MethodName := ⟨RX12, "send", "(IIIII)I"⟩
abbrev cX12_again : ByteArray := prog_14_method_45_code
def yX12_again : MethodName := ⟨RX12, "again", "(II)I"⟩
abbrev cX12_answers : ByteArray := prog_14_method_46_code
def yX12_answers : MethodName := ⟨RX12, "answers", "(IIII)I"⟩
abbrev cX12_reads : ByteArray := prog_14_method_47_code
def yX12_reads : MethodName := ⟨RX12, "reads", "(III)I"⟩
abbrev cX12_result : ByteArray := prog_14_method_48_code
def yX12_result : MethodName := ⟨RX12, "result", "(IIIIIIII)V"⟩
abbrev cX12_writes : ByteArray := prog_14_method_49_code
def yX12_writes : MethodName := ⟨RX12, "writes", "(IIII)I"⟩
abbrev cX12_arrives : ByteArray := prog_14_method_50_code
def yX12_arrives : MethodName := ⟨RX12, "arrives", "(I)I"⟩
abbrev cX12_isMessage : ByteArray := prog_14_method_51_code
def yX12_isMessage : MethodName := ⟨RX12, "isMessage", "(I)Z"⟩
abbrev cX12_deliver : ByteArray := prog_14_method_52_code
def yX12_deliver : MethodName := ⟨RX12, "deliver", "(I)I"⟩
abbrev cX12_drop : ByteArray := prog_14_method_53_code
def yX12_drop : MethodName := ⟨RX12, "drop", "(I)Z"⟩
abbrev cX12_twice : ByteArray := prog_14_method_54_code
def yX12_twice : MethodName := ⟨RX12, "twice", "(I)I"⟩
abbrev cX12_message : ByteArray := prog_14_method_55_code
def yX12_message : MethodName := ⟨RX12, "message", "(II)I"⟩
abbrev cX12_got : ByteArray := prog_14_method_56_code
def yX12_got : MethodName := ⟨RX12, "got", "(III)I"⟩
abbrev cX12_acked : ByteArray := prog_14_method_57_code
def yX12_acked : MethodName := ⟨RX12, "acked", "(I)I"⟩
abbrev cX12_crash : ByteArray := prog_14_method_58_code
def yX12_crash : MethodName := ⟨RX12, "crash", "(I)Z"⟩
abbrev cX12_from : ByteArray := prog_14_method_59_code
def yX12_from : MethodName := ⟨RX12, "from", "(III)Z"⟩
abbrev cX12_restart : ByteArray := prog_14_method_60_code
def yX12_restart : MethodName := ⟨RX12, "restart", "(I)Z"⟩
abbrev cX12_sleep : ByteArray := prog_14_method_61_code
def yX12_sleep : MethodName := ⟨RX12, "sleep", "(I)Z"⟩
abbrev cX12_wake : ByteArray := prog_14_method_62_code
def yX12_wake : MethodName := ⟨RX12, "wake", "(I)Z"⟩
abbrev cX12_cut : ByteArray := prog_14_method_63_code
def yX12_cut : MethodName := ⟨RX12, "cut", "(II)Z"⟩
abbrev cX12_coordinator : ByteArray := prog_14_method_64_code
def yX12_coordinator : MethodName := ⟨RX12, "coordinator", "(Z)V"⟩
abbrev cX12_mends : ByteArray := prog_14_method_65_code
def yX12_mends : MethodName := ⟨RX12, "mends", "(II)Z"⟩
abbrev cX12_ticksServer : ByteArray := prog_14_method_66_code
def yX12_ticksServer : MethodName := ⟨RX12, "ticksServer", "(I)V"⟩
abbrev cX12_freeDead : ByteArray := prog_14_method_67_code
def yX12_freeDead : MethodName := ⟨RX12, "freeDead", "()I"⟩
abbrev cX12_watches : ByteArray := prog_14_method_68_code
def yX12_watches : MethodName := ⟨RX12, "watches", "(I)V"⟩
abbrev cX12_canRead : ByteArray := prog_14_method_69_code
def yX12_canRead : MethodName := ⟨RX12, "canRead", "(I)Z"⟩
abbrev cX12_newOwner : ByteArray := prog_14_method_70_code
def yX12_newOwner : MethodName := ⟨RX12, "newOwner", "()I"⟩
abbrev cX12_greatest : ByteArray := prog_14_method_71_code
def yX12_greatest : MethodName := ⟨RX12, "greatest", "(I)I"⟩
abbrev cX12_takesOver : ByteArray := prog_14_method_72_code
def yX12_takesOver : MethodName := ⟨RX12, "takesOver", "(III)V"⟩
abbrev cX12_recovers : ByteArray := prog_14_method_73_code
def yX12_recovers : MethodName := ⟨RX12, "recovers", "(I)Z"⟩
abbrev cX12_dropDead : ByteArray := prog_14_method_74_code
def yX12_dropDead : MethodName := ⟨RX12, "dropDead", "(I)V"⟩
abbrev cX12_oneTick : ByteArray := prog_14_method_75_code
def yX12_oneTick : MethodName := ⟨RX12, "oneTick", "()I"⟩
abbrev cX12_tick : ByteArray := prog_14_method_76_code
def yX12_tick : MethodName := ⟨RX12, "tick", "(I)I"⟩
abbrev cX12_owner : ByteArray := prog_14_method_77_code
def yX12_owner : MethodName := ⟨RX12, "owner", "(I)I"⟩
abbrev cX12_ownTablets : ByteArray := prog_14_method_78_code
def yX12_ownTablets : MethodName := ⟨RX12, "ownTablets", "(I)I"⟩
abbrev cX12_sum : ByteArray := prog_14_method_79_code
def yX12_sum : MethodName := ⟨RX12, "sum", "(II)I"⟩
abbrev cX12_server : ByteArray := prog_14_method_80_code
def yX12_server : MethodName := ⟨RX12, "server", "(II)I"⟩
abbrev cX12_segment : ByteArray := prog_14_method_81_code
def yX12_segment : MethodName := ⟨RX12, "segment", "(III)I"⟩
abbrev cX12_peek : ByteArray := prog_14_method_82_code
def yX12_peek : MethodName := ⟨RX12, "peek", "(III)I"⟩
abbrev cX12_count : ByteArray := prog_14_method_83_code
def yX12_count : MethodName := ⟨RX12, "count", "(I)I"⟩
def RJx145de : String := "java/io/Serializable"
def RJx8e188 : String := "java/lang/Cloneable"
def RJ6 : String := "java/lang/Integer"
abbrev cJ6_bitCount_0f7a4 : ByteArray := prog_18_method_49_code
def yJ6_bitCount_0f7a4 : MethodName := ⟨RJ6, "bitCount", "(I)I"⟩
def RJxab1ab : String := "java/lang/Iterable"
def RJ9 : String := "java/lang/Math"
abbrev cJ9_max_7cf53 : ByteArray := prog_20_method_65_code
def yJ9_max_7cf53 : MethodName := ⟨RJ9, "max", "(II)I"⟩
abbrev cJ9_min_7cf53 : ByteArray := prog_20_method_69_code
def yJ9_min_7cf53 : MethodName := ⟨RJ9, "min", "(II)I"⟩
def RJ0 : String := "java/lang/String"
def RJ10 : String := "java/lang/System"
def RJxa1e45 : String := "java/util/AbstractCollection"
abbrev cJxa1e45_init_da8c8 : ByteArray := prog_25_method_1_code
def yJxa1e45_init_da8c8 : MethodName := ⟨RJxa1e45, "<init>", "()V"⟩
def RJxc12de : String := "java/util/AbstractList"
abbrev cJxc12de_init_da8c8 : ByteArray := prog_26_method_1_code
def yJxc12de_init_da8c8 : MethodName := ⟨RJxc12de, "<init>", "()V"⟩
def RJx4a65c : String := "java/util/ArrayList"
def TJx4a65c : u_T := fun k => match k with
  | 0 => ("java/util/AbstractList", "modCount", "I", false)
  | 1 => ("java/util/ArrayList", "elementData", "[Ljava/lang/Object;", false)
  | _ => ("java/util/ArrayList", "size", "I", false)
def tyJx4a65c : Nat → FieldType := fun k => match k with
  | 0 => .int
  | 1 => .array (.object "java/lang/Object")
  | _ => .int
abbrev wsJx4a65c0 : List Cond := u_ws RJx4a65c TJx4a65c 3
theorem nmJx4a65c : ∀ a, a < 3 → ∀ b, b < 3 → a ≠ b → (TJx4a65c a).2.1 ≠ (TJx4a65c b).2.1 := by decide +kernel
theorem tyJx4a65c_ok : ∀ k, k < 3 → parseFieldDescriptor (TJx4a65c k).2.2.1 = some (tyJx4a65c k) := by decide +kernel
abbrev cJx4a65c_init_da8c8 : ByteArray := prog_27_method_2_code
def yJx4a65c_init_da8c8 : MethodName := ⟨RJx4a65c, "<init>", "()V"⟩
abbrev cJx4a65c_grow_92f84 : ByteArray := prog_27_method_6_code
def yJx4a65c_grow_92f84 : MethodName := ⟨RJx4a65c, "grow", "(I)[Ljava/lang/Object;"⟩
abbrev cJx4a65c_grow_d5877 : ByteArray := prog_27_method_7_code
def yJx4a65c_grow_d5877 : MethodName := ⟨RJx4a65c, "grow", "()[Ljava/lang/Object;"⟩
abbrev cJx4a65c_size_8abf5 : ByteArray := prog_27_method_8_code
def yJx4a65c_size_8abf5 : MethodName := ⟨RJx4a65c, "size", "()I"⟩
abbrev cJx4a65c_elementData_915e3 : ByteArray := prog_27_method_18_code
def yJx4a65c_elementData_915e3 : MethodName := ⟨RJx4a65c, "elementData", "(I)Ljava/lang/Object;"⟩
abbrev cJx4a65c_get_915e3 : ByteArray := prog_27_method_20_code
def yJx4a65c_get_915e3 : MethodName := ⟨RJx4a65c, "get", "(I)Ljava/lang/Object;"⟩
abbrev cJx4a65c_add_72be8 : ByteArray := prog_27_method_24_code
def yJx4a65c_add_72be8 : MethodName := ⟨RJx4a65c, "add", "(Ljava/lang/Object;[Ljava/lang/Object;I)V"⟩
abbrev cJx4a65c_add_9ea2d : ByteArray := prog_27_method_25_code
def yJx4a65c_add_9ea2d : MethodName := ⟨RJx4a65c, "add", "(Ljava/lang/Object;)Z"⟩
abbrev cJx4a65c_add_7a177 : ByteArray := prog_27_method_26_code
def yJx4a65c_add_7a177 : MethodName := ⟨RJx4a65c, "add", "(ILjava/lang/Object;)V"⟩
abbrev cJx4a65c_remove_915e3 : ByteArray := prog_27_method_29_code
def yJx4a65c_remove_915e3 : MethodName := ⟨RJx4a65c, "remove", "(I)Ljava/lang/Object;"⟩
abbrev cJx4a65c_fastRemove_b59b0 : ByteArray := prog_27_method_39_code
def yJx4a65c_fastRemove_b59b0 : MethodName := ⟨RJx4a65c, "fastRemove", "([Ljava/lang/Object;I)V"⟩
abbrev cJx4a65c_clear_da8c8 : ByteArray := prog_27_method_40_code
def yJx4a65c_clear_da8c8 : MethodName := ⟨RJx4a65c, "clear", "()V"⟩
abbrev cJx4a65c_rangeCheckForAdd_d00df : ByteArray := prog_27_method_45_code
def yJx4a65c_rangeCheckForAdd_d00df : MethodName := ⟨RJx4a65c, "rangeCheckForAdd", "(I)V"⟩
def RJ7 : String := "java/util/Arrays"
abbrev cJ7_copyOf_1904c : ByteArray := prog_28_method_119_code
def yJ7_copyOf_1904c : MethodName := ⟨RJ7, "copyOf", "([Ljava/lang/Object;I)[Ljava/lang/Object;"⟩
abbrev cJ7_copyOf_6403c : ByteArray := prog_28_method_120_code
def yJ7_copyOf_6403c : MethodName := ⟨RJ7, "copyOf", "([Ljava/lang/Object;ILjava/lang/Class;)[Ljava/lang/Object;"⟩
def RJx5ef63 : String := "java/util/Collection"
def RJxbd725 : String := "java/util/List"
def RJ15 : String := "java/util/Objects"
abbrev cJ15_checkIndex_7cf53 : ByteArray := prog_32_method_17_code
def yJ15_checkIndex_7cf53 : MethodName := ⟨RJ15, "checkIndex", "(II)I"⟩
def RJxf0a74 : String := "java/util/RandomAccess"
def RJxa66e6 : String := "java/util/SequencedCollection"
def RJ8 : String := "jdk/internal/util/ArraysSupport"
abbrev cJ8_newLength_cabcc : ByteArray := prog_35_method_27_code
def yJ8_newLength_cabcc : MethodName := ⟨RJ8, "newLength", "(III)I"⟩
abbrev cJ8_hugeLength_7cf53 : ByteArray := prog_35_method_28_code
def yJ8_hugeLength_7cf53 : MethodName := ⟨RJ8, "hugeLength", "(II)I"⟩
def RJ3 : String := "jdk/internal/util/Preconditions"
abbrev cJ3_checkIndex_8e157 : ByteArray := prog_36_method_11_code
def yJ3_checkIndex_8e157 : MethodName := ⟨RJ3, "checkIndex", "(IILjava/util/function/BiFunction;)I"⟩
def RL : String := "LogClusterLaw"
abbrev cL_cell : ByteArray := method_2_code
def yL_cell : MethodName := ⟨RL, "cell", "([II)I"⟩
abbrev cL_message : ByteArray := method_3_code
def yL_message : MethodName := ⟨RL, "message", "(LLogCluster;II[J)I"⟩
abbrev cL_law : ByteArray := code
def yL_law : MethodName := ⟨RL, "law", "([I)Z"⟩
def wsL_law0_r1 : List Cond := [Cond.classLink RL 8 RX11, Cond.instantiable RX11 6, Cond.initialized RX11, Cond.classLink RL 24 RX12, Cond.instantiable RX12 59, Cond.initialized RX12, Cond.arrayClass .long, Cond.methodLink RL 15 yL_cell, Cond.static yL_cell, Cond.initialized RL, Cond.code yL_cell cL_cell 2 (some .int), Cond.methodLink RL 21 yX11_init, Cond.instanceMethod yX11_init, Cond.code yX11_init cX11_init 6 none, Cond.methodLink RX11 1 objectInit, Cond.instanceMethod objectInit, Cond.code objectInit ⟨#[0xb1]⟩ 1 none, Cond.classLink RX11 7 RX9, Cond.instantiable RX9 12, Cond.initialized RX9, Cond.fieldLink RX11 18 "LogCluster" "storage" "LLogCluster$Storage;", Cond.classLink RX11 22 RX2, Cond.instantiable RX2 7, Cond.initialized RX2]
def wsL_law0_r2 : List Cond := [Cond.fieldLink RX11 27 "LogCluster" "keeper" "LLogCluster$Coordinator;", Cond.classLink RX11 31 RX1, Cond.fieldLink RX11 33 "LogCluster" "clients" "[LLogCluster$Client;", Cond.instantiable RX1 3, Cond.initialized RX1, Cond.classLink RX11 38 RX4, Cond.fieldLink RX11 40 "LogCluster" "net" "[LLogCluster$Message;", Cond.methodLink RX11 9 yX11_nearest, Cond.static yX11_nearest, Cond.code yX11_nearest cX11_nearest 3 (some .int), Cond.methodLink RX11 388 Lib.Math.min.name, Cond.static Lib.Math.min.name, Cond.initialized "java/lang/Math", Cond.code Lib.Math.min.name Lib.Math.min.code 2 (some .int), Cond.methodLink RX11 335 Lib.Math.max.name, Cond.static Lib.Math.max.name, Cond.code Lib.Math.max.name Lib.Math.max.code 2 (some .int), Cond.methodLink RX11 15 yX9_init, Cond.instanceMethod yX9_init, Cond.code yX9_init cX9_init 6 none, Cond.methodLink RX9 3 objectInit, Cond.classLink RX9 9 RX10, Cond.instantiable RX10 6, Cond.initialized RX10]
def wsL_law0_r3 : List Cond := [Cond.fieldLink RX9 12 "LogCluster$Storage" "survey" "LLogCluster$Survey;", Cond.classLink RX9 18 RJx4a65c, Cond.instantiable RJx4a65c 3, Cond.initialized RJx4a65c, Cond.fieldLink RX9 21 "LogCluster$Storage" "sorted" "Ljava/util/ArrayList;", Cond.fieldLink RX9 25 "LogCluster$Storage" "replicas" "I", Cond.fieldLink RX9 29 "LogCluster$Storage" "units" "I", Cond.fieldLink RX9 32 "LogCluster$Storage" "memory" "I", Cond.classLink RX9 35 RX8, Cond.fieldLink RX9 37 "LogCluster$Storage" "servers" "[LLogCluster$Server;", Cond.instantiable RX8 10, Cond.initialized RX8, Cond.fieldLink RX9 44 "LogCluster$Storage" "up" "I", Cond.instanceMethod yX10_init, Cond.code yX10_init cX10_init 1 none, Cond.methodLink RX10 3 objectInit, Cond.arrayClass .int, Cond.fieldLink RX10 9 "LogCluster$Survey" "acked" "[I", Cond.arrayClass .boolean, Cond.fieldLink RX10 15 "LogCluster$Survey" "ackedKept" "[Z", Cond.fieldLink RX10 19 "LogCluster$Survey" "versions" "[I", Cond.classLink RX10 22 RX5, Cond.fieldLink RX10 24 "LogCluster$Survey" "objects" "[LLogCluster$Part;", Cond.fieldLink RX10 28 "LogCluster$Survey" "results" "[LLogCluster$Part;"]
def wsL_law0_r4 : List Cond := [Cond.methodLink RX9 20 yJx4a65c_init_da8c8, Cond.instanceMethod yJx4a65c_init_da8c8, Cond.code yJx4a65c_init_da8c8 cJx4a65c_init_da8c8 1 none, Cond.fieldLink RJx4a65c 39 "java/util/ArrayList" "DEFAULTCAPACITY_EMPTY_ELEMENTDATA" "[Ljava/lang/Object;", Cond.fieldLink RJx4a65c 9 "java/util/ArrayList" "elementData" "[Ljava/lang/Object;", Cond.methodLink RJx4a65c 1 yJxc12de_init_da8c8, Cond.instanceMethod yJxc12de_init_da8c8, Cond.initialized RJxc12de, Cond.code yJxc12de_init_da8c8 cJxc12de_init_da8c8 1 none, Cond.fieldLink RJxc12de 7 "java/util/AbstractList" "modCount" "I", Cond.methodLink RJxc12de 1 yJxa1e45_init_da8c8, Cond.instanceMethod yJxa1e45_init_da8c8, Cond.initialized RJxa1e45, Cond.code yJxa1e45_init_da8c8 cJxa1e45_init_da8c8 1 none, Cond.methodLink RJxa1e45 1 objectInit, Cond.methodLink RX9 41 yX8_init, Cond.instanceMethod yX8_init, Cond.code yX8_init cX8_init 2 none, Cond.methodLink RX8 3 objectInit, Cond.fieldLink RX8 9 "LogCluster$Server" "state" "I", Cond.fieldLink RX8 15 "LogCluster$Server" "cutAt" "I", Cond.classLink RX8 18 RX3, Cond.instantiable RX3 4, Cond.initialized RX3]
def wsL_law0_r5 : List Cond := [Cond.fieldLink RX8 21 "LogCluster$Server" "log" "LLogCluster$Log;", Cond.fieldLink RX8 25 "LogCluster$Server" "number" "I", Cond.instanceMethod yX3_init, Cond.code yX3_init cX3_init 1 none, Cond.methodLink RX3 3 objectInit, Cond.classLink RX3 9 RJx4a65c, Cond.fieldLink RX3 12 "LogCluster$Log" "segments" "Ljava/util/ArrayList;", Cond.methodLink RX3 11 yJx4a65c_init_da8c8, Cond.methodLink RX11 24 yX2_init, Cond.instanceMethod yX2_init, Cond.code yX2_init cX2_init 4 none, Cond.methodLink RX2 3 objectInit, Cond.fieldLink RX2 9 "LogCluster$Coordinator" "owners" "[I", Cond.classLink RX2 15 RJx4a65c, Cond.fieldLink RX2 18 "LogCluster$Coordinator" "dead" "Ljava/util/ArrayList;", Cond.classLink RX2 22 RX10, Cond.fieldLink RX2 25 "LogCluster$Coordinator" "past" "LLogCluster$Survey;", Cond.fieldLink RX2 29 "LogCluster$Coordinator" "moving" "Ljava/util/ArrayList;", Cond.fieldLink RX2 32 "LogCluster$Coordinator" "storage" "LLogCluster$Storage;", Cond.fieldLink RX2 36 "LogCluster$Storage" "servers" "[LLogCluster$Server;", Cond.fieldLink RX2 42 "LogCluster$Server" "tablets" "I", Cond.methodLink RX2 17 yJx4a65c_init_da8c8, Cond.instanceMethod yX1_init, Cond.code yX1_init cX1_init 1 none]
def wsL_law0_r6 : List Cond := [Cond.methodLink RX1 3 objectInit, Cond.classLink RX1 9 RX6, Cond.fieldLink RX1 11 "LogCluster$Client" "requests" "[LLogCluster$Request;", Cond.classLink RX1 17 RX0, Cond.fieldLink RX1 19 "LogCluster$Client" "answers" "[LLogCluster$Answer;", Cond.methodLink RL 26 yX12_init, Cond.instanceMethod yX12_init, Cond.code yX12_init cX12_init 6 none, Cond.methodLink RX12 1 objectInit, Cond.fieldLink RX12 9 "LogClusterModel" "state" "[I", Cond.fieldLink RX12 13 "LogClusterModel" "isFenced" "[Z", Cond.fieldLink RX12 17 "LogClusterModel" "isOwn" "[Z", Cond.fieldLink RX12 20 "LogClusterModel" "isLost" "[Z", Cond.fieldLink RX12 23 "LogClusterModel" "safe" "[I", Cond.fieldLink RX12 26 "LogClusterModel" "head" "[I", Cond.fieldLink RX12 29 "LogClusterModel" "misses" "[I", Cond.fieldLink RX12 32 "LogClusterModel" "cutAt" "[I", Cond.fieldLink RX12 35 "LogClusterModel" "owner" "[I", Cond.fieldLink RX12 38 "LogClusterModel" "logOf" "[I", Cond.fieldLink RX12 41 "LogClusterModel" "nameOf" "[I", Cond.fieldLink RX12 44 "LogClusterModel" "isOpened" "[Z", Cond.fieldLink RX12 47 "LogClusterModel" "entries" "[I", Cond.constant RX12 50 (1728000), Cond.fieldLink RX12 51 "LogClusterModel" "part" "[I"]
def wsL_law0_r7 : List Cond := [Cond.fieldLink RX12 54 "LogClusterModel" "holders" "[I", Cond.constant RX12 57 (48000), Cond.fieldLink RX12 58 "LogClusterModel" "holder" "[I", Cond.fieldLink RX12 61 "LogClusterModel" "holds" "[I", Cond.fieldLink RX12 64 "LogClusterModel" "made" "[I", Cond.fieldLink RX12 67 "LogClusterModel" "sorted" "[I", Cond.fieldLink RX12 70 "LogClusterModel" "sortedLive" "[I", Cond.constant RX12 73 (192000), Cond.fieldLink RX12 74 "LogClusterModel" "lives" "[Z", Cond.fieldLink RX12 77 "LogClusterModel" "kept" "[I", Cond.fieldLink RX12 80 "LogClusterModel" "outer" "[I", Cond.fieldLink RX12 83 "LogClusterModel" "asked" "[I", Cond.fieldLink RX12 86 "LogClusterModel" "rKind" "[I", Cond.fieldLink RX12 89 "LogClusterModel" "rKey" "[I", Cond.fieldLink RX12 92 "LogClusterModel" "rA" "[I", Cond.fieldLink RX12 95 "LogClusterModel" "rB" "[I", Cond.fieldLink RX12 98 "LogClusterModel" "has" "[Z", Cond.fieldLink RX12 101 "LogClusterModel" "gStatus" "[I", Cond.fieldLink RX12 104 "LogClusterModel" "gValue" "[I", Cond.fieldLink RX12 107 "LogClusterModel" "gVersion" "[I", Cond.fieldLink RX12 110 "LogClusterModel" "mKind" "[I", Cond.fieldLink RX12 113 "LogClusterModel" "mClient" "[I", Cond.fieldLink RX12 116 "LogClusterModel" "mNumber" "[I", Cond.fieldLink RX12 119 "LogClusterModel" "mServer" "[I"]
def wsL_law0_r8 : List Cond := [Cond.fieldLink RX12 122 "LogClusterModel" "mAcked" "[I", Cond.fieldLink RX12 125 "LogClusterModel" "mStatus" "[I", Cond.fieldLink RX12 128 "LogClusterModel" "mValue" "[I", Cond.fieldLink RX12 131 "LogClusterModel" "mVersion" "[I", Cond.fieldLink RX12 134 "LogClusterModel" "deadLog" "[I", Cond.fieldLink RX12 137 "LogClusterModel" "deadTablet" "[Z", Cond.fieldLink RX12 144 "LogClusterModel" "servers" "I", Cond.fieldLink RX12 148 "LogClusterModel" "replicas" "I", Cond.fieldLink RX12 151 "LogClusterModel" "units" "I", Cond.fieldLink RX12 154 "LogClusterModel" "memory" "I", Cond.methodLink RX12 140 yX12_near, Cond.static yX12_near, Cond.code yX12_near cX12_near 3 (some .int), Cond.methodLink RL 27 yX11_send, Cond.instanceMethod yX11_send, Cond.selects RX11 yX11_send yX11_send, Cond.code yX11_send cX11_send 9 (some .int), Cond.fieldLink RX11 51 "LogCluster$Client" "used" "I", Cond.classLink RX11 55 RX6, Cond.instantiable RX6 6, Cond.initialized RX6, Cond.fieldLink RX11 68 "LogCluster$Request" "number" "I", Cond.methodLink RX11 44 yX11_isClient, Cond.static yX11_isClient]
def wsL_law0_r9 : List Cond := [Cond.code yX11_isClient cX11_isClient 1 (some .boolean), Cond.methodLink RX11 48 yX11_isKey, Cond.static yX11_isKey, Cond.code yX11_isKey cX11_isKey 1 (some .boolean), Cond.methodLink RX11 57 yX6_init, Cond.instanceMethod yX6_init, Cond.code yX6_init cX6_init 7 none, Cond.methodLink RX6 1 objectInit, Cond.fieldLink RX6 7 "LogCluster$Request" "client" "I", Cond.fieldLink RX6 13 "LogCluster$Request" "number" "I", Cond.fieldLink RX6 16 "LogCluster$Request" "kind" "I", Cond.fieldLink RX6 19 "LogCluster$Request" "key" "I", Cond.fieldLink RX6 22 "LogCluster$Request" "a" "I", Cond.fieldLink RX6 25 "LogCluster$Request" "b" "I", Cond.methodLink RX11 60 yX11_post, Cond.instanceMethod yX11_post, Cond.selects RX11 yX11_post yX11_post, Cond.code yX11_post cX11_post 5 (some .int), Cond.fieldLink RX11 186 "LogCluster$Coordinator" "owners" "[I", Cond.fieldLink RX11 312 "LogCluster$Request" "key" "I", Cond.instantiable RX4 4, Cond.initialized RX4, Cond.fieldLink RX11 152 "LogCluster$Storage" "servers" "[LLogCluster$Server;", Cond.methodLink RX11 315 yX11_tabletOf]
def wsL_law0_r10 : List Cond := [Cond.static yX11_tabletOf, Cond.code yX11_tabletOf cX11_tabletOf 1 (some .int), Cond.methodLink RX11 113 yX11_freePlace, Cond.instanceMethod yX11_freePlace, Cond.selects RX11 yX11_freePlace yX11_freePlace, Cond.code yX11_freePlace cX11_freePlace 2 (some .int), Cond.methodLink RX11 146 yX1_leastOpen, Cond.instanceMethod yX1_leastOpen, Cond.selects RX1 yX1_leastOpen yX1_leastOpen, Cond.code yX1_leastOpen cX1_leastOpen 2 (some .int), Cond.fieldLink RX1 23 "LogCluster$Client" "used" "I", Cond.methodLink RX11 110 yX4_init, Cond.instanceMethod yX4_init, Cond.code yX4_init cX4_init 5 none, Cond.methodLink RX4 1 objectInit, Cond.fieldLink RX4 7 "LogCluster$Message" "request" "LLogCluster$Request;", Cond.fieldLink RX4 13 "LogCluster$Message" "acked" "I", Cond.fieldLink RX4 17 "LogCluster$Message" "target" "LLogCluster$Server;", Cond.fieldLink RX4 21 "LogCluster$Message" "answer" "LLogCluster$Answer;", Cond.methodLink RX11 64 yX1_keep, Cond.instanceMethod yX1_keep, Cond.selects RX1 yX1_keep yX1_keep, Cond.code yX1_keep cX1_keep 2 none, Cond.methodLink RL 31 yX12_send]
def wsL_law0_r11 : List Cond := [Cond.instanceMethod yX12_send, Cond.selects RX12 yX12_send yX12_send, Cond.code yX12_send cX12_send 8 (some .int), Cond.fieldLink RX12 157 "LogClusterModel" "thrown" "I", Cond.methodLink RX12 160 yX12_in, Cond.static yX12_in, Cond.code yX12_in cX12_in 3 (some .boolean), Cond.methodLink RX12 290 yX12_free, Cond.instanceMethod yX12_free, Cond.selects RX12 yX12_free yX12_free, Cond.code yX12_free cX12_free 2 (some .int), Cond.methodLink RX12 293 yX12_goes, Cond.instanceMethod yX12_goes, Cond.selects RX12 yX12_goes yX12_goes, Cond.code yX12_goes cX12_goes 4 none, Cond.methodLink RX12 287 yX12_ackedOf, Cond.instanceMethod yX12_ackedOf, Cond.selects RX12 yX12_ackedOf yX12_ackedOf, Cond.code yX12_ackedOf cX12_ackedOf 3 (some .int), Cond.methodLink RL 32 yX11_again, Cond.instanceMethod yX11_again, Cond.selects RX11 yX11_again yX11_again, Cond.code yX11_again cX11_again 4 (some .int), Cond.methodLink RX11 71 yX11_requestOf]
def wsL_law0_r12 : List Cond := [Cond.instanceMethod yX11_requestOf, Cond.selects RX11 yX11_requestOf yX11_requestOf, Cond.code yX11_requestOf cX11_requestOf 3 (some (.object "LogCluster$Request")), Cond.fieldLink RX11 395 "LogCluster$Client" "requests" "[LLogCluster$Request;", Cond.methodLink RL 35 yX12_again, Cond.instanceMethod yX12_again, Cond.selects RX12 yX12_again yX12_again, Cond.code yX12_again cX12_again 4 (some .int), Cond.methodLink RL 36 yX11_deliver, Cond.instanceMethod yX11_deliver, Cond.selects RX11 yX11_deliver yX11_deliver, Cond.code yX11_deliver cX11_deliver 5 (some .int), Cond.fieldLink RX11 79 "LogCluster$Message" "answer" "LLogCluster$Answer;", Cond.fieldLink RX11 83 "LogCluster$Message" "request" "LLogCluster$Request;", Cond.fieldLink RX11 87 "LogCluster$Request" "client" "I", Cond.fieldLink RX11 94 "LogCluster$Message" "target" "LLogCluster$Server;", Cond.fieldLink RX11 98 "LogCluster$Server" "state" "I", Cond.fieldLink RX11 107 "LogCluster$Message" "acked" "I", Cond.methodLink RX11 75 yX11_messageAt, Cond.instanceMethod yX11_messageAt, Cond.selects RX11 yX11_messageAt yX11_messageAt, Cond.code yX11_messageAt cX11_messageAt 2 (some (.object "LogCluster$Message")), Cond.methodLink RX11 90 yX1_take, Cond.instanceMethod yX1_take]
def wsL_law0_r13 : List Cond := [Cond.selects RX1 yX1_take yX1_take, Cond.code yX1_take cX1_take 3 (some .int), Cond.fieldLink RX1 27 "LogCluster$Answer" "status" "I", Cond.methodLink RX11 103 yX11_serve, Cond.instanceMethod yX11_serve, Cond.selects RX11 yX11_serve yX11_serve, Cond.code yX11_serve cX11_serve 4 (some (.object "LogCluster$Answer")), Cond.fieldLink RX11 190 "LogCluster$Server" "fenced" "Z", Cond.fieldLink RX11 193 "LogCluster$Server" "tablets" "I", Cond.classLink RX11 126 RX0, Cond.instantiable RX0 3, Cond.initialized RX0, Cond.fieldLink RX11 130 "LogCluster$Request" "kind" "I", Cond.methodLink RX11 309 yX2_forget, Cond.instanceMethod yX2_forget, Cond.selects RX2 yX2_forget yX2_forget, Cond.code yX2_forget cX2_forget 2 none, Cond.fieldLink RX2 73 "LogCluster$Coordinator" "forgotten" "I", Cond.methodLink RX2 66 yX8_empty, Cond.instanceMethod yX8_empty, Cond.selects RX8 yX8_empty yX8_empty, Cond.code yX8_empty cX8_empty 1 none, Cond.fieldLink RX8 28 "LogCluster$Server" "fenced" "Z", Cond.fieldLink RX8 32 "LogCluster$Server" "tablets" "I"]
def wsL_law0_r14 : List Cond := [Cond.fieldLink RX8 35 "LogCluster$Server" "safe" "I", Cond.methodLink RX11 318 yX0_init, Cond.instanceMethod yX0_init, Cond.code yX0_init cX0_init 4 none, Cond.methodLink RX0 1 objectInit, Cond.fieldLink RX0 7 "LogCluster$Answer" "status" "I", Cond.fieldLink RX0 13 "LogCluster$Answer" "value" "I", Cond.fieldLink RX0 16 "LogCluster$Answer" "version" "I", Cond.methodLink RX11 321 yX11_readAt, Cond.instanceMethod yX11_readAt, Cond.selects RX11 yX11_readAt yX11_readAt, Cond.code yX11_readAt cX11_readAt 4 (some (.object "LogCluster$Answer")), Cond.fieldLink RX11 205 "LogCluster$Server" "log" "LLogCluster$Log;", Cond.fieldLink RX11 275 "LogCluster$Part" "value" "I", Cond.fieldLink RX11 278 "LogCluster$Part" "version" "I", Cond.methodLink RX11 328 yX9_makeRoom, Cond.instanceMethod yX9_makeRoom, Cond.selects RX9 yX9_makeRoom yX9_makeRoom, Cond.code yX9_makeRoom cX9_makeRoom 5 (some .boolean), Cond.fieldLink RX9 58 "LogCluster$Server" "log" "LLogCluster$Log;", Cond.fieldLink RX9 62 "LogCluster$Log" "head" "LLogCluster$Segment;", Cond.fieldLink RX9 72 "LogCluster$Segment" "units" "I", Cond.methodLink RX9 68 yX9_allHoldersUp, Cond.instanceMethod yX9_allHoldersUp]
def wsL_law0_r15 : List Cond := [Cond.selects RX9 yX9_allHoldersUp yX9_allHoldersUp, Cond.code yX9_allHoldersUp cX9_allHoldersUp 2 (some .boolean), Cond.fieldLink RX9 53 "LogCluster$Segment" "holderMask" "I", Cond.methodLink RX9 73 yX9_open, Cond.instanceMethod yX9_open, Cond.selects RX9 yX9_open yX9_open, Cond.code yX9_open cX9_open 5 (some .boolean), Cond.fieldLink RX9 77 "LogCluster$Storage" "away" "Z", Cond.fieldLink RX9 50 "LogCluster$Server" "number" "I", Cond.fieldLink RX9 87 "LogCluster$Log" "segments" "Ljava/util/ArrayList;", Cond.fieldLink RX9 102 "LogCluster$Server" "safe" "I", Cond.fieldLink RX9 111 "LogCluster$Segment" "holderTotal" "I", Cond.fieldLink RX9 122 "LogCluster$Log" "latest" "LLogCluster$Segment;", Cond.methodLink RX9 81 yJ6_bitCount_0f7a4, Cond.static yJ6_bitCount_0f7a4, Cond.initialized RJ6, Cond.code yJ6_bitCount_0f7a4 cJ6_bitCount_0f7a4 1 (some .int), Cond.constant RJ6 265 (1431655765), Cond.constant RJ6 266 (858993459), Cond.constant RJ6 267 (252645135), Cond.methodLink RX9 90 yJx4a65c_size_8abf5, Cond.instanceMethod yJx4a65c_size_8abf5, Cond.selects RJx4a65c yJx4a65c_size_8abf5 yJx4a65c_size_8abf5, Cond.code yJx4a65c_size_8abf5 cJx4a65c_size_8abf5 1 (some .int)]
def wsL_law0_r16 : List Cond := [Cond.fieldLink RJx4a65c 48 "java/util/ArrayList" "size" "I", Cond.methodLink RX9 94 yX9_clean, Cond.instanceMethod yX9_clean, Cond.selects RX9 yX9_clean yX9_clean, Cond.code yX9_clean cX9_clean 8 none, Cond.classLink RX9 54 "LogCluster$Segment", Cond.fieldLink RX9 156 "LogCluster$Segment" "liveUnits" "I", Cond.fieldLink RX9 170 "LogCluster$Storage" "cleanings" "I", Cond.methodLink RX9 145 yX10_markLive, Cond.instanceMethod yX10_markLive, Cond.selects RX10 yX10_markLive yX10_markLive, Cond.code yX10_markLive cX10_markLive 5 none, Cond.fieldLink RX10 59 "LogCluster$Log" "segments" "Ljava/util/ArrayList;", Cond.classLink RX10 75 "LogCluster$Segment", Cond.fieldLink RX10 77 "LogCluster$Segment" "partTotal" "I", Cond.fieldLink RX10 80 "LogCluster$Segment" "parts" "[LLogCluster$Part;", Cond.fieldLink RX10 87 "LogCluster$Segment" "liveUnits" "I", Cond.fieldLink RX10 90 "LogCluster$Segment" "live" "[Z", Cond.fieldLink RX10 97 "LogCluster$Part" "units" "I", Cond.methodLink RX10 56 yX10_begin, Cond.instanceMethod yX10_begin, Cond.selects RX10 yX10_begin yX10_begin, Cond.code yX10_begin cX10_begin 2 none, Cond.fieldLink RX10 31 "LogCluster$Survey" "greatestTold" "I"]
def wsL_law0_r17 : List Cond := [Cond.methodLink RX10 65 yJx4a65c_size_8abf5, Cond.methodLink RX10 71 yJx4a65c_get_915e3, Cond.instanceMethod yJx4a65c_get_915e3, Cond.selects RJx4a65c yJx4a65c_get_915e3 yJx4a65c_get_915e3, Cond.code yJx4a65c_get_915e3 cJx4a65c_get_915e3 2 (some (.object "java/lang/Object")), Cond.methodLink RJx4a65c 118 yJ15_checkIndex_7cf53, Cond.static yJ15_checkIndex_7cf53, Cond.initialized RJ15, Cond.code yJ15_checkIndex_7cf53 cJ15_checkIndex_7cf53 2 (some .int), Cond.methodLink RJ15 105 yJ3_checkIndex_8e157, Cond.static yJ3_checkIndex_8e157, Cond.initialized RJ3, Cond.code yJ3_checkIndex_8e157 cJ3_checkIndex_8e157 3 (some .int), Cond.methodLink RJx4a65c 123 yJx4a65c_elementData_915e3, Cond.instanceMethod yJx4a65c_elementData_915e3, Cond.selects RJx4a65c yJx4a65c_elementData_915e3 yJx4a65c_elementData_915e3, Cond.code yJx4a65c_elementData_915e3 cJx4a65c_elementData_915e3 2 (some (.object "java/lang/Object")), Cond.methodLink RX10 83 yX10_learn, Cond.instanceMethod yX10_learn, Cond.selects RX10 yX10_learn yX10_learn, Cond.code yX10_learn cX10_learn 2 none, Cond.fieldLink RX10 35 "LogCluster$Part" "version" "I", Cond.fieldLink RX10 38 "LogCluster$Part" "tellsAcked" "Z", Cond.fieldLink RX10 42 "LogCluster$Part" "acked" "I"]
def wsL_law0_r18 : List Cond := [Cond.fieldLink RX10 44 "LogCluster$Part" "client" "I", Cond.fieldLink RX10 47 "LogCluster$Part" "kind" "I", Cond.fieldLink RX10 50 "LogCluster$Part" "marksVersion" "Z", Cond.fieldLink RX10 53 "LogCluster$Part" "key" "I", Cond.methodLink RX10 93 yX10_isLive, Cond.instanceMethod yX10_isLive, Cond.selects RX10 yX10_isLive yX10_isLive, Cond.code yX10_isLive cX10_isLive 2 (some .boolean), Cond.fieldLink RX10 100 "LogCluster$Part" "home" "LLogCluster$Segment;", Cond.fieldLink RX10 104 "LogCluster$Segment" "gone" "Z", Cond.fieldLink RX10 107 "LogCluster$Part" "number" "I", Cond.methodLink RX9 149 yX9_sortForCleaning, Cond.instanceMethod yX9_sortForCleaning, Cond.selects RX9 yX9_sortForCleaning yX9_sortForCleaning, Cond.code yX9_sortForCleaning cX9_sortForCleaning 5 none, Cond.methodLink RX9 173 yJx4a65c_clear_da8c8, Cond.instanceMethod yJx4a65c_clear_da8c8, Cond.selects RJx4a65c yJx4a65c_clear_da8c8 yJx4a65c_clear_da8c8, Cond.code yJx4a65c_clear_da8c8 cJx4a65c_clear_da8c8 4 none, Cond.fieldLink RJx4a65c 63 "java/util/ArrayList" "modCount" "I", Cond.sameField "java/util/ArrayList" "java/util/AbstractList" "modCount" "I", Cond.methodLink RX9 152 yJx4a65c_get_915e3, Cond.methodLink RX9 176 yJx4a65c_add_7a177, Cond.instanceMethod yJx4a65c_add_7a177]
def wsL_law0_r19 : List Cond := [Cond.selects RJx4a65c yJx4a65c_add_7a177 yJx4a65c_add_7a177, Cond.code yJx4a65c_add_7a177 cJx4a65c_add_7a177 5 none, Cond.methodLink RJx4a65c 112 arraycopyName, Cond.native arraycopyName, Cond.static arraycopyName, Cond.initialized "java/lang/System", Cond.methodLink RJx4a65c 135 yJx4a65c_rangeCheckForAdd_d00df, Cond.instanceMethod yJx4a65c_rangeCheckForAdd_d00df, Cond.selects RJx4a65c yJx4a65c_rangeCheckForAdd_d00df yJx4a65c_rangeCheckForAdd_d00df, Cond.code yJx4a65c_rangeCheckForAdd_d00df cJx4a65c_rangeCheckForAdd_d00df 2 none, Cond.methodLink RJx4a65c 129 yJx4a65c_grow_d5877, Cond.instanceMethod yJx4a65c_grow_d5877, Cond.selects RJx4a65c yJx4a65c_grow_d5877 yJx4a65c_grow_d5877, Cond.code yJx4a65c_grow_d5877 cJx4a65c_grow_d5877 1 (some (.array (.object "java/lang/Object"))), Cond.methodLink RJx4a65c 69 yJx4a65c_grow_92f84, Cond.instanceMethod yJx4a65c_grow_92f84, Cond.selects RJx4a65c yJx4a65c_grow_92f84 yJx4a65c_grow_92f84, Cond.code yJx4a65c_grow_92f84 cJx4a65c_grow_92f84 4 (some (.array (.object "java/lang/Object"))), Cond.methodLink RJx4a65c 79 Lib.Math.max.name, Cond.classLink RJx4a65c 7 "java/lang/Object", Cond.methodLink RJx4a65c 73 yJ8_newLength_cabcc, Cond.static yJ8_newLength_cabcc, Cond.initialized RJ8, Cond.code yJ8_newLength_cabcc cJ8_newLength_cabcc 4 (some .int)]
def wsL_law0_r20 : List Cond := [Cond.methodLink RJ8 194 Lib.Math.max.name, Cond.constant RJ8 200 (2147483639), Cond.methodLink RJ8 201 yJ8_hugeLength_7cf53, Cond.static yJ8_hugeLength_7cf53, Cond.code yJ8_hugeLength_7cf53 cJ8_hugeLength_7cf53 3 (some .int), Cond.methodLink RJx4a65c 66 yJ7_copyOf_1904c, Cond.static yJ7_copyOf_1904c, Cond.initialized RJ7, Cond.code yJ7_copyOf_1904c cJ7_copyOf_1904c 2 (some (.array (.object "java/lang/Object"))), Cond.methodLink RJ7 86 ⟨"java/lang/Object", "getClass", "()Ljava/lang/Class;"⟩, Cond.selects "[Ljava/lang/Object;" ⟨"java/lang/Object", "getClass", "()Ljava/lang/Class;"⟩ ⟨"java/lang/Object", "getClass", "()Ljava/lang/Class;"⟩, Cond.instanceMethod ⟨"java/lang/Object", "getClass", "()Ljava/lang/Class;"⟩, Cond.native ⟨"java/lang/Object", "getClass", "()Ljava/lang/Class;"⟩, Cond.methodLink RJ7 300 yJ7_copyOf_6403c, Cond.static yJ7_copyOf_6403c, Cond.code yJ7_copyOf_6403c cJ7_copyOf_6403c 4 (some (.array (.object "java/lang/Object"))), Cond.classLink RJ7 110 "[Ljava/lang/Object;", Cond.classLink RJ7 2 "java/lang/Object", Cond.methodLink RJ7 304 Lib.Math.min.name, Cond.methodLink RJ7 150 arraycopyName, Cond.methodLink RX9 159 yX3_letGo, Cond.instanceMethod yX3_letGo, Cond.selects RX3 yX3_letGo yX3_letGo, Cond.code yX3_letGo cX3_letGo 3 none]
def wsL_law0_r21 : List Cond := [Cond.fieldLink RX3 71 "LogCluster$Segment" "gone" "Z", Cond.classLink RX3 26 "LogCluster$Segment", Cond.fieldLink RX3 74 "LogCluster$Segment" "name" "I", Cond.methodLink RX3 18 yJx4a65c_size_8abf5, Cond.methodLink RX3 22 yJx4a65c_get_915e3, Cond.methodLink RX3 77 yJx4a65c_remove_915e3, Cond.instanceMethod yJx4a65c_remove_915e3, Cond.selects RJx4a65c yJx4a65c_remove_915e3 yJx4a65c_remove_915e3, Cond.code yJx4a65c_remove_915e3 cJx4a65c_remove_915e3 4 (some (.object "java/lang/Object")), Cond.methodLink RJx4a65c 144 yJx4a65c_fastRemove_b59b0, Cond.instanceMethod yJx4a65c_fastRemove_b59b0, Cond.selects RJx4a65c yJx4a65c_fastRemove_b59b0 yJx4a65c_fastRemove_b59b0, Cond.code yJx4a65c_fastRemove_b59b0 cJx4a65c_fastRemove_b59b0 4 none, Cond.methodLink RX9 163 yX9_endOfPacked, Cond.instanceMethod yX9_endOfPacked, Cond.selects RX9 yX9_endOfPacked yX9_endOfPacked, Cond.code yX9_endOfPacked cX9_endOfPacked 4 (some .int), Cond.methodLink RX9 98 yX9_newSegment, Cond.instanceMethod yX9_newSegment, Cond.selects RX9 yX9_newSegment yX9_newSegment, Cond.code yX9_newSegment cX9_newSegment 5 (some (.object "LogCluster$Segment")), Cond.classLink RX9 54 RX7, Cond.instantiable RX7 13, Cond.initialized RX7]
def wsL_law0_r22 : List Cond := [Cond.fieldLink RX9 125 "LogCluster$Storage" "nextName" "I", Cond.fieldLink RX9 131 "LogCluster$Segment" "name" "I", Cond.methodLink RX9 128 yX7_init, Cond.instanceMethod yX7_init, Cond.code yX7_init cX7_init 4 none, Cond.methodLink RX7 3 objectInit, Cond.fieldLink RX7 9 "LogCluster$Segment" "name" "I", Cond.classLink RX7 15 RX5, Cond.fieldLink RX7 17 "LogCluster$Segment" "parts" "[LLogCluster$Part;", Cond.fieldLink RX7 21 "LogCluster$Segment" "live" "[Z", Cond.fieldLink RX7 25 "LogCluster$Segment" "entryEnds" "[I", Cond.fieldLink RX7 29 "LogCluster$Segment" "holders" "[I", Cond.fieldLink RX7 32 "LogCluster$Segment" "held" "[I", Cond.methodLink RX9 134 yX9_ringAt, Cond.instanceMethod yX9_ringAt, Cond.selects RX9 yX9_ringAt yX9_ringAt, Cond.code yX9_ringAt cX9_ringAt 4 (some .int), Cond.methodLink RX9 138 yX9_isUp, Cond.instanceMethod yX9_isUp, Cond.selects RX9 yX9_isUp yX9_isUp, Cond.code yX9_isUp cX9_isUp 2 (some .boolean), Cond.methodLink RX9 142 yX7_addHolder, Cond.instanceMethod yX7_addHolder, Cond.selects RX7 yX7_addHolder yX7_addHolder]
def wsL_law0_r23 : List Cond := [Cond.code yX7_addHolder cX7_addHolder 2 none, Cond.fieldLink RX7 35 "LogCluster$Segment" "holderTotal" "I", Cond.fieldLink RX7 38 "LogCluster$Segment" "entryTotal" "I", Cond.fieldLink RX7 41 "LogCluster$Segment" "holderMask" "I", Cond.methodLink RX9 166 yX9_copyLive, Cond.static yX9_copyLive, Cond.code yX9_copyLive cX9_copyLive 3 none, Cond.fieldLink RX9 179 "LogCluster$Segment" "partTotal" "I", Cond.fieldLink RX9 182 "LogCluster$Segment" "live" "[Z", Cond.fieldLink RX9 186 "LogCluster$Segment" "parts" "[LLogCluster$Part;", Cond.methodLink RX9 114 yX7_addEntry, Cond.instanceMethod yX7_addEntry, Cond.selects RX7 yX7_addEntry yX7_addEntry, Cond.code yX7_addEntry cX7_addEntry 6 none, Cond.fieldLink RX7 44 "LogCluster$Segment" "partTotal" "I", Cond.fieldLink RX7 47 "LogCluster$Segment" "units" "I", Cond.fieldLink RX7 50 "LogCluster$Part" "units" "I", Cond.methodLink RX9 118 yJx4a65c_add_9ea2d, Cond.instanceMethod yJx4a65c_add_9ea2d, Cond.selects RJx4a65c yJx4a65c_add_9ea2d yJx4a65c_add_9ea2d, Cond.code yJx4a65c_add_9ea2d cJx4a65c_add_9ea2d 2 (some .boolean), Cond.methodLink RJx4a65c 131 yJx4a65c_add_72be8, Cond.instanceMethod yJx4a65c_add_72be8, Cond.selects RJx4a65c yJx4a65c_add_72be8 yJx4a65c_add_72be8]
def wsL_law0_r24 : List Cond := [Cond.code yJx4a65c_add_72be8 cJx4a65c_add_72be8 4 none, Cond.methodLink RX9 105 yX5_digest, Cond.static yX5_digest, Cond.initialized RX5, Cond.code yX5_digest cX5_digest 2 (some (.object "LogCluster$Part")), Cond.classLink RX5 10 RX5, Cond.instantiable RX5 12, Cond.fieldLink RX5 37 "LogCluster$Part" "version" "I", Cond.methodLink RX5 34 yX5_init, Cond.instanceMethod yX5_init, Cond.code yX5_init cX5_init 2 none, Cond.methodLink RX5 3 objectInit, Cond.fieldLink RX5 9 "LogCluster$Part" "client" "I", Cond.fieldLink RX5 15 "LogCluster$Part" "number" "I", Cond.fieldLink RX5 18 "LogCluster$Part" "key" "I", Cond.fieldLink RX5 21 "LogCluster$Part" "kind" "I", Cond.fieldLink RX5 24 "LogCluster$Part" "units" "I", Cond.fieldLink RX5 27 "LogCluster$Part" "marksVersion" "Z", Cond.fieldLink RX5 31 "LogCluster$Part" "tellsAcked" "Z", Cond.methodLink RX11 271 yX3_objectOf, Cond.instanceMethod yX3_objectOf, Cond.selects RX3 yX3_objectOf yX3_objectOf, Cond.code yX3_objectOf cX3_objectOf 3 (some (.object "LogCluster$Part")), Cond.methodLink RX3 51 yX3_homeOf]
def wsL_law0_r25 : List Cond := [Cond.instanceMethod yX3_homeOf, Cond.selects RX3 yX3_homeOf yX3_homeOf, Cond.code yX3_homeOf cX3_homeOf 8 (some (.object "LogCluster$Segment")), Cond.fieldLink RX3 28 "LogCluster$Segment" "partTotal" "I", Cond.fieldLink RX3 32 "LogCluster$Segment" "parts" "[LLogCluster$Part;", Cond.fieldLink RX3 36 "LogCluster$Part" "marksVersion" "Z", Cond.fieldLink RX3 42 "LogCluster$Part" "key" "I", Cond.fieldLink RX3 45 "LogCluster$Part" "version" "I", Cond.fieldLink RX3 48 "LogCluster$Part" "kind" "I", Cond.methodLink RX3 55 yX7_objectHere, Cond.instanceMethod yX7_objectHere, Cond.selects RX7 yX7_objectHere yX7_objectHere, Cond.code yX7_objectHere cX7_objectHere 5 (some (.object "LogCluster$Part")), Cond.fieldLink RX7 51 "LogCluster$Part" "kind" "I", Cond.fieldLink RX7 54 "LogCluster$Part" "key" "I", Cond.fieldLink RX7 57 "LogCluster$Part" "version" "I", Cond.methodLink RX11 325 yX11_changeAt, Cond.instanceMethod yX11_changeAt, Cond.selects RX11 yX11_changeAt yX11_changeAt, Cond.code yX11_changeAt cX11_changeAt 10 (some (.object "LogCluster$Answer")), Cond.fieldLink RX11 353 "LogCluster$Part" "units" "I", Cond.fieldLink RX11 354 "LogCluster$Part" "kind" "I", Cond.fieldLink RX11 355 "LogCluster$Part" "key" "I", Cond.fieldLink RX11 360 "LogCluster$Part" "home" "LLogCluster$Segment;"]
def wsL_law0_r26 : List Cond := [Cond.fieldLink RX11 167 "LogCluster$Server" "cutAt" "I", Cond.fieldLink RX11 306 "LogCluster" "effects" "I", Cond.fieldLink RX11 202 "LogCluster$Server" "safe" "I", Cond.fieldLink RX11 367 "LogCluster$Part" "status" "I", Cond.methodLink RX11 332 yX3_ackedOf, Cond.instanceMethod yX3_ackedOf, Cond.selects RX3 yX3_ackedOf yX3_ackedOf, Cond.code yX3_ackedOf cX3_ackedOf 7 (some .int), Cond.fieldLink RX3 59 "LogCluster$Part" "tellsAcked" "Z", Cond.fieldLink RX3 62 "LogCluster$Part" "client" "I", Cond.fieldLink RX3 65 "LogCluster$Part" "acked" "I", Cond.methodLink RX11 341 yX11_answerWithoutEntry, Cond.static yX11_answerWithoutEntry, Cond.code yX11_answerWithoutEntry cX11_answerWithoutEntry 4 (some (.object "LogCluster$Answer")), Cond.methodLink RX11 368 yX3_resultOf, Cond.instanceMethod yX3_resultOf, Cond.selects RX3 yX3_resultOf yX3_resultOf, Cond.code yX3_resultOf cX3_resultOf 7 (some (.object "LogCluster$Part")), Cond.fieldLink RX3 68 "LogCluster$Part" "number" "I", Cond.methodLink RX11 345 yX5_result, Cond.static yX5_result, Cond.code yX5_result cX5_result 3 (some (.object "LogCluster$Part")), Cond.fieldLink RX5 46 "LogCluster$Request" "client" "I", Cond.fieldLink RX5 49 "LogCluster$Request" "number" "I"]
def wsL_law0_r27 : List Cond := [Cond.fieldLink RX5 50 "LogCluster$Request" "key" "I", Cond.fieldLink RX5 40 "LogCluster$Part" "acked" "I", Cond.methodLink RX11 349 yX11_decide, Cond.static yX11_decide, Cond.code yX11_decide cX11_decide 6 (some (.object "LogCluster$Part")), Cond.fieldLink RX11 372 "LogCluster$Request" "b" "I", Cond.fieldLink RX11 381 "LogCluster$Request" "a" "I", Cond.methodLink RX11 375 yX5_tell, Cond.instanceMethod yX5_tell, Cond.selects RX5 yX5_tell yX5_tell, Cond.code yX5_tell cX5_tell 4 none, Cond.fieldLink RX5 51 "LogCluster$Part" "status" "I", Cond.fieldLink RX5 43 "LogCluster$Part" "value" "I", Cond.methodLink RX11 378 yX5_tomb, Cond.static yX5_tomb, Cond.code yX5_tomb cX5_tomb 3 (some (.object "LogCluster$Part")), Cond.methodLink RX11 384 yX5_object, Cond.static yX5_object, Cond.code yX5_object cX5_object 4 (some (.object "LogCluster$Part")), Cond.methodLink RX11 356 yX3_homeOf, Cond.methodLink RX11 363 yX9_write, Cond.instanceMethod yX9_write, Cond.selects RX9 yX9_write yX9_write, Cond.code yX9_write cX9_write 6 none]
def wsL_law0_r28 : List Cond := [Cond.fieldLink RX9 190 "LogCluster$Storage" "appended" "I", Cond.methodLink RX11 156 yX2_bringDown, Cond.instanceMethod yX2_bringDown, Cond.selects RX2 yX2_bringDown yX2_bringDown, Cond.code yX2_bringDown cX2_bringDown 2 none, Cond.fieldLink RX2 48 "LogCluster$Server" "lost" "Z", Cond.fieldLink RX2 52 "LogCluster$Server" "number" "I", Cond.fieldLink RX2 59 "LogCluster$Server" "log" "LLogCluster$Log;", Cond.fieldLink RX2 63 "LogCluster$Server" "lostLog" "LLogCluster$Log;", Cond.methodLink RX2 55 yX2_tabletsOf, Cond.instanceMethod yX2_tabletsOf, Cond.selects RX2 yX2_tabletsOf yX2_tabletsOf, Cond.code yX2_tabletsOf cX2_tabletsOf 4 (some .int), Cond.methodLink RX2 69 yX9_setState, Cond.instanceMethod yX9_setState, Cond.selects RX9 yX9_setState yX9_setState, Cond.code yX9_setState cX9_setState 3 none, Cond.fieldLink RX9 47 "LogCluster$Server" "state" "I", Cond.methodLink RL 40 yX12_deliver, Cond.instanceMethod yX12_deliver, Cond.selects RX12 yX12_deliver yX12_deliver, Cond.code yX12_deliver cX12_deliver 3 (some .int), Cond.methodLink RX12 331 yX12_isMessage, Cond.instanceMethod yX12_isMessage]
def wsL_law0_r29 : List Cond := [Cond.selects RX12 yX12_isMessage yX12_isMessage, Cond.code yX12_isMessage cX12_isMessage 2 (some .boolean), Cond.methodLink RX12 334 yX12_arrives, Cond.instanceMethod yX12_arrives, Cond.selects RX12 yX12_arrives yX12_arrives, Cond.code yX12_arrives cX12_arrives 5 (some .int), Cond.methodLink RX12 322 yX12_forgets, Cond.instanceMethod yX12_forgets, Cond.selects RX12 yX12_forgets yX12_forgets, Cond.code yX12_forgets cX12_forgets 3 none, Cond.fieldLink RX12 180 "LogClusterModel" "top" "I", Cond.fieldLink RX12 284 "LogClusterModel" "forgot" "I", Cond.methodLink RX12 281 yX12_loses, Cond.instanceMethod yX12_loses, Cond.selects RX12 yX12_loses yX12_loses, Cond.code yX12_loses cX12_loses 3 none, Cond.methodLink RX12 297 yX12_answers, Cond.instanceMethod yX12_answers, Cond.selects RX12 yX12_answers yX12_answers, Cond.code yX12_answers cX12_answers 5 (some .int), Cond.methodLink RX12 325 yX12_reads, Cond.instanceMethod yX12_reads, Cond.selects RX12 yX12_reads yX12_reads, Cond.code yX12_reads cX12_reads 5 (some .int)]
def wsL_law0_r30 : List Cond := [Cond.methodLink RX12 258 yX12_isHeadGood, Cond.instanceMethod yX12_isHeadGood, Cond.selects RX12 yX12_isHeadGood yX12_isHeadGood, Cond.code yX12_isHeadGood cX12_isHeadGood 2 (some .boolean), Cond.methodLink RX12 255 yX12_holdersUp, Cond.instanceMethod yX12_holdersUp, Cond.selects RX12 yX12_holdersUp yX12_holdersUp, Cond.code yX12_holdersUp cX12_holdersUp 4 (some .int), Cond.methodLink RX12 164 yX12_isUp, Cond.instanceMethod yX12_isUp, Cond.selects RX12 yX12_isUp yX12_isUp, Cond.code yX12_isUp cX12_isUp 2 (some .boolean), Cond.methodLink RX12 268 yX12_opens, Cond.instanceMethod yX12_opens, Cond.selects RX12 yX12_opens yX12_opens, Cond.code yX12_opens cX12_opens 4 (some .boolean), Cond.fieldLink RX12 242 "LogClusterModel" "isAway" "Z", Cond.methodLink RX12 246 yX12_upBut, Cond.instanceMethod yX12_upBut, Cond.selects RX12 yX12_upBut yX12_upBut, Cond.code yX12_upBut cX12_upBut 4 (some .int), Cond.methodLink RX12 249 yX12_segmentsOf, Cond.instanceMethod yX12_segmentsOf, Cond.selects RX12 yX12_segmentsOf yX12_segmentsOf]
def wsL_law0_r31 : List Cond := [Cond.code yX12_segmentsOf cX12_segmentsOf 4 (some .int), Cond.methodLink RX12 252 yX12_clean, Cond.instanceMethod yX12_clean, Cond.selects RX12 yX12_clean yX12_clean, Cond.code yX12_clean cX12_clean 12 none, Cond.fieldLink RX12 239 "LogClusterModel" "cleanings" "I", Cond.methodLink RX12 193 yX12_latest, Cond.instanceMethod yX12_latest, Cond.selects RX12 yX12_latest yX12_latest, Cond.code yX12_latest cX12_latest 4 (some .int), Cond.methodLink RX12 222 yX12_next, Cond.instanceMethod yX12_next, Cond.selects RX12 yX12_next yX12_next, Cond.code yX12_next cX12_next 5 (some .int), Cond.methodLink RX12 216 yX12_isLive, Cond.instanceMethod yX12_isLive, Cond.selects RX12 yX12_isLive yX12_isLive, Cond.code yX12_isLive cX12_isLive 6 (some .boolean), Cond.methodLink RX12 168 yX12_at, Cond.static yX12_at, Cond.code yX12_at cX12_at 4 (some .int), Cond.methodLink RX12 199 yX12_versionIn, Cond.instanceMethod yX12_versionIn, Cond.selects RX12 yX12_versionIn yX12_versionIn]
def wsL_law0_r32 : List Cond := [Cond.code yX12_versionIn cX12_versionIn 10 (some .int), Cond.methodLink RX12 196 yX12_there, Cond.instanceMethod yX12_there, Cond.selects RX12 yX12_there yX12_there, Cond.code yX12_there cX12_there 4 (some .int), Cond.methodLink RX12 208 yX12_hasName, Cond.instanceMethod yX12_hasName, Cond.selects RX12 yX12_hasName yX12_hasName, Cond.code yX12_hasName cX12_hasName 4 (some .boolean), Cond.methodLink RX12 205 yX12_ackedIn, Cond.instanceMethod yX12_ackedIn, Cond.selects RX12 yX12_ackedIn yX12_ackedIn, Cond.code yX12_ackedIn cX12_ackedIn 10 (some .int), Cond.methodLink RX12 212 yX12_isNoteLive, Cond.instanceMethod yX12_isNoteLive, Cond.selects RX12 yX12_isNoteLive yX12_isNoteLive, Cond.code yX12_isNoteLive cX12_isNoteLive 10 (some .boolean), Cond.methodLink RX12 225 yX12_liveUnits, Cond.instanceMethod yX12_liveUnits, Cond.selects RX12 yX12_liveUnits yX12_liveUnits, Cond.code yX12_liveUnits cX12_liveUnits 5 (some .int), Cond.methodLink RX12 172 yX12_unitsOf, Cond.static yX12_unitsOf, Cond.code yX12_unitsOf cX12_unitsOf 1 (some .int)]
def wsL_law0_r33 : List Cond := [Cond.methodLink RX12 228 yX12_newSegment, Cond.instanceMethod yX12_newSegment, Cond.selects RX12 yX12_newSegment yX12_newSegment, Cond.code yX12_newSegment cX12_newSegment 5 (some .int), Cond.fieldLink RX12 183 "LogClusterModel" "opened" "I", Cond.methodLink RX12 186 yX12_ring, Cond.instanceMethod yX12_ring, Cond.selects RX12 yX12_ring yX12_ring, Cond.code yX12_ring cX12_ring 6 (some .int), Cond.methodLink RX12 189 yX12_addHolder, Cond.instanceMethod yX12_addHolder, Cond.selects RX12 yX12_addHolder yX12_addHolder, Cond.code yX12_addHolder cX12_addHolder 3 none, Cond.methodLink RX12 232 yX12_makeOf, Cond.instanceMethod yX12_makeOf, Cond.selects RX12 yX12_makeOf yX12_makeOf, Cond.code yX12_makeOf cX12_makeOf 3 none, Cond.methodLink RX12 219 yX12_blank, Cond.instanceMethod yX12_blank, Cond.selects RX12 yX12_blank yX12_blank, Cond.code yX12_blank cX12_blank 2 none, Cond.methodLink RX12 236 yX12_comes, Cond.instanceMethod yX12_comes, Cond.selects RX12 yX12_comes yX12_comes]
def wsL_law0_r34 : List Cond := [Cond.code yX12_comes cX12_comes 5 none, Cond.methodLink RX12 272 yX12_objectIn, Cond.instanceMethod yX12_objectIn, Cond.selects RX12 yX12_objectIn yX12_objectIn, Cond.code yX12_objectIn cX12_objectIn 9 (some .int), Cond.fieldLink RX12 202 "LogClusterModel" "foundSegment" "I", Cond.methodLink RX12 328 yX12_writes, Cond.instanceMethod yX12_writes, Cond.selects RX12 yX12_writes yX12_writes, Cond.code yX12_writes cX12_writes 14 (some .int), Cond.methodLink RX12 300 Lib.Math.max.name, Cond.fieldLink RX12 316 "LogClusterModel" "effects" "I", Cond.methodLink RX12 305 yX12_resultIn, Cond.instanceMethod yX12_resultIn, Cond.selects RX12 yX12_resultIn yX12_resultIn, Cond.code yX12_resultIn cX12_resultIn 9 (some .int), Cond.methodLink RX12 308 yX12_result, Cond.instanceMethod yX12_result, Cond.selects RX12 yX12_result yX12_result, Cond.code yX12_result cX12_result 10 none, Cond.methodLink RX12 312 yX12_append, Cond.instanceMethod yX12_append, Cond.selects RX12 yX12_append yX12_append, Cond.code yX12_append cX12_append 6 (some .boolean)]
def wsL_law0_r35 : List Cond := [Cond.fieldLink RX12 275 "LogClusterModel" "appended" "I", Cond.methodLink RX12 261 yX12_used, Cond.instanceMethod yX12_used, Cond.selects RX12 yX12_used yX12_used, Cond.code yX12_used cX12_used 4 (some .int), Cond.methodLink RX12 176 yX12_entryUnits, Cond.instanceMethod yX12_entryUnits, Cond.selects RX12 yX12_entryUnits yX12_entryUnits, Cond.code yX12_entryUnits cX12_entryUnits 3 (some .int), Cond.methodLink RX12 264 yX12_madeUnits, Cond.instanceMethod yX12_madeUnits, Cond.selects RX12 yX12_madeUnits yX12_madeUnits, Cond.code yX12_madeUnits cX12_madeUnits 1 (some .int), Cond.methodLink RX12 319 yX12_goesDown, Cond.instanceMethod yX12_goesDown, Cond.selects RX12 yX12_goesDown yX12_goesDown, Cond.code yX12_goesDown cX12_goesDown 4 none, Cond.methodLink RX12 278 yX12_owns, Cond.instanceMethod yX12_owns, Cond.selects RX12 yX12_owns yX12_owns, Cond.code yX12_owns cX12_owns 4 (some .int), Cond.methodLink RL 41 yX11_drop, Cond.instanceMethod yX11_drop, Cond.selects RX11 yX11_drop yX11_drop]
def wsL_law0_r36 : List Cond := [Cond.code yX11_drop cX11_drop 2 (some .boolean), Cond.methodLink RL 45 yX12_drop, Cond.instanceMethod yX12_drop, Cond.selects RX12 yX12_drop yX12_drop, Cond.code yX12_drop cX12_drop 2 (some .boolean), Cond.methodLink RL 46 yX11_twice, Cond.instanceMethod yX11_twice, Cond.selects RX11 yX11_twice yX11_twice, Cond.code yX11_twice cX11_twice 4 (some .int), Cond.methodLink RL 49 yX12_twice, Cond.instanceMethod yX12_twice, Cond.selects RX12 yX12_twice yX12_twice, Cond.code yX12_twice cX12_twice 3 (some .int), Cond.methodLink RL 50 yL_message, Cond.static yL_message, Cond.codeWith yL_message cL_message 5 (some .int) [(0, 10, 13, 13)], Cond.classLink RL 13 "java/util/NoSuchElementException", Cond.methodLink RL 7 yX11_message, Cond.instanceMethod yX11_message, Cond.selects RX11 yX11_message yX11_message, Cond.code yX11_message cX11_message 4 (some .int), Cond.classLink RX11 117 "java/util/NoSuchElementException", Cond.initialized "java/util/NoSuchElementException", Cond.fieldLink RX11 124 "LogCluster$Server" "number" "I"]
def wsL_law0_r37 : List Cond := [Cond.fieldLink RX11 125 "LogCluster$Answer" "status" "I", Cond.methodLink RL 53 yX12_message, Cond.instanceMethod yX12_message, Cond.selects RX12 yX12_message yX12_message, Cond.code yX12_message cX12_message 3 (some .int), Cond.methodLink RL 54 yX12_thrown, Cond.instanceMethod yX12_thrown, Cond.selects RX12 yX12_thrown yX12_thrown, Cond.code yX12_thrown cX12_thrown 1 (some .int), Cond.methodLink RL 58 yX11_got, Cond.instanceMethod yX11_got, Cond.selects RX11 yX11_got yX11_got, Cond.code yX11_got cX11_got 5 (some .int), Cond.constant RX11 135 (-1000000), Cond.fieldLink RX11 136 "LogCluster$Client" "answers" "[LLogCluster$Answer;", Cond.fieldLink RX11 140 "LogCluster$Answer" "value" "I", Cond.fieldLink RX11 143 "LogCluster$Answer" "version" "I", Cond.methodLink RL 62 yX12_got, Cond.instanceMethod yX12_got, Cond.selects RX12 yX12_got yX12_got, Cond.code yX12_got cX12_got 5 (some .int), Cond.constant RX12 337 (-1000000), Cond.methodLink RL 63 yX11_acked, Cond.instanceMethod yX11_acked]
def wsL_law0_r38 : List Cond := [Cond.selects RX11 yX11_acked yX11_acked, Cond.code yX11_acked cX11_acked 2 (some .int), Cond.methodLink RL 66 yX12_acked, Cond.instanceMethod yX12_acked, Cond.selects RX12 yX12_acked yX12_acked, Cond.code yX12_acked cX12_acked 2 (some .int), Cond.methodLink RL 67 yX11_crash, Cond.instanceMethod yX11_crash, Cond.selects RX11 yX11_crash yX11_crash, Cond.code yX11_crash cX11_crash 2 (some .boolean), Cond.methodLink RX11 149 yX11_isServer, Cond.instanceMethod yX11_isServer, Cond.selects RX11 yX11_isServer yX11_isServer, Cond.code yX11_isServer cX11_isServer 2 (some .boolean), Cond.methodLink RL 70 yX12_crash, Cond.instanceMethod yX12_crash, Cond.selects RX12 yX12_crash yX12_crash, Cond.code yX12_crash cX12_crash 2 (some .boolean), Cond.methodLink RX12 338 yX12_isServer, Cond.instanceMethod yX12_isServer, Cond.selects RX12 yX12_isServer yX12_isServer, Cond.code yX12_isServer cX12_isServer 2 (some .boolean), Cond.methodLink RL 71 yX11_restart, Cond.instanceMethod yX11_restart]
def wsL_law0_r39 : List Cond := [Cond.selects RX11 yX11_restart yX11_restart, Cond.code yX11_restart cX11_restart 2 (some .boolean), Cond.methodLink RX11 160 yX11_moved, Cond.instanceMethod yX11_moved, Cond.selects RX11 yX11_moved yX11_moved, Cond.code yX11_moved cX11_moved 4 (some .boolean), Cond.methodLink RX11 391 yX9_setState, Cond.methodLink RL 74 yX12_restart, Cond.instanceMethod yX12_restart, Cond.selects RX12 yX12_restart yX12_restart, Cond.code yX12_restart cX12_restart 2 (some .boolean), Cond.methodLink RX12 341 yX12_from, Cond.instanceMethod yX12_from, Cond.selects RX12 yX12_from yX12_from, Cond.code yX12_from cX12_from 4 (some .boolean), Cond.methodLink RL 75 yX11_sleep, Cond.instanceMethod yX11_sleep, Cond.selects RX11 yX11_sleep yX11_sleep, Cond.code yX11_sleep cX11_sleep 2 (some .boolean), Cond.methodLink RL 78 yX12_sleep, Cond.instanceMethod yX12_sleep, Cond.selects RX12 yX12_sleep yX12_sleep, Cond.code yX12_sleep cX12_sleep 2 (some .boolean), Cond.methodLink RL 79 yX11_wake]
def wsL_law0_r40 : List Cond := [Cond.instanceMethod yX11_wake, Cond.selects RX11 yX11_wake yX11_wake, Cond.code yX11_wake cX11_wake 2 (some .boolean), Cond.methodLink RL 82 yX12_wake, Cond.instanceMethod yX12_wake, Cond.selects RX12 yX12_wake yX12_wake, Cond.code yX12_wake cX12_wake 2 (some .boolean), Cond.methodLink RL 83 yX11_cut, Cond.instanceMethod yX11_cut, Cond.selects RX11 yX11_cut yX11_cut, Cond.code yX11_cut cX11_cut 4 (some .boolean), Cond.fieldLink RX11 164 "LogCluster$Storage" "replicas" "I", Cond.methodLink RL 87 yX12_cut, Cond.instanceMethod yX12_cut, Cond.selects RX12 yX12_cut yX12_cut, Cond.code yX12_cut cX12_cut 3 (some .boolean), Cond.methodLink RL 88 yX11_coordinator, Cond.instanceMethod yX11_coordinator, Cond.selects RX11 yX11_coordinator yX11_coordinator, Cond.code yX11_coordinator cX11_coordinator 2 none, Cond.fieldLink RX11 170 "LogCluster$Storage" "away" "Z", Cond.methodLink RL 92 yX12_coordinator, Cond.instanceMethod yX12_coordinator, Cond.selects RX12 yX12_coordinator yX12_coordinator]
def wsL_law0_r41 : List Cond := [Cond.code yX12_coordinator cX12_coordinator 2 none, Cond.methodLink RL 93 yX11_tick, Cond.instanceMethod yX11_tick, Cond.selects RX11 yX11_tick yX11_tick, Cond.code yX11_tick cX11_tick 4 (some .int), Cond.fieldLink RX11 174 "LogCluster" "clock" "I", Cond.methodLink RX11 177 yX2_tendServers, Cond.instanceMethod yX2_tendServers, Cond.selects RX2 yX2_tendServers yX2_tendServers, Cond.code yX2_tendServers cX2_tendServers 4 none, Cond.fieldLink RX2 89 "LogCluster$Server" "state" "I", Cond.fieldLink RX2 92 "LogCluster$Server" "fenced" "Z", Cond.fieldLink RX2 99 "LogCluster$Log" "head" "LLogCluster$Segment;", Cond.methodLink RX2 95 yX2_forget, Cond.methodLink RX2 103 yX9_allHoldersUp, Cond.methodLink RX2 107 yX9_mend, Cond.instanceMethod yX9_mend, Cond.selects RX9 yX9_mend yX9_mend, Cond.code yX9_mend cX9_mend 5 none, Cond.fieldLink RX9 197 "LogCluster$Storage" "mendings" "I", Cond.methodLink RX9 193 yX9_spareFor, Cond.instanceMethod yX9_spareFor, Cond.selects RX9 yX9_spareFor yX9_spareFor, Cond.code yX9_spareFor cX9_spareFor 5 (some .int)]
def wsL_law0_r42 : List Cond := [Cond.methodLink RX11 180 yX2_lookForDead, Cond.instanceMethod yX2_lookForDead, Cond.selects RX2 yX2_lookForDead yX2_lookForDead, Cond.code yX2_lookForDead cX2_lookForDead 4 none, Cond.fieldLink RX2 110 "LogCluster$Server" "misses" "I", Cond.methodLink RX2 81 yJx4a65c_size_8abf5, Cond.methodLink RX2 113 yX2_declareDead, Cond.instanceMethod yX2_declareDead, Cond.selects RX2 yX2_declareDead yX2_declareDead, Cond.code yX2_declareDead cX2_declareDead 4 none, Cond.classLink RX2 77 RX3, Cond.fieldLink RX2 117 "LogCluster$Log" "tablets" "I", Cond.fieldLink RX2 122 "LogCluster$Coordinator" "deaths" "I", Cond.methodLink RX2 118 yJx4a65c_add_9ea2d, Cond.methodLink RX11 183 yX2_recoverDead, Cond.instanceMethod yX2_recoverDead, Cond.selects RX2 yX2_recoverDead yX2_recoverDead, Cond.code yX2_recoverDead cX2_recoverDead 7 (some .int), Cond.classLink RX2 77 "LogCluster$Log", Cond.fieldLink RX2 129 "LogCluster$Storage" "up" "I", Cond.methodLink RX2 85 yJx4a65c_get_915e3, Cond.methodLink RX2 125 yX9_canRecover, Cond.instanceMethod yX9_canRecover, Cond.selects RX9 yX9_canRecover yX9_canRecover]
def wsL_law0_r43 : List Cond := [Cond.code yX9_canRecover cX9_canRecover 3 (some .boolean), Cond.methodLink RX2 132 yX10_readDead, Cond.instanceMethod yX10_readDead, Cond.selects RX10 yX10_readDead yX10_readDead, Cond.code yX10_readDead cX10_readDead 8 none, Cond.methodLink RX10 110 yX7_partsReadable, Cond.instanceMethod yX7_partsReadable, Cond.selects RX7 yX7_partsReadable yX7_partsReadable, Cond.code yX7_partsReadable cX7_partsReadable 4 (some .int), Cond.methodLink RX2 136 yX2_heirOfNext, Cond.instanceMethod yX2_heirOfNext, Cond.selects RX2 yX2_heirOfNext yX2_heirOfNext, Cond.code yX2_heirOfNext cX2_heirOfNext 6 (some (.object "LogCluster$Server")), Cond.methodLink RX2 140 yX2_takeOver, Cond.instanceMethod yX2_takeOver, Cond.selects RX2 yX2_takeOver yX2_takeOver, Cond.code yX2_takeOver cX2_takeOver 5 none, Cond.fieldLink RX2 146 "LogCluster$Survey" "greatestTold" "I", Cond.fieldLink RX2 149 "LogCluster$Server" "safe" "I", Cond.classLink RX2 159 "LogCluster$Part", Cond.fieldLink RX2 161 "LogCluster$Part" "units" "I", Cond.methodLink RX2 152 yX9_open, Cond.methodLink RX2 156 yX2_gatherMoving, Cond.instanceMethod yX2_gatherMoving]
def wsL_law0_r44 : List Cond := [Cond.selects RX2 yX2_gatherMoving yX2_gatherMoving, Cond.code yX2_gatherMoving cX2_gatherMoving 5 none, Cond.fieldLink RX2 175 "LogCluster$Survey" "acked" "[I", Cond.fieldLink RX2 185 "LogCluster$Survey" "objects" "[LLogCluster$Part;", Cond.fieldLink RX2 189 "LogCluster$Survey" "results" "[LLogCluster$Part;", Cond.fieldLink RX2 192 "LogCluster$Part" "key" "I", Cond.fieldLink RX2 198 "LogCluster$Part" "number" "I", Cond.fieldLink RX2 199 "LogCluster$Part" "client" "I", Cond.methodLink RX2 172 yJx4a65c_clear_da8c8, Cond.methodLink RX2 178 yX3_ackedOf, Cond.methodLink RX2 181 yX5_note, Cond.static yX5_note, Cond.code yX5_note cX5_note 3 (some (.object "LogCluster$Part")), Cond.methodLink RX2 164 yX9_makeRoom, Cond.methodLink RX2 168 yX9_write, Cond.methodLink RX2 143 yJx4a65c_remove_915e3, Cond.methodLink RL 96 yX12_tick, Cond.instanceMethod yX12_tick, Cond.selects RX12 yX12_tick yX12_tick, Cond.code yX12_tick cX12_tick 4 (some .int), Cond.methodLink RX12 389 yX12_oneTick, Cond.instanceMethod yX12_oneTick, Cond.selects RX12 yX12_oneTick yX12_oneTick, Cond.code yX12_oneTick cX12_oneTick 3 (some .int)]
def wsL_law0_r45 : List Cond := [Cond.fieldLink RX12 374 "LogClusterModel" "clock" "I", Cond.fieldLink RX12 353 "LogClusterModel" "deads" "I", Cond.methodLink RX12 377 yX12_ticksServer, Cond.instanceMethod yX12_ticksServer, Cond.selects RX12 yX12_ticksServer yX12_ticksServer, Cond.code yX12_ticksServer cX12_ticksServer 3 none, Cond.methodLink RX12 350 yX12_mends, Cond.instanceMethod yX12_mends, Cond.selects RX12 yX12_mends yX12_mends, Cond.code yX12_mends cX12_mends 5 (some .boolean), Cond.fieldLink RX12 347 "LogClusterModel" "mendings" "I", Cond.methodLink RX12 344 yX12_isHolder, Cond.instanceMethod yX12_isHolder, Cond.selects RX12 yX12_isHolder yX12_isHolder, Cond.code yX12_isHolder cX12_isHolder 4 (some .boolean), Cond.methodLink RX12 380 yX12_watches, Cond.instanceMethod yX12_watches, Cond.selects RX12 yX12_watches yX12_watches, Cond.code yX12_watches cX12_watches 5 none, Cond.fieldLink RX12 359 "LogClusterModel" "deadEver" "I", Cond.methodLink RX12 356 yX12_freeDead, Cond.instanceMethod yX12_freeDead, Cond.selects RX12 yX12_freeDead yX12_freeDead, Cond.code yX12_freeDead cX12_freeDead 4 (some .int)]
def wsL_law0_r46 : List Cond := [Cond.methodLink RX12 383 yX12_recovers, Cond.instanceMethod yX12_recovers, Cond.selects RX12 yX12_recovers yX12_recovers, Cond.code yX12_recovers cX12_recovers 5 (some .boolean), Cond.methodLink RX12 365 yX12_canRead, Cond.instanceMethod yX12_canRead, Cond.selects RX12 yX12_canRead yX12_canRead, Cond.code yX12_canRead cX12_canRead 3 (some .boolean), Cond.methodLink RX12 368 yX12_newOwner, Cond.instanceMethod yX12_newOwner, Cond.selects RX12 yX12_newOwner yX12_newOwner, Cond.code yX12_newOwner cX12_newOwner 3 (some .int), Cond.methodLink RX12 371 yX12_takesOver, Cond.instanceMethod yX12_takesOver, Cond.selects RX12 yX12_takesOver yX12_takesOver, Cond.code yX12_takesOver cX12_takesOver 9 none, Cond.methodLink RX12 362 yX12_greatest, Cond.instanceMethod yX12_greatest, Cond.selects RX12 yX12_greatest yX12_greatest, Cond.code yX12_greatest cX12_greatest 7 (some .int), Cond.methodLink RX12 386 yX12_dropDead, Cond.instanceMethod yX12_dropDead, Cond.selects RX12 yX12_dropDead yX12_dropDead, Cond.code yX12_dropDead cX12_dropDead 4 none]
def wsL_law0_r47 : List Cond := [Cond.methodLink RL 97 yX11_owner, Cond.instanceMethod yX11_owner, Cond.selects RX11 yX11_owner yX11_owner, Cond.code yX11_owner cX11_owner 2 (some .int), Cond.methodLink RL 100 yX12_owner, Cond.instanceMethod yX12_owner, Cond.selects RX12 yX12_owner yX12_owner, Cond.code yX12_owner cX12_owner 2 (some .int), Cond.methodLink RL 101 yX11_server, Cond.instanceMethod yX11_server, Cond.selects RX11 yX11_server yX11_server, Cond.code yX11_server cX11_server 4 (some .int), Cond.fieldLink RX11 209 "LogCluster$Log" "segments" "Ljava/util/ArrayList;", Cond.fieldLink RX11 227 "LogCluster$Server" "misses" "I", Cond.fieldLink RX11 230 "LogCluster$Log" "head" "LLogCluster$Segment;", Cond.fieldLink RX11 234 "LogCluster$Segment" "name" "I", Cond.methodLink RX11 196 yJ6_bitCount_0f7a4, Cond.methodLink RX11 215 yJx4a65c_size_8abf5, Cond.methodLink RX11 220 yX11_unitsOf, Cond.instanceMethod yX11_unitsOf, Cond.selects RX11 yX11_unitsOf yX11_unitsOf, Cond.code yX11_unitsOf cX11_unitsOf 6 (some .int), Cond.fieldLink RX11 249 "LogCluster$Storage" "survey" "LLogCluster$Survey;", Cond.classLink RX11 235 "LogCluster$Segment"]
def wsL_law0_r48 : List Cond := [Cond.fieldLink RX11 259 "LogCluster$Segment" "liveUnits" "I", Cond.fieldLink RX11 246 "LogCluster$Segment" "units" "I", Cond.fieldLink RX11 399 "LogCluster$Storage" "units" "I", Cond.methodLink RX11 253 yX10_markLive, Cond.methodLink RX11 239 yJx4a65c_get_915e3, Cond.methodLink RX11 224 yX2_copiesAt, Cond.instanceMethod yX2_copiesAt, Cond.selects RX2 yX2_copiesAt yX2_copiesAt, Cond.code yX2_copiesAt cX2_copiesAt 5 (some .int), Cond.methodLink RX2 76 yX3_copiesAt, Cond.instanceMethod yX3_copiesAt, Cond.selects RX3 yX3_copiesAt yX3_copiesAt, Cond.code yX3_copiesAt cX3_copiesAt 4 (some .int), Cond.fieldLink RX3 80 "LogCluster$Segment" "holderMask" "I", Cond.methodLink RL 104 yX12_server, Cond.instanceMethod yX12_server, Cond.selects RX12 yX12_server yX12_server, Cond.code yX12_server cX12_server 3 (some .int), Cond.methodLink RX12 392 yX12_ownTablets, Cond.instanceMethod yX12_ownTablets, Cond.selects RX12 yX12_ownTablets yX12_ownTablets, Cond.code yX12_ownTablets cX12_ownTablets 4 (some .int), Cond.methodLink RX12 395 yX12_sum, Cond.instanceMethod yX12_sum]
def wsL_law0_r49 : List Cond := [Cond.selects RX12 yX12_sum yX12_sum, Cond.code yX12_sum cX12_sum 8 (some .int), Cond.methodLink RL 105 yX11_segment, Cond.instanceMethod yX11_segment, Cond.selects RX11 yX11_segment yX11_segment, Cond.code yX11_segment cX11_segment 6 (some .int), Cond.fieldLink RX11 243 "LogCluster$Segment" "entryTotal" "I", Cond.fieldLink RX11 262 "LogCluster$Segment" "holderTotal" "I", Cond.fieldLink RX11 265 "LogCluster$Segment" "holderMask" "I", Cond.fieldLink RX11 268 "LogCluster$Storage" "up" "I", Cond.methodLink RL 108 yX12_segment, Cond.instanceMethod yX12_segment, Cond.selects RX12 yX12_segment yX12_segment, Cond.code yX12_segment cX12_segment 6 (some .int), Cond.methodLink RL 109 yX11_peek, Cond.instanceMethod yX11_peek, Cond.selects RX11 yX11_peek yX11_peek, Cond.code yX11_peek cX11_peek 5 (some .int), Cond.methodLink RL 112 yX12_peek, Cond.instanceMethod yX12_peek, Cond.selects RX12 yX12_peek yX12_peek, Cond.code yX12_peek cX12_peek 5 (some .int), Cond.methodLink RL 113 yX11_count, Cond.instanceMethod yX11_count]
def wsL_law0_r50 : List Cond := [Cond.selects RX11 yX11_count yX11_count, Cond.code yX11_count cX11_count 2 (some .int), Cond.fieldLink RX11 282 "LogCluster$Storage" "nextName" "I", Cond.fieldLink RX11 285 "LogCluster$Storage" "cleanings" "I", Cond.fieldLink RX11 288 "LogCluster$Coordinator" "dead" "Ljava/util/ArrayList;", Cond.fieldLink RX11 294 "LogCluster$Coordinator" "deaths" "I", Cond.fieldLink RX11 297 "LogCluster$Storage" "appended" "I", Cond.fieldLink RX11 300 "LogCluster$Coordinator" "forgotten" "I", Cond.fieldLink RX11 303 "LogCluster$Storage" "mendings" "I", Cond.methodLink RX11 279 yX11_messagesInNet, Cond.instanceMethod yX11_messagesInNet, Cond.selects RX11 yX11_messagesInNet yX11_messagesInNet, Cond.code yX11_messagesInNet cX11_messagesInNet 3 (some .int), Cond.methodLink RX11 291 yX2_tabletsOf, Cond.methodLink RL 116 yX12_count, Cond.instanceMethod yX12_count, Cond.selects RX12 yX12_count yX12_count, Cond.code yX12_count cX12_count 4 (some .int)]
def wsL_law0 : List Cond := (wsL_law0_r1 ++ (wsL_law0_r2 ++ (wsL_law0_r3 ++ (wsL_law0_r4 ++ (wsL_law0_r5 ++ (wsL_law0_r6 ++ (wsL_law0_r7 ++ (wsL_law0_r8 ++ (wsL_law0_r9 ++ (wsL_law0_r10 ++ (wsL_law0_r11 ++ (wsL_law0_r12 ++ (wsL_law0_r13 ++ (wsL_law0_r14 ++ (wsL_law0_r15 ++ (wsL_law0_r16 ++ (wsL_law0_r17 ++ (wsL_law0_r18 ++ (wsL_law0_r19 ++ (wsL_law0_r20 ++ (wsL_law0_r21 ++ (wsL_law0_r22 ++ (wsL_law0_r23 ++ (wsL_law0_r24 ++ (wsL_law0_r25 ++ (wsL_law0_r26 ++ (wsL_law0_r27 ++ (wsL_law0_r28 ++ (wsL_law0_r29 ++ (wsL_law0_r30 ++ (wsL_law0_r31 ++ (wsL_law0_r32 ++ (wsL_law0_r33 ++ (wsL_law0_r34 ++ (wsL_law0_r35 ++ (wsL_law0_r36 ++ (wsL_law0_r37 ++ (wsL_law0_r38 ++ (wsL_law0_r39 ++ (wsL_law0_r40 ++ (wsL_law0_r41 ++ (wsL_law0_r42 ++ (wsL_law0_r43 ++ (wsL_law0_r44 ++ (wsL_law0_r45 ++ (wsL_law0_r46 ++ (wsL_law0_r47 ++ (wsL_law0_r48 ++ (wsL_law0_r49 ++ wsL_law0_r50))))))))))))))))))))))))))))))))))))))))))))))))) ++ wsX110 ++ wsX120 ++ wsX90 ++ wsX20 ++ wsX10 ++ wsX100 ++ wsJx4a65c0 ++ wsX80 ++ wsX30 ++ wsX60 ++ wsX40 ++ wsX00 ++ wsX50 ++ wsX70 ++ ([] : List Cond)
set_option maxRecDepth 20000 in
theorem gdL : GoodIn lw_tbl wsL_law0 := goodIn_p wsL_law0 [1097, 119, 122, 127, 130, 133, 136, 142, 175, 178, 181, 202, 208, 332, 369, 1177, 1184, 412, 415, 418, 423, 456, 459, 463, 468, 471, 493, 1370, 1373, 1377, 1381, 1385, 497, 501, 1389, 505, 509, 513, 517, 521, 525, 530, 549, 553, 557, 561, 564, 571, 575, 579, 583, 588, 591, 594, 598, 603, 607, 611, 615, 621, 625, 629, 633, 636, 641, 644, 666, 680, 687, 691, 695, 699, 703, 771, 775, 779, 782, 786, 790, 794, 797, 802, 876, 880, 884, 888, 892, 895, 899, 902, 905, 909, 912, 915, 920, 924, 928, 932, 1393, 1397, 1401, 1405, 1409, 1413, 1417, 1421, 1425, 1429, 1433, 1437, 1441, 1445, 1449, 1453, 1457, 1460, 1464, 1468, 1472, 1476, 1480, 1484, 1487, 1491, 1495, 1499, 1503, 1507, 1511, 1515, 1519, 1524, 1528, 1532, 1536, 1540, 1544, 1548, 1552, 936, 1556, 940, 1560, 1105, 1564, 1366, 944, 1568, 949, 1573, 953, 957, 1577, 1581, 961, 965, 1585, 1589, 970, 1593, 974, 1597, 978, 1601, 982, 1605, 986, 990, 996, 1000, 1004, 1009, 1016, 1021, 1025, 1029, 1033, 1037, 1042, 1047, 1609, 1613, 1617, 1621, 1625, 1629, 1633, 1637, 1641, 1645, 1649, 1653, 1657, 1056, 1661, 1060, 1066, 1073, 1077, 1665, 1669, 1673, 1081, 1677, 1085, 1681, 1089, 1093, 1685] (by decide +kernel) (by decide +kernel)
theorem gdL2 : GoodIn wsL_law0 wsL_law0 := fun w h => ⟨h, (gdL w h).2⟩
theorem inlX0 : ∀ w ∈ wsX00, w ∈ wsL_law0 := fun _ h => (List.mem_append_left _ (List.mem_append_left _ (List.mem_append_left _ (List.mem_append_right _ h))))
theorem inlX1 : ∀ w ∈ wsX10, w ∈ wsL_law0 := fun _ h => (List.mem_append_left _ (List.mem_append_left _ (List.mem_append_left _ (List.mem_append_left _ (List.mem_append_left _ (List.mem_append_left _ (List.mem_append_left _ (List.mem_append_left _ (List.mem_append_left _ (List.mem_append_left _ (List.mem_append_right _ h)))))))))))
theorem inlX2 : ∀ w ∈ wsX20, w ∈ wsL_law0 := fun _ h => (List.mem_append_left _ (List.mem_append_left _ (List.mem_append_left _ (List.mem_append_left _ (List.mem_append_left _ (List.mem_append_left _ (List.mem_append_left _ (List.mem_append_left _ (List.mem_append_left _ (List.mem_append_left _ (List.mem_append_left _ (List.mem_append_right _ h))))))))))))
theorem inlX3 : ∀ w ∈ wsX30, w ∈ wsL_law0 := fun _ h => (List.mem_append_left _ (List.mem_append_left _ (List.mem_append_left _ (List.mem_append_left _ (List.mem_append_left _ (List.mem_append_left _ (List.mem_append_right _ h)))))))
theorem inlX4 : ∀ w ∈ wsX40, w ∈ wsL_law0 := fun _ h => (List.mem_append_left _ (List.mem_append_left _ (List.mem_append_left _ (List.mem_append_left _ (List.mem_append_right _ h)))))
theorem inlX5 : ∀ w ∈ wsX50, w ∈ wsL_law0 := fun _ h => (List.mem_append_left _ (List.mem_append_left _ (List.mem_append_right _ h)))
theorem inlX6 : ∀ w ∈ wsX60, w ∈ wsL_law0 := fun _ h => (List.mem_append_left _ (List.mem_append_left _ (List.mem_append_left _ (List.mem_append_left _ (List.mem_append_left _ (List.mem_append_right _ h))))))
theorem inlX7 : ∀ w ∈ wsX70, w ∈ wsL_law0 := fun _ h => (List.mem_append_left _ (List.mem_append_right _ h))
theorem inlX8 : ∀ w ∈ wsX80, w ∈ wsL_law0 := fun _ h => (List.mem_append_left _ (List.mem_append_left _ (List.mem_append_left _ (List.mem_append_left _ (List.mem_append_left _ (List.mem_append_left _ (List.mem_append_left _ (List.mem_append_right _ h))))))))
theorem inlX9 : ∀ w ∈ wsX90, w ∈ wsL_law0 := fun _ h => (List.mem_append_left _ (List.mem_append_left _ (List.mem_append_left _ (List.mem_append_left _ (List.mem_append_left _ (List.mem_append_left _ (List.mem_append_left _ (List.mem_append_left _ (List.mem_append_left _ (List.mem_append_left _ (List.mem_append_left _ (List.mem_append_left _ (List.mem_append_right _ h)))))))))))))
theorem inlX10 : ∀ w ∈ wsX100, w ∈ wsL_law0 := fun _ h => (List.mem_append_left _ (List.mem_append_left _ (List.mem_append_left _ (List.mem_append_left _ (List.mem_append_left _ (List.mem_append_left _ (List.mem_append_left _ (List.mem_append_left _ (List.mem_append_left _ (List.mem_append_right _ h))))))))))
theorem inlX11 : ∀ w ∈ wsX110, w ∈ wsL_law0 := fun _ h => (List.mem_append_left _ (List.mem_append_left _ (List.mem_append_left _ (List.mem_append_left _ (List.mem_append_left _ (List.mem_append_left _ (List.mem_append_left _ (List.mem_append_left _ (List.mem_append_left _ (List.mem_append_left _ (List.mem_append_left _ (List.mem_append_left _ (List.mem_append_left _ (List.mem_append_left _ (List.mem_append_right _ h)))))))))))))))
theorem inlX12 : ∀ w ∈ wsX120, w ∈ wsL_law0 := fun _ h => (List.mem_append_left _ (List.mem_append_left _ (List.mem_append_left _ (List.mem_append_left _ (List.mem_append_left _ (List.mem_append_left _ (List.mem_append_left _ (List.mem_append_left _ (List.mem_append_left _ (List.mem_append_left _ (List.mem_append_left _ (List.mem_append_left _ (List.mem_append_left _ (List.mem_append_right _ h))))))))))))))
theorem inlJx4a65c : ∀ w ∈ wsJx4a65c0, w ∈ wsL_law0 := fun _ h => (List.mem_append_left _ (List.mem_append_left _ (List.mem_append_left _ (List.mem_append_left _ (List.mem_append_left _ (List.mem_append_left _ (List.mem_append_left _ (List.mem_append_left _ (List.mem_append_right _ h)))))))))
abbrev vwCl : List vw_C := [(RJx4a65c, TJx4a65c, 3), (RX0, TX0, 3), (RX1, TX1, 3), (RX2, TX2, 7), (RX3, TX3, 4), (RX4, TX4, 4), (RX5, TX5, 12), (RX6, TX6, 6), (RX7, TX7, 13), (RX8, TX8, 10), (RX9, TX9, 12), (RX10, TX10, 6), (RX11, TX11, 6), (RX12, TX12, 59)]
