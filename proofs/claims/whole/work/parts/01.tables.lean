-- ===== PART A: goes FIRST, ahead of the names: the tables' words, and 'selects' of the private methods out of them =====
/-- a private method of a class that the tables say can be made, by its rows of tables_1 -/
def lw_okq (q : MethodName × Nat) : Prop := (q.1.cls ≠ "java/lang/invoke/MethodHandle" ∧ q.1.cls ≠ "java/lang/invoke/VarHandle") ∧ Cond.instantiable q.1.cls q.2 ∈ tables_1 ∧ Cond.privateMethod q.1 ∈ tables_1 ∧ Cond.instanceMethod q.1 ∈ tables_1
theorem lw_p0 : lw_okq (⟨"TrunkLitters$Tape", "look", "()I"⟩, 8) := ⟨⟨by decide +kernel, by decide +kernel⟩, List.mem_of_getElem? (i := 30) (by decide +kernel), List.mem_of_getElem? (i := 520) (by decide +kernel), List.mem_of_getElem? (i := 521) (by decide +kernel)⟩
theorem lw_p1 : lw_okq (⟨"TrunkLitters$Tape", "takeWord", "()V"⟩, 8) := ⟨⟨by decide +kernel, by decide +kernel⟩, List.mem_of_getElem? (i := 30) (by decide +kernel), List.mem_of_getElem? (i := 530) (by decide +kernel), List.mem_of_getElem? (i := 531) (by decide +kernel)⟩
theorem lw_p2 : lw_okq (⟨"TrunkLitters$Tape", "wordKind", "(J)I"⟩, 8) := ⟨⟨by decide +kernel, by decide +kernel⟩, List.mem_of_getElem? (i := 30) (by decide +kernel), List.mem_of_getElem? (i := 534) (by decide +kernel), List.mem_of_getElem? (i := 535) (by decide +kernel)⟩
theorem lw_p3 : lw_okq (⟨"TrunkLitters$Tape", "takeNumber", "()V"⟩, 8) := ⟨⟨by decide +kernel, by decide +kernel⟩, List.mem_of_getElem? (i := 30) (by decide +kernel), List.mem_of_getElem? (i := 541) (by decide +kernel), List.mem_of_getElem? (i := 542) (by decide +kernel)⟩
theorem lw_p4 : lw_okq (⟨"TrunkLitters$Reader", "readLine", "()Z"⟩, 8) := ⟨⟨by decide +kernel, by decide +kernel⟩, List.mem_of_getElem? (i := 229) (by decide +kernel), List.mem_of_getElem? (i := 548) (by decide +kernel), List.mem_of_getElem? (i := 549) (by decide +kernel)⟩
theorem lw_p5 : lw_okq (⟨"TrunkLitters$Reader", "readRoom", "()Z"⟩, 8) := ⟨⟨by decide +kernel, by decide +kernel⟩, List.mem_of_getElem? (i := 229) (by decide +kernel), List.mem_of_getElem? (i := 552) (by decide +kernel), List.mem_of_getElem? (i := 553) (by decide +kernel)⟩
theorem lw_p6 : lw_okq (⟨"TrunkLitters$Reader", "cannotStand", "()Z"⟩, 8) := ⟨⟨by decide +kernel, by decide +kernel⟩, List.mem_of_getElem? (i := 229) (by decide +kernel), List.mem_of_getElem? (i := 556) (by decide +kernel), List.mem_of_getElem? (i := 557) (by decide +kernel)⟩
theorem lw_p7 : lw_okq (⟨"TrunkLitters$Reader", "failAs", "(I)Z"⟩, 8) := ⟨⟨by decide +kernel, by decide +kernel⟩, List.mem_of_getElem? (i := 229) (by decide +kernel), List.mem_of_getElem? (i := 560) (by decide +kernel), List.mem_of_getElem? (i := 561) (by decide +kernel)⟩
theorem lw_p8 : lw_okq (⟨"TrunkLitters$Reader", "readNewName", "([JI)Z"⟩, 8) := ⟨⟨by decide +kernel, by decide +kernel⟩, List.mem_of_getElem? (i := 229) (by decide +kernel), List.mem_of_getElem? (i := 565) (by decide +kernel), List.mem_of_getElem? (i := 566) (by decide +kernel)⟩
theorem lw_p9 : lw_okq (⟨"TrunkLitters$Reader", "take", "(I)Z"⟩, 8) := ⟨⟨by decide +kernel, by decide +kernel⟩, List.mem_of_getElem? (i := 229) (by decide +kernel), List.mem_of_getElem? (i := 572) (by decide +kernel), List.mem_of_getElem? (i := 573) (by decide +kernel)⟩
theorem lw_p10 : lw_okq (⟨"TrunkLitters$Reader", "readNumber", "(II)Z"⟩, 8) := ⟨⟨by decide +kernel, by decide +kernel⟩, List.mem_of_getElem? (i := 229) (by decide +kernel), List.mem_of_getElem? (i := 576) (by decide +kernel), List.mem_of_getElem? (i := 577) (by decide +kernel)⟩
theorem lw_p11 : lw_okq (⟨"TrunkLitters$Reader", "readTrunk", "()Z"⟩, 8) := ⟨⟨by decide +kernel, by decide +kernel⟩, List.mem_of_getElem? (i := 229) (by decide +kernel), List.mem_of_getElem? (i := 580) (by decide +kernel), List.mem_of_getElem? (i := 581) (by decide +kernel)⟩
theorem lw_p12 : lw_okq (⟨"TrunkLitters$Reader", "readRoomFor", "(I)Z"⟩, 8) := ⟨⟨by decide +kernel, by decide +kernel⟩, List.mem_of_getElem? (i := 229) (by decide +kernel), List.mem_of_getElem? (i := 584) (by decide +kernel), List.mem_of_getElem? (i := 585) (by decide +kernel)⟩
theorem lw_p13 : lw_okq (⟨"TrunkLitters$Reader", "isFirst", "(I)Z"⟩, 8) := ⟨⟨by decide +kernel, by decide +kernel⟩, List.mem_of_getElem? (i := 229) (by decide +kernel), List.mem_of_getElem? (i := 597) (by decide +kernel), List.mem_of_getElem? (i := 598) (by decide +kernel)⟩
theorem lw_p14 : lw_okq (⟨"TrunkLitters$Reader", "readPart", "(II)Z"⟩, 8) := ⟨⟨by decide +kernel, by decide +kernel⟩, List.mem_of_getElem? (i := 229) (by decide +kernel), List.mem_of_getElem? (i := 601) (by decide +kernel), List.mem_of_getElem? (i := 602) (by decide +kernel)⟩
theorem lw_p15 : lw_okq (⟨"TrunkLitters$Reader", "readUnit", "(I)Z"⟩, 8) := ⟨⟨by decide +kernel, by decide +kernel⟩, List.mem_of_getElem? (i := 229) (by decide +kernel), List.mem_of_getElem? (i := 605) (by decide +kernel), List.mem_of_getElem? (i := 606) (by decide +kernel)⟩
def lw_privs_1 : List (MethodName × Nat) := [(⟨"TrunkLitters$Tape", "look", "()I"⟩, 8), (⟨"TrunkLitters$Tape", "takeWord", "()V"⟩, 8), (⟨"TrunkLitters$Tape", "wordKind", "(J)I"⟩, 8), (⟨"TrunkLitters$Tape", "takeNumber", "()V"⟩, 8), (⟨"TrunkLitters$Reader", "readLine", "()Z"⟩, 8), (⟨"TrunkLitters$Reader", "readRoom", "()Z"⟩, 8), (⟨"TrunkLitters$Reader", "cannotStand", "()Z"⟩, 8), (⟨"TrunkLitters$Reader", "failAs", "(I)Z"⟩, 8), (⟨"TrunkLitters$Reader", "readNewName", "([JI)Z"⟩, 8), (⟨"TrunkLitters$Reader", "take", "(I)Z"⟩, 8), (⟨"TrunkLitters$Reader", "readNumber", "(II)Z"⟩, 8), (⟨"TrunkLitters$Reader", "readTrunk", "()Z"⟩, 8), (⟨"TrunkLitters$Reader", "readRoomFor", "(I)Z"⟩, 8), (⟨"TrunkLitters$Reader", "isFirst", "(I)Z"⟩, 8), (⟨"TrunkLitters$Reader", "readPart", "(II)Z"⟩, 8), (⟨"TrunkLitters$Reader", "readUnit", "(I)Z"⟩, 8)]
theorem lw_r1 : ∀ q ∈ lw_privs_1, lw_okq q := List.forall_mem_cons.mpr ⟨lw_p0, List.forall_mem_cons.mpr ⟨lw_p1, List.forall_mem_cons.mpr ⟨lw_p2, List.forall_mem_cons.mpr ⟨lw_p3, List.forall_mem_cons.mpr ⟨lw_p4, List.forall_mem_cons.mpr ⟨lw_p5, List.forall_mem_cons.mpr ⟨lw_p6, List.forall_mem_cons.mpr ⟨lw_p7, List.forall_mem_cons.mpr ⟨lw_p8, List.forall_mem_cons.mpr ⟨lw_p9, List.forall_mem_cons.mpr ⟨lw_p10, List.forall_mem_cons.mpr ⟨lw_p11, List.forall_mem_cons.mpr ⟨lw_p12, List.forall_mem_cons.mpr ⟨lw_p13, List.forall_mem_cons.mpr ⟨lw_p14, List.forall_mem_cons.mpr ⟨lw_p15, fun _ h => absurd h List.not_mem_nil⟩⟩⟩⟩⟩⟩⟩⟩⟩⟩⟩⟩⟩⟩⟩⟩
theorem lw_p16 : lw_okq (⟨"TrunkLitters$Reader", "readNot", "(I)Z"⟩, 8) := ⟨⟨by decide +kernel, by decide +kernel⟩, List.mem_of_getElem? (i := 229) (by decide +kernel), List.mem_of_getElem? (i := 610) (by decide +kernel), List.mem_of_getElem? (i := 611) (by decide +kernel)⟩
theorem lw_p17 : lw_okq (⟨"TrunkLitters$Reader", "readJoined", "(II)Z"⟩, 8) := ⟨⟨by decide +kernel, by decide +kernel⟩, List.mem_of_getElem? (i := 229) (by decide +kernel), List.mem_of_getElem? (i := 614) (by decide +kernel), List.mem_of_getElem? (i := 615) (by decide +kernel)⟩
theorem lw_p18 : lw_okq (⟨"TrunkLitters$Acts", "write", "(ILTrunkLitters$State;)V"⟩, 3) := ⟨⟨by decide +kernel, by decide +kernel⟩, List.mem_of_getElem? (i := 353) (by decide +kernel), List.mem_of_getElem? (i := 644) (by decide +kernel), List.mem_of_getElem? (i := 645) (by decide +kernel)⟩
theorem lw_p19 : lw_okq (⟨"TrunkLitters$Formula", "push", "(II)I"⟩, 5) := ⟨⟨by decide +kernel, by decide +kernel⟩, List.mem_of_getElem? (i := 128) (by decide +kernel), List.mem_of_getElem? (i := 728) (by decide +kernel), List.mem_of_getElem? (i := 729) (by decide +kernel)⟩
theorem lw_p20 : lw_okq (⟨"TrunkLitters$Formula", "work", "(II)I"⟩, 5) := ⟨⟨by decide +kernel, by decide +kernel⟩, List.mem_of_getElem? (i := 128) (by decide +kernel), List.mem_of_getElem? (i := 732) (by decide +kernel), List.mem_of_getElem? (i := 733) (by decide +kernel)⟩
theorem lw_p21 : lw_okq (⟨"TrunkLitters$State", "bulkiestIn", "(II)I"⟩, 11) := ⟨⟨by decide +kernel, by decide +kernel⟩, List.mem_of_getElem? (i := 265) (by decide +kernel), List.mem_of_getElem? (i := 747) (by decide +kernel), List.mem_of_getElem? (i := 748) (by decide +kernel)⟩
theorem lw_p22 : lw_okq (⟨"TrunkLitters$Years", "listen", "(LTrunkLitters$State;I)V"⟩, 4) := ⟨⟨by decide +kernel, by decide +kernel⟩, List.mem_of_getElem? (i := 331) (by decide +kernel), List.mem_of_getElem? (i := 759) (by decide +kernel), List.mem_of_getElem? (i := 760) (by decide +kernel)⟩
theorem lw_p23 : lw_okq (⟨"TrunkLitters$Years", "bringForth", "(LTrunkLitters$State;II)V"⟩, 4) := ⟨⟨by decide +kernel, by decide +kernel⟩, List.mem_of_getElem? (i := 331) (by decide +kernel), List.mem_of_getElem? (i := 783) (by decide +kernel), List.mem_of_getElem? (i := 784) (by decide +kernel)⟩
theorem lw_p24 : lw_okq (⟨"TrunkLitters$Acts", "dropOldest", "()V"⟩, 3) := ⟨⟨by decide +kernel, by decide +kernel⟩, List.mem_of_getElem? (i := 353) (by decide +kernel), List.mem_of_getElem? (i := 792) (by decide +kernel), List.mem_of_getElem? (i := 793) (by decide +kernel)⟩
theorem lw_p25 : lw_okq (⟨"TrunkLitters$Acts", "read", "(ILTrunkLitters$State;)V"⟩, 3) := ⟨⟨by decide +kernel, by decide +kernel⟩, List.mem_of_getElem? (i := 353) (by decide +kernel), List.mem_of_getElem? (i := 817) (by decide +kernel), List.mem_of_getElem? (i := 818) (by decide +kernel)⟩
theorem lw_p26 : lw_okq (⟨"TrunkLitters$Stowing", "stowFrom", "(LTrunkLitters$State;III)Z"⟩, 5) := ⟨⟨by decide +kernel, by decide +kernel⟩, List.mem_of_getElem? (i := 390) (by decide +kernel), List.mem_of_getElem? (i := 895) (by decide +kernel), List.mem_of_getElem? (i := 896) (by decide +kernel)⟩
theorem lw_p27 : lw_okq (⟨"TrunkLitters$Stowing", "stowBehind", "(LTrunkLitters$State;III)Z"⟩, 5) := ⟨⟨by decide +kernel, by decide +kernel⟩, List.mem_of_getElem? (i := 390) (by decide +kernel), List.mem_of_getElem? (i := 901) (by decide +kernel), List.mem_of_getElem? (i := 902) (by decide +kernel)⟩
theorem lw_p28 : lw_okq (⟨"TrunkLitters", "layDown", "(I)V"⟩, 11) := ⟨⟨by decide +kernel, by decide +kernel⟩, List.mem_of_getElem? (i := 22) (by decide +kernel), List.mem_of_getElem? (i := 905) (by decide +kernel), List.mem_of_getElem? (i := 906) (by decide +kernel)⟩
theorem lw_p29 : lw_okq (⟨"TrunkLitters$Stowing", "countPairsAtRest", "(II)I"⟩, 5) := ⟨⟨by decide +kernel, by decide +kernel⟩, List.mem_of_getElem? (i := 390) (by decide +kernel), List.mem_of_getElem? (i := 931) (by decide +kernel), List.mem_of_getElem? (i := 932) (by decide +kernel)⟩
theorem lw_p30 : lw_okq (⟨"TrunkLitters$Stowing", "isContent", "(IIII)Z"⟩, 5) := ⟨⟨by decide +kernel, by decide +kernel⟩, List.mem_of_getElem? (i := 390) (by decide +kernel), List.mem_of_getElem? (i := 935) (by decide +kernel), List.mem_of_getElem? (i := 936) (by decide +kernel)⟩
theorem lw_p31 : lw_okq (⟨"TrunkLitters$Stowing", "gainOf", "(IIII)I"⟩, 5) := ⟨⟨by decide +kernel, by decide +kernel⟩, List.mem_of_getElem? (i := 390) (by decide +kernel), List.mem_of_getElem? (i := 939) (by decide +kernel), List.mem_of_getElem? (i := 940) (by decide +kernel)⟩
def lw_privs_2 : List (MethodName × Nat) := [(⟨"TrunkLitters$Reader", "readNot", "(I)Z"⟩, 8), (⟨"TrunkLitters$Reader", "readJoined", "(II)Z"⟩, 8), (⟨"TrunkLitters$Acts", "write", "(ILTrunkLitters$State;)V"⟩, 3), (⟨"TrunkLitters$Formula", "push", "(II)I"⟩, 5), (⟨"TrunkLitters$Formula", "work", "(II)I"⟩, 5), (⟨"TrunkLitters$State", "bulkiestIn", "(II)I"⟩, 11), (⟨"TrunkLitters$Years", "listen", "(LTrunkLitters$State;I)V"⟩, 4), (⟨"TrunkLitters$Years", "bringForth", "(LTrunkLitters$State;II)V"⟩, 4), (⟨"TrunkLitters$Acts", "dropOldest", "()V"⟩, 3), (⟨"TrunkLitters$Acts", "read", "(ILTrunkLitters$State;)V"⟩, 3), (⟨"TrunkLitters$Stowing", "stowFrom", "(LTrunkLitters$State;III)Z"⟩, 5), (⟨"TrunkLitters$Stowing", "stowBehind", "(LTrunkLitters$State;III)Z"⟩, 5), (⟨"TrunkLitters", "layDown", "(I)V"⟩, 11), (⟨"TrunkLitters$Stowing", "countPairsAtRest", "(II)I"⟩, 5), (⟨"TrunkLitters$Stowing", "isContent", "(IIII)Z"⟩, 5), (⟨"TrunkLitters$Stowing", "gainOf", "(IIII)I"⟩, 5)]
theorem lw_r2 : ∀ q ∈ lw_privs_2, lw_okq q := List.forall_mem_cons.mpr ⟨lw_p16, List.forall_mem_cons.mpr ⟨lw_p17, List.forall_mem_cons.mpr ⟨lw_p18, List.forall_mem_cons.mpr ⟨lw_p19, List.forall_mem_cons.mpr ⟨lw_p20, List.forall_mem_cons.mpr ⟨lw_p21, List.forall_mem_cons.mpr ⟨lw_p22, List.forall_mem_cons.mpr ⟨lw_p23, List.forall_mem_cons.mpr ⟨lw_p24, List.forall_mem_cons.mpr ⟨lw_p25, List.forall_mem_cons.mpr ⟨lw_p26, List.forall_mem_cons.mpr ⟨lw_p27, List.forall_mem_cons.mpr ⟨lw_p28, List.forall_mem_cons.mpr ⟨lw_p29, List.forall_mem_cons.mpr ⟨lw_p30, List.forall_mem_cons.mpr ⟨lw_p31, fun _ h => absurd h List.not_mem_nil⟩⟩⟩⟩⟩⟩⟩⟩⟩⟩⟩⟩⟩⟩⟩⟩
theorem lw_p32 : lw_okq (⟨"TrunkLitters$Memory", "isFitting", "(II)Z"⟩, 10) := ⟨⟨by decide +kernel, by decide +kernel⟩, List.mem_of_getElem? (i := 415) (by decide +kernel), List.mem_of_getElem? (i := 1071) (by decide +kernel), List.mem_of_getElem? (i := 1072) (by decide +kernel)⟩
theorem lw_p33 : lw_okq (⟨"TrunkLitters$Memory", "sharedWith", "(II)I"⟩, 10) := ⟨⟨by decide +kernel, by decide +kernel⟩, List.mem_of_getElem? (i := 415) (by decide +kernel), List.mem_of_getElem? (i := 1075) (by decide +kernel), List.mem_of_getElem? (i := 1076) (by decide +kernel)⟩
theorem lw_p34 : lw_okq (⟨"TrunkLittersModel", "clearBank", "()V"⟩, 60) := ⟨⟨by decide +kernel, by decide +kernel⟩, List.mem_of_getElem? (i := 1123) (by decide +kernel), List.mem_of_getElem? (i := 1129) (by decide +kernel), List.mem_of_getElem? (i := 1130) (by decide +kernel)⟩
theorem lw_p35 : lw_okq (⟨"TrunkLittersModel", "startAnew", "()V"⟩, 60) := ⟨⟨by decide +kernel, by decide +kernel⟩, List.mem_of_getElem? (i := 1123) (by decide +kernel), List.mem_of_getElem? (i := 1133) (by decide +kernel), List.mem_of_getElem? (i := 1134) (by decide +kernel)⟩
theorem lw_p36 : lw_okq (⟨"TrunkLittersModel", "clearPlace", "(I)V"⟩, 60) := ⟨⟨by decide +kernel, by decide +kernel⟩, List.mem_of_getElem? (i := 1123) (by decide +kernel), List.mem_of_getElem? (i := 1137) (by decide +kernel), List.mem_of_getElem? (i := 1138) (by decide +kernel)⟩
theorem lw_p37 : lw_okq (⟨"TrunkLittersModel", "goOn", "()V"⟩, 60) := ⟨⟨by decide +kernel, by decide +kernel⟩, List.mem_of_getElem? (i := 1123) (by decide +kernel), List.mem_of_getElem? (i := 1326) (by decide +kernel), List.mem_of_getElem? (i := 1327) (by decide +kernel)⟩
theorem lw_p38 : lw_okq (⟨"TrunkLittersModel", "sign", "(I)I"⟩, 60) := ⟨⟨by decide +kernel, by decide +kernel⟩, List.mem_of_getElem? (i := 1123) (by decide +kernel), List.mem_of_getElem? (i := 1330) (by decide +kernel), List.mem_of_getElem? (i := 1331) (by decide +kernel)⟩
theorem lw_p39 : lw_okq (⟨"TrunkLittersModel", "isGood", "()Z"⟩, 60) := ⟨⟨by decide +kernel, by decide +kernel⟩, List.mem_of_getElem? (i := 1123) (by decide +kernel), List.mem_of_getElem? (i := 1364) (by decide +kernel), List.mem_of_getElem? (i := 1365) (by decide +kernel)⟩
theorem lw_p40 : lw_okq (⟨"TrunkLittersModel", "readLine", "()V"⟩, 60) := ⟨⟨by decide +kernel, by decide +kernel⟩, List.mem_of_getElem? (i := 1123) (by decide +kernel), List.mem_of_getElem? (i := 1368) (by decide +kernel), List.mem_of_getElem? (i := 1369) (by decide +kernel)⟩
theorem lw_p41 : lw_okq (⟨"TrunkLittersModel", "isFull", "()Z"⟩, 60) := ⟨⟨by decide +kernel, by decide +kernel⟩, List.mem_of_getElem? (i := 1123) (by decide +kernel), List.mem_of_getElem? (i := 1372) (by decide +kernel), List.mem_of_getElem? (i := 1373) (by decide +kernel)⟩
theorem lw_p42 : lw_okq (⟨"TrunkLittersModel", "isWord", "(J)Z"⟩, 60) := ⟨⟨by decide +kernel, by decide +kernel⟩, List.mem_of_getElem? (i := 1123) (by decide +kernel), List.mem_of_getElem? (i := 1376) (by decide +kernel), List.mem_of_getElem? (i := 1377) (by decide +kernel)⟩
theorem lw_p43 : lw_okq (⟨"TrunkLittersModel", "misplaced", "()V"⟩, 60) := ⟨⟨by decide +kernel, by decide +kernel⟩, List.mem_of_getElem? (i := 1123) (by decide +kernel), List.mem_of_getElem? (i := 1383) (by decide +kernel), List.mem_of_getElem? (i := 1384) (by decide +kernel)⟩
theorem lw_p44 : lw_okq (⟨"TrunkLittersModel", "fails", "(II)V"⟩, 60) := ⟨⟨by decide +kernel, by decide +kernel⟩, List.mem_of_getElem? (i := 1123) (by decide +kernel), List.mem_of_getElem? (i := 1387) (by decide +kernel), List.mem_of_getElem? (i := 1388) (by decide +kernel)⟩
theorem lw_p45 : lw_okq (⟨"TrunkLittersModel", "roomHere", "()I"⟩, 60) := ⟨⟨by decide +kernel, by decide +kernel⟩, List.mem_of_getElem? (i := 1123) (by decide +kernel), List.mem_of_getElem? (i := 1391) (by decide +kernel), List.mem_of_getElem? (i := 1392) (by decide +kernel)⟩
theorem lw_p46 : lw_okq (⟨"TrunkLittersModel", "here", "([JII)I"⟩, 60) := ⟨⟨by decide +kernel, by decide +kernel⟩, List.mem_of_getElem? (i := 1123) (by decide +kernel), List.mem_of_getElem? (i := 1395) (by decide +kernel), List.mem_of_getElem? (i := 1396) (by decide +kernel)⟩
theorem lw_p47 : lw_okq (⟨"TrunkLittersModel", "fresh", "(I)J"⟩, 60) := ⟨⟨by decide +kernel, by decide +kernel⟩, List.mem_of_getElem? (i := 1123) (by decide +kernel), List.mem_of_getElem? (i := 1399) (by decide +kernel), List.mem_of_getElem? (i := 1400) (by decide +kernel)⟩
def lw_privs_3 : List (MethodName × Nat) := [(⟨"TrunkLitters$Memory", "isFitting", "(II)Z"⟩, 10), (⟨"TrunkLitters$Memory", "sharedWith", "(II)I"⟩, 10), (⟨"TrunkLittersModel", "clearBank", "()V"⟩, 60), (⟨"TrunkLittersModel", "startAnew", "()V"⟩, 60), (⟨"TrunkLittersModel", "clearPlace", "(I)V"⟩, 60), (⟨"TrunkLittersModel", "goOn", "()V"⟩, 60), (⟨"TrunkLittersModel", "sign", "(I)I"⟩, 60), (⟨"TrunkLittersModel", "isGood", "()Z"⟩, 60), (⟨"TrunkLittersModel", "readLine", "()V"⟩, 60), (⟨"TrunkLittersModel", "isFull", "()Z"⟩, 60), (⟨"TrunkLittersModel", "isWord", "(J)Z"⟩, 60), (⟨"TrunkLittersModel", "misplaced", "()V"⟩, 60), (⟨"TrunkLittersModel", "fails", "(II)V"⟩, 60), (⟨"TrunkLittersModel", "roomHere", "()I"⟩, 60), (⟨"TrunkLittersModel", "here", "([JII)I"⟩, 60), (⟨"TrunkLittersModel", "fresh", "(I)J"⟩, 60)]
theorem lw_r3 : ∀ q ∈ lw_privs_3, lw_okq q := List.forall_mem_cons.mpr ⟨lw_p32, List.forall_mem_cons.mpr ⟨lw_p33, List.forall_mem_cons.mpr ⟨lw_p34, List.forall_mem_cons.mpr ⟨lw_p35, List.forall_mem_cons.mpr ⟨lw_p36, List.forall_mem_cons.mpr ⟨lw_p37, List.forall_mem_cons.mpr ⟨lw_p38, List.forall_mem_cons.mpr ⟨lw_p39, List.forall_mem_cons.mpr ⟨lw_p40, List.forall_mem_cons.mpr ⟨lw_p41, List.forall_mem_cons.mpr ⟨lw_p42, List.forall_mem_cons.mpr ⟨lw_p43, List.forall_mem_cons.mpr ⟨lw_p44, List.forall_mem_cons.mpr ⟨lw_p45, List.forall_mem_cons.mpr ⟨lw_p46, List.forall_mem_cons.mpr ⟨lw_p47, fun _ h => absurd h List.not_mem_nil⟩⟩⟩⟩⟩⟩⟩⟩⟩⟩⟩⟩⟩⟩⟩⟩
theorem lw_p48 : lw_okq (⟨"TrunkLittersModel", "after", "(JII)I"⟩, 60) := ⟨⟨by decide +kernel, by decide +kernel⟩, List.mem_of_getElem? (i := 1123) (by decide +kernel), List.mem_of_getElem? (i := 1403) (by decide +kernel), List.mem_of_getElem? (i := 1404) (by decide +kernel)⟩
theorem lw_p49 : lw_okq (⟨"TrunkLittersModel", "must", "(Z)V"⟩, 60) := ⟨⟨by decide +kernel, by decide +kernel⟩, List.mem_of_getElem? (i := 1123) (by decide +kernel), List.mem_of_getElem? (i := 1407) (by decide +kernel), List.mem_of_getElem? (i := 1408) (by decide +kernel)⟩
theorem lw_p50 : lw_okq (⟨"TrunkLittersModel", "numeral", "(II)I"⟩, 60) := ⟨⟨by decide +kernel, by decide +kernel⟩, List.mem_of_getElem? (i := 1123) (by decide +kernel), List.mem_of_getElem? (i := 1411) (by decide +kernel), List.mem_of_getElem? (i := 1412) (by decide +kernel)⟩
theorem lw_p51 : lw_okq (⟨"TrunkLittersModel", "readTrunk", "()V"⟩, 60) := ⟨⟨by decide +kernel, by decide +kernel⟩, List.mem_of_getElem? (i := 1123) (by decide +kernel), List.mem_of_getElem? (i := 1415) (by decide +kernel), List.mem_of_getElem? (i := 1416) (by decide +kernel)⟩
theorem lw_p52 : lw_okq (⟨"TrunkLittersModel", "readRule", "()V"⟩, 60) := ⟨⟨by decide +kernel, by decide +kernel⟩, List.mem_of_getElem? (i := 1123) (by decide +kernel), List.mem_of_getElem? (i := 1419) (by decide +kernel), List.mem_of_getElem? (i := 1420) (by decide +kernel)⟩
theorem lw_p53 : lw_okq (⟨"TrunkLittersModel", "e", "()V"⟩, 60) := ⟨⟨by decide +kernel, by decide +kernel⟩, List.mem_of_getElem? (i := 1123) (by decide +kernel), List.mem_of_getElem? (i := 1423) (by decide +kernel), List.mem_of_getElem? (i := 1424) (by decide +kernel)⟩
theorem lw_p54 : lw_okq (⟨"TrunkLittersModel", "pushE", "(II)V"⟩, 60) := ⟨⟨by decide +kernel, by decide +kernel⟩, List.mem_of_getElem? (i := 1123) (by decide +kernel), List.mem_of_getElem? (i := 1427) (by decide +kernel), List.mem_of_getElem? (i := 1428) (by decide +kernel)⟩
theorem lw_p55 : lw_okq (⟨"TrunkLittersModel", "unit", "()Z"⟩, 60) := ⟨⟨by decide +kernel, by decide +kernel⟩, List.mem_of_getElem? (i := 1123) (by decide +kernel), List.mem_of_getElem? (i := 1431) (by decide +kernel), List.mem_of_getElem? (i := 1432) (by decide +kernel)⟩
theorem lw_p56 : lw_okq (⟨"TrunkLittersModel", "isSignHere", "(I)Z"⟩, 60) := ⟨⟨by decide +kernel, by decide +kernel⟩, List.mem_of_getElem? (i := 1123) (by decide +kernel), List.mem_of_getElem? (i := 1435) (by decide +kernel), List.mem_of_getElem? (i := 1436) (by decide +kernel)⟩
theorem lw_p57 : lw_okq (⟨"TrunkLittersModel", "wordHere", "()I"⟩, 60) := ⟨⟨by decide +kernel, by decide +kernel⟩, List.mem_of_getElem? (i := 1123) (by decide +kernel), List.mem_of_getElem? (i := 1439) (by decide +kernel), List.mem_of_getElem? (i := 1440) (by decide +kernel)⟩
theorem lw_p58 : lw_okq (⟨"TrunkLittersModel", "emit", "(II)V"⟩, 60) := ⟨⟨by decide +kernel, by decide +kernel⟩, List.mem_of_getElem? (i := 1123) (by decide +kernel), List.mem_of_getElem? (i := 1443) (by decide +kernel), List.mem_of_getElem? (i := 1444) (by decide +kernel)⟩
theorem lw_p59 : lw_okq (⟨"TrunkLittersModel", "behindUnit", "()Z"⟩, 60) := ⟨⟨by decide +kernel, by decide +kernel⟩, List.mem_of_getElem? (i := 1123) (by decide +kernel), List.mem_of_getElem? (i := 1447) (by decide +kernel), List.mem_of_getElem? (i := 1448) (by decide +kernel)⟩
theorem lw_p60 : lw_okq (⟨"TrunkLittersModel", "rankHere", "()I"⟩, 60) := ⟨⟨by decide +kernel, by decide +kernel⟩, List.mem_of_getElem? (i := 1123) (by decide +kernel), List.mem_of_getElem? (i := 1451) (by decide +kernel), List.mem_of_getElem? (i := 1452) (by decide +kernel)⟩
theorem lw_p61 : lw_okq (⟨"TrunkLittersModel", "isCompared", "()Z"⟩, 60) := ⟨⟨by decide +kernel, by decide +kernel⟩, List.mem_of_getElem? (i := 1123) (by decide +kernel), List.mem_of_getElem? (i := 1455) (by decide +kernel), List.mem_of_getElem? (i := 1456) (by decide +kernel)⟩
theorem lw_p62 : lw_okq (⟨"TrunkLittersModel", "once", "(III)I"⟩, 60) := ⟨⟨by decide +kernel, by decide +kernel⟩, List.mem_of_getElem? (i := 1123) (by decide +kernel), List.mem_of_getElem? (i := 1459) (by decide +kernel), List.mem_of_getElem? (i := 1460) (by decide +kernel)⟩
theorem lw_p63 : lw_okq (⟨"TrunkLittersModel", "isRoom", "(I)Z"⟩, 60) := ⟨⟨by decide +kernel, by decide +kernel⟩, List.mem_of_getElem? (i := 1123) (by decide +kernel), List.mem_of_getElem? (i := 1471) (by decide +kernel), List.mem_of_getElem? (i := 1472) (by decide +kernel)⟩
def lw_privs_4 : List (MethodName × Nat) := [(⟨"TrunkLittersModel", "after", "(JII)I"⟩, 60), (⟨"TrunkLittersModel", "must", "(Z)V"⟩, 60), (⟨"TrunkLittersModel", "numeral", "(II)I"⟩, 60), (⟨"TrunkLittersModel", "readTrunk", "()V"⟩, 60), (⟨"TrunkLittersModel", "readRule", "()V"⟩, 60), (⟨"TrunkLittersModel", "e", "()V"⟩, 60), (⟨"TrunkLittersModel", "pushE", "(II)V"⟩, 60), (⟨"TrunkLittersModel", "unit", "()Z"⟩, 60), (⟨"TrunkLittersModel", "isSignHere", "(I)Z"⟩, 60), (⟨"TrunkLittersModel", "wordHere", "()I"⟩, 60), (⟨"TrunkLittersModel", "emit", "(II)V"⟩, 60), (⟨"TrunkLittersModel", "behindUnit", "()Z"⟩, 60), (⟨"TrunkLittersModel", "rankHere", "()I"⟩, 60), (⟨"TrunkLittersModel", "isCompared", "()Z"⟩, 60), (⟨"TrunkLittersModel", "once", "(III)I"⟩, 60), (⟨"TrunkLittersModel", "isRoom", "(I)Z"⟩, 60)]
theorem lw_r4 : ∀ q ∈ lw_privs_4, lw_okq q := List.forall_mem_cons.mpr ⟨lw_p48, List.forall_mem_cons.mpr ⟨lw_p49, List.forall_mem_cons.mpr ⟨lw_p50, List.forall_mem_cons.mpr ⟨lw_p51, List.forall_mem_cons.mpr ⟨lw_p52, List.forall_mem_cons.mpr ⟨lw_p53, List.forall_mem_cons.mpr ⟨lw_p54, List.forall_mem_cons.mpr ⟨lw_p55, List.forall_mem_cons.mpr ⟨lw_p56, List.forall_mem_cons.mpr ⟨lw_p57, List.forall_mem_cons.mpr ⟨lw_p58, List.forall_mem_cons.mpr ⟨lw_p59, List.forall_mem_cons.mpr ⟨lw_p60, List.forall_mem_cons.mpr ⟨lw_p61, List.forall_mem_cons.mpr ⟨lw_p62, List.forall_mem_cons.mpr ⟨lw_p63, fun _ h => absurd h List.not_mem_nil⟩⟩⟩⟩⟩⟩⟩⟩⟩⟩⟩⟩⟩⟩⟩⟩
theorem lw_p64 : lw_okq (⟨"TrunkLittersModel", "chambers", "()I"⟩, 60) := ⟨⟨by decide +kernel, by decide +kernel⟩, List.mem_of_getElem? (i := 1123) (by decide +kernel), List.mem_of_getElem? (i := 1475) (by decide +kernel), List.mem_of_getElem? (i := 1476) (by decide +kernel)⟩
theorem lw_p65 : lw_okq (⟨"TrunkLittersModel", "holdsOf", "(I)I"⟩, 60) := ⟨⟨by decide +kernel, by decide +kernel⟩, List.mem_of_getElem? (i := 1123) (by decide +kernel), List.mem_of_getElem? (i := 1482) (by decide +kernel), List.mem_of_getElem? (i := 1483) (by decide +kernel)⟩
theorem lw_p66 : lw_okq (⟨"TrunkLittersModel", "leftIn", "(I)I"⟩, 60) := ⟨⟨by decide +kernel, by decide +kernel⟩, List.mem_of_getElem? (i := 1123) (by decide +kernel), List.mem_of_getElem? (i := 1486) (by decide +kernel), List.mem_of_getElem? (i := 1487) (by decide +kernel)⟩
theorem lw_p67 : lw_okq (⟨"TrunkLittersModel", "thoseIn", "(I)I"⟩, 60) := ⟨⟨by decide +kernel, by decide +kernel⟩, List.mem_of_getElem? (i := 1123) (by decide +kernel), List.mem_of_getElem? (i := 1490) (by decide +kernel), List.mem_of_getElem? (i := 1491) (by decide +kernel)⟩
theorem lw_p68 : lw_okq (⟨"TrunkLittersModel", "bulkOf", "(I)I"⟩, 60) := ⟨⟨by decide +kernel, by decide +kernel⟩, List.mem_of_getElem? (i := 1123) (by decide +kernel), List.mem_of_getElem? (i := 1494) (by decide +kernel), List.mem_of_getElem? (i := 1495) (by decide +kernel)⟩
theorem lw_p69 : lw_okq (⟨"TrunkLittersModel", "isThere", "(I)Z"⟩, 60) := ⟨⟨by decide +kernel, by decide +kernel⟩, List.mem_of_getElem? (i := 1123) (by decide +kernel), List.mem_of_getElem? (i := 1502) (by decide +kernel), List.mem_of_getElem? (i := 1503) (by decide +kernel)⟩
theorem lw_p70 : lw_okq (⟨"TrunkLittersModel", "broodOf", "(II)I"⟩, 60) := ⟨⟨by decide +kernel, by decide +kernel⟩, List.mem_of_getElem? (i := 1123) (by decide +kernel), List.mem_of_getElem? (i := 1510) (by decide +kernel), List.mem_of_getElem? (i := 1511) (by decide +kernel)⟩
theorem lw_p71 : lw_okq (⟨"TrunkLittersModel", "comes", "()I"⟩, 60) := ⟨⟨by decide +kernel, by decide +kernel⟩, List.mem_of_getElem? (i := 1123) (by decide +kernel), List.mem_of_getElem? (i := 1514) (by decide +kernel), List.mem_of_getElem? (i := 1515) (by decide +kernel)⟩
theorem lw_p72 : lw_okq (⟨"TrunkLittersModel", "asked", "(II)I"⟩, 60) := ⟨⟨by decide +kernel, by decide +kernel⟩, List.mem_of_getElem? (i := 1123) (by decide +kernel), List.mem_of_getElem? (i := 1518) (by decide +kernel), List.mem_of_getElem? (i := 1519) (by decide +kernel)⟩
theorem lw_p73 : lw_okq (⟨"TrunkLittersModel", "those", "()I"⟩, 60) := ⟨⟨by decide +kernel, by decide +kernel⟩, List.mem_of_getElem? (i := 1123) (by decide +kernel), List.mem_of_getElem? (i := 1528) (by decide +kernel), List.mem_of_getElem? (i := 1529) (by decide +kernel)⟩
theorem lw_p74 : lw_okq (⟨"TrunkLittersModel", "coupleOf", "(I)I"⟩, 60) := ⟨⟨by decide +kernel, by decide +kernel⟩, List.mem_of_getElem? (i := 1123) (by decide +kernel), List.mem_of_getElem? (i := 1540) (by decide +kernel), List.mem_of_getElem? (i := 1541) (by decide +kernel)⟩
theorem lw_p75 : lw_okq (⟨"TrunkLittersModel", "biggestOf", "(I)I"⟩, 60) := ⟨⟨by decide +kernel, by decide +kernel⟩, List.mem_of_getElem? (i := 1123) (by decide +kernel), List.mem_of_getElem? (i := 1544) (by decide +kernel), List.mem_of_getElem? (i := 1545) (by decide +kernel)⟩
theorem lw_p76 : lw_okq (⟨"TrunkLittersModel", "isRipe", "(I)Z"⟩, 60) := ⟨⟨by decide +kernel, by decide +kernel⟩, List.mem_of_getElem? (i := 1123) (by decide +kernel), List.mem_of_getElem? (i := 1552) (by decide +kernel), List.mem_of_getElem? (i := 1553) (by decide +kernel)⟩
theorem lw_p77 : lw_okq (⟨"TrunkLittersModel", "freePlace", "()I"⟩, 60) := ⟨⟨by decide +kernel, by decide +kernel⟩, List.mem_of_getElem? (i := 1123) (by decide +kernel), List.mem_of_getElem? (i := 1556) (by decide +kernel), List.mem_of_getElem? (i := 1557) (by decide +kernel)⟩
theorem lw_p78 : lw_okq (⟨"TrunkLittersModel", "youngOf", "(I)I"⟩, 60) := ⟨⟨by decide +kernel, by decide +kernel⟩, List.mem_of_getElem? (i := 1123) (by decide +kernel), List.mem_of_getElem? (i := 1560) (by decide +kernel), List.mem_of_getElem? (i := 1561) (by decide +kernel)⟩
theorem lw_p79 : lw_okq (⟨"TrunkLittersModel", "sharesAll", "(I)I"⟩, 60) := ⟨⟨by decide +kernel, by decide +kernel⟩, List.mem_of_getElem? (i := 1123) (by decide +kernel), List.mem_of_getElem? (i := 1581) (by decide +kernel), List.mem_of_getElem? (i := 1582) (by decide +kernel)⟩
def lw_privs_5 : List (MethodName × Nat) := [(⟨"TrunkLittersModel", "chambers", "()I"⟩, 60), (⟨"TrunkLittersModel", "holdsOf", "(I)I"⟩, 60), (⟨"TrunkLittersModel", "leftIn", "(I)I"⟩, 60), (⟨"TrunkLittersModel", "thoseIn", "(I)I"⟩, 60), (⟨"TrunkLittersModel", "bulkOf", "(I)I"⟩, 60), (⟨"TrunkLittersModel", "isThere", "(I)Z"⟩, 60), (⟨"TrunkLittersModel", "broodOf", "(II)I"⟩, 60), (⟨"TrunkLittersModel", "comes", "()I"⟩, 60), (⟨"TrunkLittersModel", "asked", "(II)I"⟩, 60), (⟨"TrunkLittersModel", "those", "()I"⟩, 60), (⟨"TrunkLittersModel", "coupleOf", "(I)I"⟩, 60), (⟨"TrunkLittersModel", "biggestOf", "(I)I"⟩, 60), (⟨"TrunkLittersModel", "isRipe", "(I)Z"⟩, 60), (⟨"TrunkLittersModel", "freePlace", "()I"⟩, 60), (⟨"TrunkLittersModel", "youngOf", "(I)I"⟩, 60), (⟨"TrunkLittersModel", "sharesAll", "(I)I"⟩, 60)]
theorem lw_r5 : ∀ q ∈ lw_privs_5, lw_okq q := List.forall_mem_cons.mpr ⟨lw_p64, List.forall_mem_cons.mpr ⟨lw_p65, List.forall_mem_cons.mpr ⟨lw_p66, List.forall_mem_cons.mpr ⟨lw_p67, List.forall_mem_cons.mpr ⟨lw_p68, List.forall_mem_cons.mpr ⟨lw_p69, List.forall_mem_cons.mpr ⟨lw_p70, List.forall_mem_cons.mpr ⟨lw_p71, List.forall_mem_cons.mpr ⟨lw_p72, List.forall_mem_cons.mpr ⟨lw_p73, List.forall_mem_cons.mpr ⟨lw_p74, List.forall_mem_cons.mpr ⟨lw_p75, List.forall_mem_cons.mpr ⟨lw_p76, List.forall_mem_cons.mpr ⟨lw_p77, List.forall_mem_cons.mpr ⟨lw_p78, List.forall_mem_cons.mpr ⟨lw_p79, fun _ h => absurd h List.not_mem_nil⟩⟩⟩⟩⟩⟩⟩⟩⟩⟩⟩⟩⟩⟩⟩⟩
theorem lw_p80 : lw_okq (⟨"TrunkLittersModel", "keepAct", "()V"⟩, 60) := ⟨⟨by decide +kernel, by decide +kernel⟩, List.mem_of_getElem? (i := 1123) (by decide +kernel), List.mem_of_getElem? (i := 1597) (by decide +kernel), List.mem_of_getElem? (i := 1598) (by decide +kernel)⟩
theorem lw_p81 : lw_okq (⟨"TrunkLittersModel", "goYear", "()I"⟩, 60) := ⟨⟨by decide +kernel, by decide +kernel⟩, List.mem_of_getElem? (i := 1123) (by decide +kernel), List.mem_of_getElem? (i := 1601) (by decide +kernel), List.mem_of_getElem? (i := 1602) (by decide +kernel)⟩
theorem lw_p82 : lw_okq (⟨"TrunkLittersModel", "listen", "(I)V"⟩, 60) := ⟨⟨by decide +kernel, by decide +kernel⟩, List.mem_of_getElem? (i := 1123) (by decide +kernel), List.mem_of_getElem? (i := 1605) (by decide +kernel), List.mem_of_getElem? (i := 1606) (by decide +kernel)⟩
theorem lw_p83 : lw_okq (⟨"TrunkLittersModel", "loseOne", "(I)V"⟩, 60) := ⟨⟨by decide +kernel, by decide +kernel⟩, List.mem_of_getElem? (i := 1123) (by decide +kernel), List.mem_of_getElem? (i := 1609) (by decide +kernel), List.mem_of_getElem? (i := 1610) (by decide +kernel)⟩
theorem lw_p84 : lw_okq (⟨"TrunkLittersModel", "bringForth", "(I)V"⟩, 60) := ⟨⟨by decide +kernel, by decide +kernel⟩, List.mem_of_getElem? (i := 1123) (by decide +kernel), List.mem_of_getElem? (i := 1613) (by decide +kernel), List.mem_of_getElem? (i := 1614) (by decide +kernel)⟩
theorem lw_p85 : lw_okq (⟨"TrunkLittersModel", "canCarry", "(II)Z"⟩, 60) := ⟨⟨by decide +kernel, by decide +kernel⟩, List.mem_of_getElem? (i := 1123) (by decide +kernel), List.mem_of_getElem? (i := 1621) (by decide +kernel), List.mem_of_getElem? (i := 1622) (by decide +kernel)⟩
theorem lw_p86 : lw_okq (⟨"TrunkLittersModel", "swapAll", "()V"⟩, 60) := ⟨⟨by decide +kernel, by decide +kernel⟩, List.mem_of_getElem? (i := 1123) (by decide +kernel), List.mem_of_getElem? (i := 1637) (by decide +kernel), List.mem_of_getElem? (i := 1638) (by decide +kernel)⟩
theorem lw_p87 : lw_okq (⟨"TrunkLittersModel", "keepNow", "()V"⟩, 60) := ⟨⟨by decide +kernel, by decide +kernel⟩, List.mem_of_getElem? (i := 1123) (by decide +kernel), List.mem_of_getElem? (i := 1649) (by decide +kernel), List.mem_of_getElem? (i := 1650) (by decide +kernel)⟩
theorem lw_p88 : lw_okq (⟨"TrunkLittersModel", "goYears", "(I)I"⟩, 60) := ⟨⟨by decide +kernel, by decide +kernel⟩, List.mem_of_getElem? (i := 1123) (by decide +kernel), List.mem_of_getElem? (i := 1653) (by decide +kernel), List.mem_of_getElem? (i := 1654) (by decide +kernel)⟩
theorem lw_p89 : lw_okq (⟨"TrunkLittersModel", "bringBack", "()V"⟩, 60) := ⟨⟨by decide +kernel, by decide +kernel⟩, List.mem_of_getElem? (i := 1123) (by decide +kernel), List.mem_of_getElem? (i := 1657) (by decide +kernel), List.mem_of_getElem? (i := 1658) (by decide +kernel)⟩
theorem lw_p90 : lw_okq (⟨"TrunkLittersModel", "marksAll", "()I"⟩, 60) := ⟨⟨by decide +kernel, by decide +kernel⟩, List.mem_of_getElem? (i := 1123) (by decide +kernel), List.mem_of_getElem? (i := 1669) (by decide +kernel), List.mem_of_getElem? (i := 1670) (by decide +kernel)⟩
theorem lw_p91 : lw_okq (⟨"TrunkLittersModel", "roomsIn", "(I)I"⟩, 60) := ⟨⟨by decide +kernel, by decide +kernel⟩, List.mem_of_getElem? (i := 1123) (by decide +kernel), List.mem_of_getElem? (i := 1698) (by decide +kernel), List.mem_of_getElem? (i := 1699) (by decide +kernel)⟩
theorem lw_p92 : lw_okq (⟨"TrunkLittersModel", "canChoose", "(III)Z"⟩, 60) := ⟨⟨by decide +kernel, by decide +kernel⟩, List.mem_of_getElem? (i := 1123) (by decide +kernel), List.mem_of_getElem? (i := 1713) (by decide +kernel), List.mem_of_getElem? (i := 1714) (by decide +kernel)⟩
theorem lw_p93 : lw_okq (⟨"TrunkLittersModel", "leftBut", "(III)I"⟩, 60) := ⟨⟨by decide +kernel, by decide +kernel⟩, List.mem_of_getElem? (i := 1123) (by decide +kernel), List.mem_of_getElem? (i := 1717) (by decide +kernel), List.mem_of_getElem? (i := 1718) (by decide +kernel)⟩
theorem lw_p94 : lw_okq (⟨"TrunkLittersModel", "isRest", "(IIII)Z"⟩, 60) := ⟨⟨by decide +kernel, by decide +kernel⟩, List.mem_of_getElem? (i := 1123) (by decide +kernel), List.mem_of_getElem? (i := 1721) (by decide +kernel), List.mem_of_getElem? (i := 1722) (by decide +kernel)⟩
theorem lw_p95 : lw_okq (⟨"TrunkLittersModel", "gainOf", "(IIII)I"⟩, 60) := ⟨⟨by decide +kernel, by decide +kernel⟩, List.mem_of_getElem? (i := 1123) (by decide +kernel), List.mem_of_getElem? (i := 1725) (by decide +kernel), List.mem_of_getElem? (i := 1726) (by decide +kernel)⟩
def lw_privs_6 : List (MethodName × Nat) := [(⟨"TrunkLittersModel", "keepAct", "()V"⟩, 60), (⟨"TrunkLittersModel", "goYear", "()I"⟩, 60), (⟨"TrunkLittersModel", "listen", "(I)V"⟩, 60), (⟨"TrunkLittersModel", "loseOne", "(I)V"⟩, 60), (⟨"TrunkLittersModel", "bringForth", "(I)V"⟩, 60), (⟨"TrunkLittersModel", "canCarry", "(II)Z"⟩, 60), (⟨"TrunkLittersModel", "swapAll", "()V"⟩, 60), (⟨"TrunkLittersModel", "keepNow", "()V"⟩, 60), (⟨"TrunkLittersModel", "goYears", "(I)I"⟩, 60), (⟨"TrunkLittersModel", "bringBack", "()V"⟩, 60), (⟨"TrunkLittersModel", "marksAll", "()I"⟩, 60), (⟨"TrunkLittersModel", "roomsIn", "(I)I"⟩, 60), (⟨"TrunkLittersModel", "canChoose", "(III)Z"⟩, 60), (⟨"TrunkLittersModel", "leftBut", "(III)I"⟩, 60), (⟨"TrunkLittersModel", "isRest", "(IIII)Z"⟩, 60), (⟨"TrunkLittersModel", "gainOf", "(IIII)I"⟩, 60)]
theorem lw_r6 : ∀ q ∈ lw_privs_6, lw_okq q := List.forall_mem_cons.mpr ⟨lw_p80, List.forall_mem_cons.mpr ⟨lw_p81, List.forall_mem_cons.mpr ⟨lw_p82, List.forall_mem_cons.mpr ⟨lw_p83, List.forall_mem_cons.mpr ⟨lw_p84, List.forall_mem_cons.mpr ⟨lw_p85, List.forall_mem_cons.mpr ⟨lw_p86, List.forall_mem_cons.mpr ⟨lw_p87, List.forall_mem_cons.mpr ⟨lw_p88, List.forall_mem_cons.mpr ⟨lw_p89, List.forall_mem_cons.mpr ⟨lw_p90, List.forall_mem_cons.mpr ⟨lw_p91, List.forall_mem_cons.mpr ⟨lw_p92, List.forall_mem_cons.mpr ⟨lw_p93, List.forall_mem_cons.mpr ⟨lw_p94, List.forall_mem_cons.mpr ⟨lw_p95, fun _ h => absurd h List.not_mem_nil⟩⟩⟩⟩⟩⟩⟩⟩⟩⟩⟩⟩⟩⟩⟩⟩
theorem lw_p96 : lw_okq (⟨"TrunkLittersModel", "changesOf", "(IIII)I"⟩, 60) := ⟨⟨by decide +kernel, by decide +kernel⟩, List.mem_of_getElem? (i := 1123) (by decide +kernel), List.mem_of_getElem? (i := 1737) (by decide +kernel), List.mem_of_getElem? (i := 1738) (by decide +kernel)⟩
theorem lw_p97 : lw_okq (⟨"TrunkLittersModel", "parentsOf", "(I)I"⟩, 60) := ⟨⟨by decide +kernel, by decide +kernel⟩, List.mem_of_getElem? (i := 1123) (by decide +kernel), List.mem_of_getElem? (i := 1749) (by decide +kernel), List.mem_of_getElem? (i := 1750) (by decide +kernel)⟩
theorem lw_p98 : lw_okq (⟨"TrunkLittersModel", "stepsUp", "(II)I"⟩, 60) := ⟨⟨by decide +kernel, by decide +kernel⟩, List.mem_of_getElem? (i := 1123) (by decide +kernel), List.mem_of_getElem? (i := 1761) (by decide +kernel), List.mem_of_getElem? (i := 1762) (by decide +kernel)⟩
theorem lw_p99 : lw_okq (⟨"TrunkLittersModel", "isOther", "(I)Z"⟩, 60) := ⟨⟨by decide +kernel, by decide +kernel⟩, List.mem_of_getElem? (i := 1123) (by decide +kernel), List.mem_of_getElem? (i := 1769) (by decide +kernel), List.mem_of_getElem? (i := 1770) (by decide +kernel)⟩
theorem lw_p100 : lw_okq (⟨"TrunkLittersModel", "doesFit", "(II)Z"⟩, 60) := ⟨⟨by decide +kernel, by decide +kernel⟩, List.mem_of_getElem? (i := 1123) (by decide +kernel), List.mem_of_getElem? (i := 1786) (by decide +kernel), List.mem_of_getElem? (i := 1787) (by decide +kernel)⟩
theorem lw_p101 : lw_okq (⟨"TrunkLittersModel", "sharedIf", "(II)I"⟩, 60) := ⟨⟨by decide +kernel, by decide +kernel⟩, List.mem_of_getElem? (i := 1123) (by decide +kernel), List.mem_of_getElem? (i := 1790) (by decide +kernel), List.mem_of_getElem? (i := 1791) (by decide +kernel)⟩
theorem lw_p102 : lw_okq (⟨"TrunkLittersModel", "mostBy", "(I)I"⟩, 60) := ⟨⟨by decide +kernel, by decide +kernel⟩, List.mem_of_getElem? (i := 1123) (by decide +kernel), List.mem_of_getElem? (i := 1803) (by decide +kernel), List.mem_of_getElem? (i := 1804) (by decide +kernel)⟩
def lw_privs_7 : List (MethodName × Nat) := [(⟨"TrunkLittersModel", "changesOf", "(IIII)I"⟩, 60), (⟨"TrunkLittersModel", "parentsOf", "(I)I"⟩, 60), (⟨"TrunkLittersModel", "stepsUp", "(II)I"⟩, 60), (⟨"TrunkLittersModel", "isOther", "(I)Z"⟩, 60), (⟨"TrunkLittersModel", "doesFit", "(II)Z"⟩, 60), (⟨"TrunkLittersModel", "sharedIf", "(II)I"⟩, 60), (⟨"TrunkLittersModel", "mostBy", "(I)I"⟩, 60)]
theorem lw_r7 : ∀ q ∈ lw_privs_7, lw_okq q := List.forall_mem_cons.mpr ⟨lw_p96, List.forall_mem_cons.mpr ⟨lw_p97, List.forall_mem_cons.mpr ⟨lw_p98, List.forall_mem_cons.mpr ⟨lw_p99, List.forall_mem_cons.mpr ⟨lw_p100, List.forall_mem_cons.mpr ⟨lw_p101, List.forall_mem_cons.mpr ⟨lw_p102, fun _ h => absurd h List.not_mem_nil⟩⟩⟩⟩⟩⟩⟩
def lw_privs : List (MethodName × Nat) := lw_privs_1 ++ (lw_privs_2 ++ (lw_privs_3 ++ (lw_privs_4 ++ (lw_privs_5 ++ (lw_privs_6 ++ (lw_privs_7))))))
def lw_tbl : List Cond := k2_sels lw_privs ++ tables_1
theorem lw_privs_ok : ∀ q ∈ lw_privs, lw_okq q := by
  show ∀ q ∈ lw_privs_1 ++ (lw_privs_2 ++ (lw_privs_3 ++ (lw_privs_4 ++ (lw_privs_5 ++ (lw_privs_6 ++ (lw_privs_7)))))), lw_okq q
  exact List.forall_mem_append.mpr ⟨lw_r1, List.forall_mem_append.mpr ⟨lw_r2, List.forall_mem_append.mpr ⟨lw_r3, List.forall_mem_append.mpr ⟨lw_r4, List.forall_mem_append.mpr ⟨lw_r5, List.forall_mem_append.mpr ⟨lw_r6, lw_r7⟩⟩⟩⟩⟩⟩

theorem goodIn_sub {big ws : List Cond} (hm : ∀ w ∈ ws, w ∈ big) (h : ws.all goodWord = true) : GoodIn big ws := fun w hw => ⟨hm w hw, good_of_word (List.all_eq_true.mp h w hw)⟩
def RX0 : String := "TrunkLitters$Acts"
def TX0 : u_T := fun k => match k with
  | 0 => ("TrunkLitters$Acts", "kept", "[LTrunkLitters$State;", true)
  | 1 => ("TrunkLitters$Acts", "done", "I", false)
  | _ => ("TrunkLitters$Acts", "all", "I", false)
def tyX0 : Nat → FieldType := fun k => match k with
  | 0 => .array (.object "TrunkLitters$State")
  | 1 => .int
  | _ => .int
abbrev wsX00 : List Cond := u_ws RX0 TX0 3
theorem nmX0 : ∀ a, a < 3 → ∀ b, b < 3 → a ≠ b → (TX0 a).2.1 ≠ (TX0 b).2.1 := by decide +kernel
theorem tyX0_ok : ∀ k, k < 3 → parseFieldDescriptor (TX0 k).2.2.1 = some (tyX0 k) := by decide +kernel
abbrev cX0_init : ByteArray := prog_2_method_1_code
def yX0_init : MethodName := ⟨RX0, "<init>", "(LTrunkLitters$Plan;)V"⟩
abbrev cX0_begin : ByteArray := prog_2_method_2_code
def yX0_begin : MethodName := ⟨RX0, "begin", "(LTrunkLitters$State;)V"⟩
abbrev cX0_keep : ByteArray := prog_2_method_3_code
def yX0_keep : MethodName := ⟨RX0, "keep", "(LTrunkLitters$State;)V"⟩
abbrev cX0_stepBack : ByteArray := prog_2_method_4_code
def yX0_stepBack : MethodName := ⟨RX0, "stepBack", "(LTrunkLitters$State;)Z"⟩
abbrev cX0_stepOn : ByteArray := prog_2_method_5_code
def yX0_stepOn : MethodName := ⟨RX0, "stepOn", "(LTrunkLitters$State;)Z"⟩
abbrev cX0_dropOldest : ByteArray := prog_2_method_6_code
def yX0_dropOldest : MethodName := ⟨RX0, "dropOldest", "()V"⟩
abbrev cX0_write : ByteArray := prog_2_method_7_code
def yX0_write : MethodName := ⟨RX0, "write", "(ILTrunkLitters$State;)V"⟩
abbrev cX0_read : ByteArray := prog_2_method_8_code
def yX0_read : MethodName := ⟨RX0, "read", "(ILTrunkLitters$State;)V"⟩
def RX1 : String := "TrunkLitters$Boxes"
def TX1 : u_T := fun k => match k with
  | 0 => ("TrunkLitters$Boxes", "kept", "[LTrunkLitters$State;", true)
  | _ => ("TrunkLitters$Boxes", "isFull", "[Z", true)
def tyX1 : Nat → FieldType := fun k => match k with
  | 0 => .array (.object "TrunkLitters$State")
  | _ => .array .boolean
abbrev wsX10 : List Cond := u_ws RX1 TX1 2
theorem nmX1 : ∀ a, a < 2 → ∀ b, b < 2 → a ≠ b → (TX1 a).2.1 ≠ (TX1 b).2.1 := by decide +kernel
theorem tyX1_ok : ∀ k, k < 2 → parseFieldDescriptor (TX1 k).2.2.1 = some (tyX1 k) := by decide +kernel
abbrev cX1_init : ByteArray := prog_3_method_1_code
def yX1_init : MethodName := ⟨RX1, "<init>", "(LTrunkLitters$Plan;)V"⟩
abbrev cX1_clear : ByteArray := prog_3_method_2_code
def yX1_clear : MethodName := ⟨RX1, "clear", "()V"⟩
abbrev cX1_put : ByteArray := prog_3_method_3_code
def yX1_put : MethodName := ⟨RX1, "put", "(ILTrunkLitters$State;)Z"⟩
abbrev cX1_take : ByteArray := prog_3_method_4_code
def yX1_take : MethodName := ⟨RX1, "take", "(ILTrunkLitters$State;)Z"⟩
def RX2 : String := "TrunkLitters$Formula"
def TX2 : u_T := fun k => match k with
  | 0 => ("TrunkLitters$Formula", "kinds", "[I", true)
  | 1 => ("TrunkLitters$Formula", "numbers", "[I", true)
  | 2 => ("TrunkLitters$Formula", "stack", "[I", true)
  | 3 => ("TrunkLitters$Formula", "length", "I", false)
  | _ => ("TrunkLitters$Formula", "units", "I", false)
def tyX2 : Nat → FieldType := fun k => match k with
  | 0 => .array .int
  | 1 => .array .int
  | 2 => .array .int
  | 3 => .int
  | _ => .int
abbrev wsX20 : List Cond := u_ws RX2 TX2 5
theorem nmX2 : ∀ a, a < 5 → ∀ b, b < 5 → a ≠ b → (TX2 a).2.1 ≠ (TX2 b).2.1 := by decide +kernel
theorem tyX2_ok : ∀ k, k < 5 → parseFieldDescriptor (TX2 k).2.2.1 = some (tyX2 k) := by decide +kernel
abbrev cX2_init : ByteArray := prog_4_method_1_code
def yX2_init : MethodName := ⟨RX2, "<init>", "()V"⟩
abbrev cX2_clear : ByteArray := prog_4_method_2_code
def yX2_clear : MethodName := ⟨RX2, "clear", "()V"⟩
abbrev cX2_beAsUntold : ByteArray := prog_4_method_3_code
def yX2_beAsUntold : MethodName := ⟨RX2, "beAsUntold", "()V"⟩
abbrev cX2_addStep : ByteArray := prog_4_method_4_code
def yX2_addStep : MethodName := ⟨RX2, "addStep", "(II)V"⟩
abbrev cX2_copyFrom : ByteArray := prog_4_method_5_code
def yX2_copyFrom : MethodName := ⟨RX2, "copyFrom", "(LTrunkLitters$Formula;)V"⟩
abbrev cX2_value : ByteArray := prog_4_method_6_code
def yX2_value : MethodName := ⟨RX2, "value", "(IIIII)I"⟩
abbrev cX2_push : ByteArray := prog_4_method_7_code
def yX2_push : MethodName := ⟨RX2, "push", "(II)I"⟩
abbrev cX2_work : ByteArray := prog_4_method_8_code
def yX2_work : MethodName := ⟨RX2, "work", "(II)I"⟩
abbrev cX2_join : ByteArray := prog_4_method_9_code
def yX2_join : MethodName := ⟨RX2, "join", "(III)I"⟩
def RX3 : String := "TrunkLitters$Memory"
def TX3 : u_T := fun k => match k with
  | 0 => ("TrunkLitters$Memory", "plan", "LTrunkLitters$Plan;", true)
  | 1 => ("TrunkLitters$Memory", "trunk", "[I", true)
  | 2 => ("TrunkLitters$Memory", "many", "[I", true)
  | 3 => ("TrunkLitters$Memory", "is", "[Z", true)
  | 4 => ("TrunkLitters$Memory", "toldAt", "[I", true)
  | 5 => ("TrunkLitters$Memory", "untoldAt", "[I", true)
  | 6 => ("TrunkLitters$Memory", "isUntold", "[Z", true)
  | 7 => ("TrunkLitters$Memory", "bySharing", "[I", true)
  | 8 => ("TrunkLitters$Memory", "count", "I", false)
  | _ => ("TrunkLitters$Memory", "time", "I", false)
def tyX3 : Nat → FieldType := fun k => match k with
  | 0 => .object "TrunkLitters$Plan"
  | 1 => .array .int
  | 2 => .array .int
  | 3 => .array .boolean
  | 4 => .array .int
  | 5 => .array .int
  | 6 => .array .boolean
  | 7 => .array .int
  | 8 => .int
  | _ => .int
abbrev wsX30 : List Cond := u_ws RX3 TX3 10
theorem nmX3 : ∀ a, a < 10 → ∀ b, b < 10 → a ≠ b → (TX3 a).2.1 ≠ (TX3 b).2.1 := by decide +kernel
theorem tyX3_ok : ∀ k, k < 10 → parseFieldDescriptor (TX3 k).2.2.1 = some (tyX3 k) := by decide +kernel
abbrev cX3_init : ByteArray := prog_5_method_1_code
def yX3_init : MethodName := ⟨RX3, "<init>", "(LTrunkLitters$Plan;)V"⟩
abbrev cX3_hold : ByteArray := prog_5_method_2_code
def yX3_hold : MethodName := ⟨RX3, "hold", "(IIZ)I"⟩
abbrev cX3_takeBack : ByteArray := prog_5_method_3_code
def yX3_takeBack : MethodName := ⟨RX3, "takeBack", "(I)Z"⟩
abbrev cX3_countFitting : ByteArray := prog_5_method_4_code
def yX3_countFitting : MethodName := ⟨RX3, "countFitting", "(I)I"⟩
abbrev cX3_knownOf : ByteArray := prog_5_method_5_code
def yX3_knownOf : MethodName := ⟨RX3, "knownOf", "(II)I"⟩
abbrev cX3_bestToAsk : ByteArray := prog_5_method_6_code
def yX3_bestToAsk : MethodName := ⟨RX3, "bestToAsk", "(I)I"⟩
abbrev cX3_mostLeftBy : ByteArray := prog_5_method_7_code
def yX3_mostLeftBy : MethodName := ⟨RX3, "mostLeftBy", "(II)I"⟩
abbrev cX3_isFitting : ByteArray := prog_5_method_8_code
def yX3_isFitting : MethodName := ⟨RX3, "isFitting", "(II)Z"⟩
abbrev cX3_sharedWith : ByteArray := prog_5_method_9_code
def yX3_sharedWith : MethodName := ⟨RX3, "sharedWith", "(II)I"⟩
def RX4 : String := "TrunkLitters$Plan"
def TX4 : u_T := fun k => match k with
  | 0 => ("TrunkLitters$Plan", "holds", "[I", true)
  | 1 => ("TrunkLitters$Plan", "bulk", "[I", true)
  | 2 => ("TrunkLitters$Plan", "room", "[I", true)
  | 3 => ("TrunkLitters$Plan", "marks", "[I", true)
  | 4 => ("TrunkLitters$Plan", "told", "[I", true)
  | 5 => ("TrunkLitters$Plan", "brood", "LTrunkLitters$Formula;", true)
  | 6 => ("TrunkLitters$Plan", "rooms", "I", false)
  | 7 => ("TrunkLitters$Plan", "trunks", "I", false)
  | 8 => ("TrunkLitters$Plan", "pines", "I", false)
  | 9 => ("TrunkLitters$Plan", "tales", "I", false)
  | _ => ("TrunkLitters$Plan", "draw", "I", false)
def tyX4 : Nat → FieldType := fun k => match k with
  | 0 => .array .int
  | 1 => .array .int
  | 2 => .array .int
  | 3 => .array .int
  | 4 => .array .int
  | 5 => .object "TrunkLitters$Formula"
  | 6 => .int
  | 7 => .int
  | 8 => .int
  | 9 => .int
  | _ => .int
abbrev wsX40 : List Cond := u_ws RX4 TX4 11
theorem nmX4 : ∀ a, a < 11 → ∀ b, b < 11 → a ≠ b → (TX4 a).2.1 ≠ (TX4 b).2.1 := by decide +kernel
theorem tyX4_ok : ∀ k, k < 11 → parseFieldDescriptor (TX4 k).2.2.1 = some (tyX4 k) := by decide +kernel
abbrev cX4_init : ByteArray := prog_6_method_1_code
def yX4_init : MethodName := ⟨RX4, "<init>", "()V"⟩
abbrev cX4_clear : ByteArray := prog_6_method_2_code
def yX4_clear : MethodName := ⟨RX4, "clear", "()V"⟩
abbrev cX4_copyFrom : ByteArray := prog_6_method_3_code
def yX4_copyFrom : MethodName := ⟨RX4, "copyFrom", "(LTrunkLitters$Plan;)V"⟩
abbrev cX4_hasRoom : ByteArray := prog_6_method_4_code
def yX4_hasRoom : MethodName := ⟨RX4, "hasRoom", "(I)Z"⟩
abbrev cX4_leftIn : ByteArray := prog_6_method_5_code
def yX4_leftIn : MethodName := ⟨RX4, "leftIn", "(I)I"⟩
def RX5 : String := "TrunkLitters$Reader"
def TX5 : u_T := fun k => match k with
  | 0 => ("TrunkLitters$Reader", "tape", "LTrunkLitters$Tape;", true)
  | 1 => ("TrunkLitters$Reader", "roomNames", "[J", true)
  | 2 => ("TrunkLitters$Reader", "trunkNames", "[J", true)
  | 3 => ("TrunkLitters$Reader", "onceTold", "I", false)
  | 4 => ("TrunkLitters$Reader", "value", "I", false)
  | 5 => ("TrunkLitters$Reader", "draft", "LTrunkLitters$Plan;", true)
  | 6 => ("TrunkLitters$Reader", "faultCode", "I", false)
  | _ => ("TrunkLitters$Reader", "faultPlace", "I", false)
def tyX5 : Nat → FieldType := fun k => match k with
  | 0 => .object "TrunkLitters$Tape"
  | 1 => .array .long
  | 2 => .array .long
  | 3 => .int
  | 4 => .int
  | 5 => .object "TrunkLitters$Plan"
  | 6 => .int
  | _ => .int
abbrev wsX50 : List Cond := u_ws RX5 TX5 8
theorem nmX5 : ∀ a, a < 8 → ∀ b, b < 8 → a ≠ b → (TX5 a).2.1 ≠ (TX5 b).2.1 := by decide +kernel
theorem tyX5_ok : ∀ k, k < 8 → parseFieldDescriptor (TX5 k).2.2.1 = some (tyX5 k) := by decide +kernel
abbrev cX5_init : ByteArray := prog_7_method_1_code
def yX5_init : MethodName := ⟨RX5, "<init>", "(LTrunkLitters$Tape;)V"⟩
abbrev cX5_readAll : ByteArray := prog_7_method_2_code
def yX5_readAll : MethodName := ⟨RX5, "readAll", "()Z"⟩
abbrev cX5_readLine : ByteArray := prog_7_method_3_code
def yX5_readLine : MethodName := ⟨RX5, "readLine", "()Z"⟩
abbrev cX5_readRoom : ByteArray := prog_7_method_4_code
def yX5_readRoom : MethodName := ⟨RX5, "readRoom", "()Z"⟩
abbrev cX5_readTrunk : ByteArray := prog_7_method_5_code
def yX5_readTrunk : MethodName := ⟨RX5, "readTrunk", "()Z"⟩
abbrev cX5_readNewName : ByteArray := prog_7_method_6_code
def yX5_readNewName : MethodName := ⟨RX5, "readNewName", "([JI)Z"⟩
abbrev cX5_readRoomFor : ByteArray := prog_7_method_7_code
def yX5_readRoomFor : MethodName := ⟨RX5, "readRoomFor", "(I)Z"⟩
abbrev cX5_readNumber : ByteArray := prog_7_method_8_code
def yX5_readNumber : MethodName := ⟨RX5, "readNumber", "(II)Z"⟩
abbrev cX5_isFirst : ByteArray := prog_7_method_9_code
def yX5_isFirst : MethodName := ⟨RX5, "isFirst", "(I)Z"⟩
abbrev cX5_readPart : ByteArray := prog_7_method_10_code
def yX5_readPart : MethodName := ⟨RX5, "readPart", "(II)Z"⟩
abbrev cX5_readJoined : ByteArray := prog_7_method_11_code
def yX5_readJoined : MethodName := ⟨RX5, "readJoined", "(II)Z"⟩
abbrev cX5_readNot : ByteArray := prog_7_method_12_code
def yX5_readNot : MethodName := ⟨RX5, "readNot", "(I)Z"⟩
abbrev cX5_readUnit : ByteArray := prog_7_method_13_code
def yX5_readUnit : MethodName := ⟨RX5, "readUnit", "(I)Z"⟩
abbrev cX5_levelOf : ByteArray := prog_7_method_14_code
def yX5_levelOf : MethodName := ⟨RX5, "levelOf", "(I)I"⟩
abbrev cX5_take : ByteArray := prog_7_method_15_code
def yX5_take : MethodName := ⟨RX5, "take", "(I)Z"⟩
abbrev cX5_cannotStand : ByteArray := prog_7_method_16_code
def yX5_cannotStand : MethodName := ⟨RX5, "cannotStand", "()Z"⟩
abbrev cX5_failAs : ByteArray := prog_7_method_17_code
def yX5_failAs : MethodName := ⟨RX5, "failAs", "(I)Z"⟩
abbrev cX5_find : ByteArray := prog_7_method_18_code
def yX5_find : MethodName := ⟨RX5, "find", "([JIJ)I"⟩
def RX6 : String := "TrunkLitters$Relations"
def TX6 : u_T := fun k => match k with
  | _ => ("", "", "", false)
def tyX6 : Nat → FieldType := fun k => match k with
  | _ => .int
abbrev wsX60 : List Cond := u_ws RX6 TX6 0
theorem nmX6 : ∀ a, a < 0 → ∀ b, b < 0 → a ≠ b → (TX6 a).2.1 ≠ (TX6 b).2.1 := by decide +kernel
theorem tyX6_ok : ∀ k, k < 0 → parseFieldDescriptor (TX6 k).2.2.1 = some (tyX6 k) := by decide +kernel
abbrev cX6_nearestPair : ByteArray := prog_8_method_2_code
def yX6_nearestPair : MethodName := ⟨RX6, "nearestPair", "(LTrunkLitters$State;I)I"⟩
abbrev cX6_marksInNeither : ByteArray := prog_8_method_3_code
def yX6_marksInNeither : MethodName := ⟨RX6, "marksInNeither", "(LTrunkLitters$State;III)I"⟩
abbrev cX6_changes : ByteArray := prog_8_method_4_code
def yX6_changes : MethodName := ⟨RX6, "changes", "(LTrunkLitters$State;IIII)I"⟩
abbrev cX6_leastTree : ByteArray := prog_8_method_5_code
def yX6_leastTree : MethodName := ⟨RX6, "leastTree", "(LTrunkLitters$State;)I"⟩
abbrev cX6_distanceTo : ByteArray := prog_8_method_6_code
def yX6_distanceTo : MethodName := ⟨RX6, "distanceTo", "(LTrunkLitters$State;II)I"⟩
abbrev cX6_forebears : ByteArray := prog_8_method_7_code
def yX6_forebears : MethodName := ⟨RX6, "forebears", "(LTrunkLitters$State;I)I"⟩
abbrev cX6_steps : ByteArray := prog_8_method_8_code
def yX6_steps : MethodName := ⟨RX6, "steps", "(LTrunkLitters$State;II)I"⟩
abbrev cX6_mostLike : ByteArray := prog_8_method_9_code
def yX6_mostLike : MethodName := ⟨RX6, "mostLike", "(LTrunkLitters$State;I)I"⟩
abbrev cX6_leastLikeAll : ByteArray := prog_8_method_10_code
def yX6_leastLikeAll : MethodName := ⟨RX6, "leastLikeAll", "(LTrunkLitters$State;)I"⟩
abbrev cX6_countWith : ByteArray := prog_8_method_11_code
def yX6_countWith : MethodName := ⟨RX6, "countWith", "(LTrunkLitters$State;I)I"⟩
def RX7 : String := "TrunkLitters$State"
def TX7 : u_T := fun k => match k with
  | 0 => ("TrunkLitters$State", "plan", "LTrunkLitters$Plan;", true)
  | 1 => ("TrunkLitters$State", "bulk", "[I", true)
  | 2 => ("TrunkLitters$State", "room", "[I", true)
  | 3 => ("TrunkLitters$State", "marks", "[I", true)
  | 4 => ("TrunkLitters$State", "told", "[I", true)
  | 5 => ("TrunkLitters$State", "pines", "[I", true)
  | 6 => ("TrunkLitters$State", "firstParent", "[I", true)
  | 7 => ("TrunkLitters$State", "otherParent", "[I", true)
  | 8 => ("TrunkLitters$State", "tales", "I", false)
  | 9 => ("TrunkLitters$State", "year", "I", false)
  | _ => ("TrunkLitters$State", "seed", "I", false)
def tyX7 : Nat → FieldType := fun k => match k with
  | 0 => .object "TrunkLitters$Plan"
  | 1 => .array .int
  | 2 => .array .int
  | 3 => .array .int
  | 4 => .array .int
  | 5 => .array .int
  | 6 => .array .int
  | 7 => .array .int
  | 8 => .int
  | 9 => .int
  | _ => .int
abbrev wsX70 : List Cond := u_ws RX7 TX7 11
theorem nmX7 : ∀ a, a < 11 → ∀ b, b < 11 → a ≠ b → (TX7 a).2.1 ≠ (TX7 b).2.1 := by decide +kernel
theorem tyX7_ok : ∀ k, k < 11 → parseFieldDescriptor (TX7 k).2.2.1 = some (tyX7 k) := by decide +kernel
abbrev cX7_init : ByteArray := prog_9_method_1_code
def yX7_init : MethodName := ⟨RX7, "<init>", "(LTrunkLitters$Plan;)V"⟩
abbrev cX7_standAsTold : ByteArray := prog_9_method_2_code
def yX7_standAsTold : MethodName := ⟨RX7, "standAsTold", "()V"⟩
abbrev cX7_copyFrom : ByteArray := prog_9_method_3_code
def yX7_copyFrom : MethodName := ⟨RX7, "copyFrom", "(LTrunkLitters$State;)V"⟩
abbrev cX7_add : ByteArray := prog_9_method_4_code
def yX7_add : MethodName := ⟨RX7, "add", "(IIII)V"⟩
abbrev cX7_remove : ByteArray := prog_9_method_5_code
def yX7_remove : MethodName := ⟨RX7, "remove", "(I)V"⟩
abbrev cX7_has : ByteArray := prog_9_method_6_code
def yX7_has : MethodName := ⟨RX7, "has", "(I)Z"⟩
abbrev cX7_hasBoth : ByteArray := prog_9_method_7_code
def yX7_hasBoth : MethodName := ⟨RX7, "hasBoth", "(II)Z"⟩
abbrev cX7_bits : ByteArray := prog_9_method_8_code
def yX7_bits : MethodName := ⟨RX7, "bits", "()I"⟩
abbrev cX7_bitsIn : ByteArray := prog_9_method_9_code
def yX7_bitsIn : MethodName := ⟨RX7, "bitsIn", "(I)I"⟩
abbrev cX7_count : ByteArray := prog_9_method_10_code
def yX7_count : MethodName := ⟨RX7, "count", "()I"⟩
abbrev cX7_bulkOf : ByteArray := prog_9_method_11_code
def yX7_bulkOf : MethodName := ⟨RX7, "bulkOf", "(I)I"⟩
abbrev cX7_leftIn : ByteArray := prog_9_method_12_code
def yX7_leftIn : MethodName := ⟨RX7, "leftIn", "(I)I"⟩
abbrev cX7_firstFree : ByteArray := prog_9_method_13_code
def yX7_firstFree : MethodName := ⟨RX7, "firstFree", "()I"⟩
abbrev cX7_allMarks : ByteArray := prog_9_method_14_code
def yX7_allMarks : MethodName := ⟨RX7, "allMarks", "()I"⟩
abbrev cX7_shared : ByteArray := prog_9_method_15_code
def yX7_shared : MethodName := ⟨RX7, "shared", "(II)I"⟩
abbrev cX7_coupleIn : ByteArray := prog_9_method_16_code
def yX7_coupleIn : MethodName := ⟨RX7, "coupleIn", "(I)I"⟩
abbrev cX7_bulkiestIn : ByteArray := prog_9_method_17_code
def yX7_bulkiestIn : MethodName := ⟨RX7, "bulkiestIn", "(II)I"⟩
abbrev cX7_parentsOf : ByteArray := prog_9_method_18_code
def yX7_parentsOf : MethodName := ⟨RX7, "parentsOf", "(I)I"⟩
abbrev cX7_bitOf : ByteArray := prog_9_method_19_code
def yX7_bitOf : MethodName := ⟨RX7, "bitOf", "(I)I"⟩
def RX8 : String := "TrunkLitters$Stowing"
def TX8 : u_T := fun k => match k with
  | 0 => ("TrunkLitters$Stowing", "plan", "LTrunkLitters$Plan;", true)
  | 1 => ("TrunkLitters$Stowing", "space", "[I", true)
  | 2 => ("TrunkLitters$Stowing", "choice", "[I", true)
  | 3 => ("TrunkLitters$Stowing", "restOfFirst", "I", false)
  | _ => ("TrunkLitters$Stowing", "restOfOther", "I", false)
def tyX8 : Nat → FieldType := fun k => match k with
  | 0 => .object "TrunkLitters$Plan"
  | 1 => .array .int
  | 2 => .array .int
  | 3 => .int
  | _ => .int
abbrev wsX80 : List Cond := u_ws RX8 TX8 5
theorem nmX8 : ∀ a, a < 5 → ∀ b, b < 5 → a ≠ b → (TX8 a).2.1 ≠ (TX8 b).2.1 := by decide +kernel
theorem tyX8_ok : ∀ k, k < 5 → parseFieldDescriptor (TX8 k).2.2.1 = some (tyX8 k) := by decide +kernel
abbrev cX8_init : ByteArray := prog_10_method_1_code
def yX8_init : MethodName := ⟨RX8, "<init>", "(LTrunkLitters$Plan;)V"⟩
abbrev cX8_packAll : ByteArray := prog_10_method_2_code
def yX8_packAll : MethodName := ⟨RX8, "packAll", "(LTrunkLitters$State;)I"⟩
abbrev cX8_stowFrom : ByteArray := prog_10_method_3_code
def yX8_stowFrom : MethodName := ⟨RX8, "stowFrom", "(LTrunkLitters$State;III)Z"⟩
abbrev cX8_stowBehind : ByteArray := prog_10_method_4_code
def yX8_stowBehind : MethodName := ⟨RX8, "stowBehind", "(LTrunkLitters$State;III)Z"⟩
abbrev cX8_fullest : ByteArray := prog_10_method_5_code
def yX8_fullest : MethodName := ⟨RX8, "fullest", "(LTrunkLitters$State;I)I"⟩
abbrev cX8_countRests : ByteArray := prog_10_method_6_code
def yX8_countRests : MethodName := ⟨RX8, "countRests", "(LTrunkLitters$State;II)I"⟩
abbrev cX8_countPairsAtRest : ByteArray := prog_10_method_7_code
def yX8_countPairsAtRest : MethodName := ⟨RX8, "countPairsAtRest", "(II)I"⟩
abbrev cX8_isContent : ByteArray := prog_10_method_8_code
def yX8_isContent : MethodName := ⟨RX8, "isContent", "(IIII)Z"⟩
abbrev cX8_gainOf : ByteArray := prog_10_method_9_code
def yX8_gainOf : MethodName := ⟨RX8, "gainOf", "(IIII)I"⟩
def RX9 : String := "TrunkLitters$Tape"
def TX9 : u_T := fun k => match k with
  | 0 => ("TrunkLitters$Tape", "bytes", "[I", true)
  | 1 => ("TrunkLitters$Tape", "ownWords", "[J", true)
  | 2 => ("TrunkLitters$Tape", "at", "I", false)
  | 3 => ("TrunkLitters$Tape", "length", "I", false)
  | 4 => ("TrunkLitters$Tape", "kind", "I", false)
  | 5 => ("TrunkLitters$Tape", "place", "I", false)
  | 6 => ("TrunkLitters$Tape", "number", "I", false)
  | _ => ("TrunkLitters$Tape", "word", "J", false)
def tyX9 : Nat → FieldType := fun k => match k with
  | 0 => .array .int
  | 1 => .array .long
  | 2 => .int
  | 3 => .int
  | 4 => .int
  | 5 => .int
  | 6 => .int
  | _ => .long
abbrev wsX90 : List Cond := u_ws RX9 TX9 8
theorem nmX9 : ∀ a, a < 8 → ∀ b, b < 8 → a ≠ b → (TX9 a).2.1 ≠ (TX9 b).2.1 := by decide +kernel
theorem tyX9_ok : ∀ k, k < 8 → parseFieldDescriptor (TX9 k).2.2.1 = some (tyX9 k) := by decide +kernel
abbrev cX9_init : ByteArray := prog_11_method_1_code
def yX9_init : MethodName := ⟨RX9, "<init>", "()V"⟩
abbrev cX9_put : ByteArray := prog_11_method_2_code
def yX9_put : MethodName := ⟨RX9, "put", "(I)V"⟩
abbrev cX9_rewind : ByteArray := prog_11_method_3_code
def yX9_rewind : MethodName := ⟨RX9, "rewind", "()V"⟩
abbrev cX9_advance : ByteArray := prog_11_method_4_code
def yX9_advance : MethodName := ⟨RX9, "advance", "()V"⟩
abbrev cX9_takeWord : ByteArray := prog_11_method_5_code
def yX9_takeWord : MethodName := ⟨RX9, "takeWord", "()V"⟩
abbrev cX9_takeNumber : ByteArray := prog_11_method_6_code
def yX9_takeNumber : MethodName := ⟨RX9, "takeNumber", "()V"⟩
abbrev cX9_look : ByteArray := prog_11_method_7_code
def yX9_look : MethodName := ⟨RX9, "look", "()I"⟩
abbrev cX9_wordKind : ByteArray := prog_11_method_8_code
def yX9_wordKind : MethodName := ⟨RX9, "wordKind", "(J)I"⟩
abbrev cX9_withLetter : ByteArray := prog_11_method_9_code
def yX9_withLetter : MethodName := ⟨RX9, "withLetter", "(JI)J"⟩
abbrev cX9_isBlank : ByteArray := prog_11_method_10_code
def yX9_isBlank : MethodName := ⟨RX9, "isBlank", "(I)Z"⟩
abbrev cX9_isLetter : ByteArray := prog_11_method_11_code
def yX9_isLetter : MethodName := ⟨RX9, "isLetter", "(I)Z"⟩
abbrev cX9_isDigit : ByteArray := prog_11_method_12_code
def yX9_isDigit : MethodName := ⟨RX9, "isDigit", "(I)Z"⟩
abbrev cX9_signKind : ByteArray := prog_11_method_13_code
def yX9_signKind : MethodName := ⟨RX9, "signKind", "(I)I"⟩
def RX10 : String := "TrunkLitters$Years"
def TX10 : u_T := fun k => match k with
  | 0 => ("TrunkLitters$Years", "plan", "LTrunkLitters$Plan;", true)
  | 1 => ("TrunkLitters$Years", "ahead", "LTrunkLitters$State;", true)
  | 2 => ("TrunkLitters$Years", "came", "I", false)
  | _ => ("TrunkLitters$Years", "fell", "I", false)
def tyX10 : Nat → FieldType := fun k => match k with
  | 0 => .object "TrunkLitters$Plan"
  | 1 => .object "TrunkLitters$State"
  | 2 => .int
  | _ => .int
abbrev wsX100 : List Cond := u_ws RX10 TX10 4
theorem nmX10 : ∀ a, a < 4 → ∀ b, b < 4 → a ≠ b → (TX10 a).2.1 ≠ (TX10 b).2.1 := by decide +kernel
theorem tyX10_ok : ∀ k, k < 4 → parseFieldDescriptor (TX10 k).2.2.1 = some (tyX10 k) := by decide +kernel
abbrev cX10_init : ByteArray := prog_12_method_1_code
def yX10_init : MethodName := ⟨RX10, "<init>", "(LTrunkLitters$Plan;)V"⟩
abbrev cX10_pass : ByteArray := prog_12_method_2_code
def yX10_pass : MethodName := ⟨RX10, "pass", "(LTrunkLitters$State;I)V"⟩
abbrev cX10_behind : ByteArray := prog_12_method_3_code
def yX10_behind : MethodName := ⟨RX10, "behind", "(LTrunkLitters$State;II)LTrunkLitters$State;"⟩
abbrev cX10_countIfCarried : ByteArray := prog_12_method_4_code
def yX10_countIfCarried : MethodName := ⟨RX10, "countIfCarried", "(LTrunkLitters$State;II)I"⟩
abbrev cX10_untilGone : ByteArray := prog_12_method_5_code
def yX10_untilGone : MethodName := ⟨RX10, "untilGone", "(LTrunkLitters$State;I)I"⟩
abbrev cX10_isRipe : ByteArray := prog_12_method_6_code
def yX10_isRipe : MethodName := ⟨RX10, "isRipe", "(LTrunkLitters$State;I)Z"⟩
abbrev cX10_broodOf : ByteArray := prog_12_method_7_code
def yX10_broodOf : MethodName := ⟨RX10, "broodOf", "(LTrunkLitters$State;II)I"⟩
abbrev cX10_youngBulk : ByteArray := prog_12_method_8_code
def yX10_youngBulk : MethodName := ⟨RX10, "youngBulk", "(LTrunkLitters$State;II)I"⟩
abbrev cX10_listen : ByteArray := prog_12_method_9_code
def yX10_listen : MethodName := ⟨RX10, "listen", "(LTrunkLitters$State;I)V"⟩
abbrev cX10_grow : ByteArray := prog_12_method_10_code
def yX10_grow : MethodName := ⟨RX10, "grow", "(LTrunkLitters$State;)V"⟩
abbrev cX10_bringForth : ByteArray := prog_12_method_11_code
def yX10_bringForth : MethodName := ⟨RX10, "bringForth", "(LTrunkLitters$State;II)V"⟩
def RX11 : String := "TrunkLitters"
def TX11 : u_T := fun k => match k with
  | 0 => ("TrunkLitters", "tape", "LTrunkLitters$Tape;", true)
  | 1 => ("TrunkLitters", "plan", "LTrunkLitters$Plan;", true)
  | 2 => ("TrunkLitters", "reader", "LTrunkLitters$Reader;", true)
  | 3 => ("TrunkLitters", "now", "LTrunkLitters$State;", true)
  | 4 => ("TrunkLitters", "years", "LTrunkLitters$Years;", true)
  | 5 => ("TrunkLitters", "acts", "LTrunkLitters$Acts;", true)
  | 6 => ("TrunkLitters", "boxes", "LTrunkLitters$Boxes;", true)
  | 7 => ("TrunkLitters", "stowing", "LTrunkLitters$Stowing;", true)
  | 8 => ("TrunkLitters", "memory", "LTrunkLitters$Memory;", true)
  | 9 => ("TrunkLitters", "lying", "[I", true)
  | _ => ("TrunkLitters", "lyingCount", "I", false)
def tyX11 : Nat → FieldType := fun k => match k with
  | 0 => .object "TrunkLitters$Tape"
  | 1 => .object "TrunkLitters$Plan"
  | 2 => .object "TrunkLitters$Reader"
  | 3 => .object "TrunkLitters$State"
  | 4 => .object "TrunkLitters$Years"
  | 5 => .object "TrunkLitters$Acts"
  | 6 => .object "TrunkLitters$Boxes"
  | 7 => .object "TrunkLitters$Stowing"
  | 8 => .object "TrunkLitters$Memory"
  | 9 => .array .int
  | _ => .int
abbrev wsX110 : List Cond := u_ws RX11 TX11 11
theorem nmX11 : ∀ a, a < 11 → ∀ b, b < 11 → a ≠ b → (TX11 a).2.1 ≠ (TX11 b).2.1 := by decide +kernel
theorem tyX11_ok : ∀ k, k < 11 → parseFieldDescriptor (TX11 k).2.2.1 = some (tyX11 k) := by decide +kernel
abbrev cX11_init : ByteArray := prog_1_method_1_code
def yX11_init : MethodName := ⟨RX11, "<init>", "()V"⟩
abbrev cX11_feed : ByteArray := prog_1_method_2_code
def yX11_feed : MethodName := ⟨RX11, "feed", "(IIIII)I"⟩
abbrev cX11_end : ByteArray := prog_1_method_3_code
def yX11_end : MethodName := ⟨RX11, "end", "(I)I"⟩
abbrev cX11_house : ByteArray := prog_1_method_4_code
def yX11_house : MethodName := ⟨RX11, "house", "()I"⟩
abbrev cX11_fault : ByteArray := prog_1_method_5_code
def yX11_fault : MethodName := ⟨RX11, "fault", "(I)I"⟩
abbrev cX11_room : ByteArray := prog_1_method_6_code
def yX11_room : MethodName := ⟨RX11, "room", "(II)I"⟩
abbrev cX11_trunk : ByteArray := prog_1_method_7_code
def yX11_trunk : MethodName := ⟨RX11, "trunk", "(II)I"⟩
abbrev cX11_brood : ByteArray := prog_1_method_8_code
def yX11_brood : MethodName := ⟨RX11, "brood", "(II)I"⟩
abbrev cX11_couple : ByteArray := prog_1_method_9_code
def yX11_couple : MethodName := ⟨RX11, "couple", "(I)I"⟩
abbrev cX11_year : ByteArray := prog_1_method_10_code
def yX11_year : MethodName := ⟨RX11, "year", "()I"⟩
abbrev cX11_carry : ByteArray := prog_1_method_11_code
def yX11_carry : MethodName := ⟨RX11, "carry", "(II)I"⟩
abbrev cX11_tell : ByteArray := prog_1_method_12_code
def yX11_tell : MethodName := ⟨RX11, "tell", "(I)I"⟩
abbrev cX11_lose : ByteArray := prog_1_method_13_code
def yX11_lose : MethodName := ⟨RX11, "lose", "(I)I"⟩
abbrev cX11_undo : ByteArray := prog_1_method_14_code
def yX11_undo : MethodName := ⟨RX11, "undo", "()Z"⟩
abbrev cX11_redo : ByteArray := prog_1_method_15_code
def yX11_redo : MethodName := ⟨RX11, "redo", "()Z"⟩
abbrev cX11_will : ByteArray := prog_1_method_16_code
def yX11_will : MethodName := ⟨RX11, "will", "(III)I"⟩
abbrev cX11_alive : ByteArray := prog_1_method_17_code
def yX11_alive : MethodName := ⟨RX11, "alive", "(I)I"⟩
abbrev cX11_need : ByteArray := prog_1_method_18_code
def yX11_need : MethodName := ⟨RX11, "need", "(I)I"⟩
abbrev cX11_best : ByteArray := prog_1_method_19_code
def yX11_best : MethodName := ⟨RX11, "best", "(II)I"⟩
abbrev cX11_fading : ByteArray := prog_1_method_20_code
def yX11_fading : MethodName := ⟨RX11, "fading", "(I)I"⟩
abbrev cX11_ripe : ByteArray := prog_1_method_21_code
def yX11_ripe : MethodName := ⟨RX11, "ripe", "()I"⟩
abbrev cX11_law : ByteArray := prog_1_method_22_code
def yX11_law : MethodName := ⟨RX11, "law", "(II)I"⟩
abbrev cX11_gone : ByteArray := prog_1_method_23_code
def yX11_gone : MethodName := ⟨RX11, "gone", "(I)I"⟩
abbrev cX11_canLieAhead : ByteArray := prog_1_method_24_code
def yX11_canLieAhead : MethodName := ⟨RX11, "canLieAhead", "(I)Z"⟩
abbrev cX11_pack : ByteArray := prog_1_method_25_code
def yX11_pack : MethodName := ⟨RX11, "pack", "()I"⟩
abbrev cX11_fill : ByteArray := prog_1_method_26_code
def yX11_fill : MethodName := ⟨RX11, "fill", "(II)I"⟩
abbrev cX11_rivals : ByteArray := prog_1_method_27_code
def yX11_rivals : MethodName := ⟨RX11, "rivals", "(II)I"⟩
abbrev cX11_roomiest : ByteArray := prog_1_method_28_code
def yX11_roomiest : MethodName := ⟨RX11, "roomiest", "()I"⟩
abbrev cX11_lies : ByteArray := prog_1_method_29_code
def yX11_lies : MethodName := ⟨RX11, "lies", "(I)I"⟩
abbrev cX11_layDown : ByteArray := prog_1_method_30_code
def yX11_layDown : MethodName := ⟨RX11, "layDown", "(I)V"⟩
abbrev cX11_sires : ByteArray := prog_1_method_31_code
def yX11_sires : MethodName := ⟨RX11, "sires", "(II)I"⟩
abbrev cX11_quartet : ByteArray := prog_1_method_32_code
def yX11_quartet : MethodName := ⟨RX11, "quartet", "(IIIII)I"⟩
abbrev cX11_span : ByteArray := prog_1_method_33_code
def yX11_span : MethodName := ⟨RX11, "span", "()I"⟩
abbrev cX11_line : ByteArray := prog_1_method_34_code
def yX11_line : MethodName := ⟨RX11, "line", "(I)I"⟩
abbrev cX11_litter : ByteArray := prog_1_method_35_code
def yX11_litter : MethodName := ⟨RX11, "litter", "(I)I"⟩
abbrev cX11_kin : ByteArray := prog_1_method_36_code
def yX11_kin : MethodName := ⟨RX11, "kin", "(II)I"⟩
abbrev cX11_alike : ByteArray := prog_1_method_37_code
def yX11_alike : MethodName := ⟨RX11, "alike", "(II)I"⟩
abbrev cX11_like : ByteArray := prog_1_method_38_code
def yX11_like : MethodName := ⟨RX11, "like", "(I)I"⟩
abbrev cX11_odd : ByteArray := prog_1_method_39_code
def yX11_odd : MethodName := ⟨RX11, "odd", "()I"⟩
abbrev cX11_bearers : ByteArray := prog_1_method_40_code
def yX11_bearers : MethodName := ⟨RX11, "bearers", "(I)I"⟩
abbrev cX11_pining : ByteArray := prog_1_method_41_code
def yX11_pining : MethodName := ⟨RX11, "pining", "()I"⟩
abbrev cX11_held : ByteArray := prog_1_method_42_code
def yX11_held : MethodName := ⟨RX11, "held", "(IIZ)I"⟩
abbrev cX11_untell : ByteArray := prog_1_method_43_code
def yX11_untell : MethodName := ⟨RX11, "untell", "(I)Z"⟩
abbrev cX11_later : ByteArray := prog_1_method_44_code
def yX11_later : MethodName := ⟨RX11, "later", "(I)I"⟩
abbrev cX11_fits : ByteArray := prog_1_method_45_code
def yX11_fits : MethodName := ⟨RX11, "fits", "(I)I"⟩
abbrev cX11_sure : ByteArray := prog_1_method_46_code
def yX11_sure : MethodName := ⟨RX11, "sure", "(II)I"⟩
abbrev cX11_ask : ByteArray := prog_1_method_47_code
def yX11_ask : MethodName := ⟨RX11, "ask", "(II)I"⟩
abbrev cX11_image : ByteArray := prog_1_method_48_code
def yX11_image : MethodName := ⟨RX11, "image", "(I)I"⟩
abbrev cX11_back : ByteArray := prog_1_method_49_code
def yX11_back : MethodName := ⟨RX11, "back", "(I)I"⟩
abbrev cX11_about : ByteArray := prog_1_method_50_code
def yX11_about : MethodName := ⟨RX11, "about", "(I)I"⟩
def RX12 : String := "TrunkLittersModel"
def TX12 : u_T := fun k => match k with
  | 0 => ("TrunkLittersModel", "tape", "[B", true)
  | 1 => ("TrunkLittersModel", "text", "[B", true)
  | 2 => ("TrunkLittersModel", "taped", "I", false)
  | 3 => ("TrunkLittersModel", "size", "I", false)
  | 4 => ("TrunkLittersModel", "faultKind", "I", false)
  | 5 => ("TrunkLittersModel", "faultPlace", "I", false)
  | 6 => ("TrunkLittersModel", "at", "I", false)
  | 7 => ("TrunkLittersModel", "end", "I", false)
  | 8 => ("TrunkLittersModel", "token", "I", false)
  | 9 => ("TrunkLittersModel", "number", "I", false)
  | 10 => ("TrunkLittersModel", "name", "J", false)
  | 11 => ("TrunkLittersModel", "rooms", "[I", true)
  | 12 => ("TrunkLittersModel", "trunks", "[I", true)
  | 13 => ("TrunkLittersModel", "units", "[I", true)
  | 14 => ("TrunkLittersModel", "pines", "[I", true)
  | 15 => ("TrunkLittersModel", "tales", "[I", true)
  | 16 => ("TrunkLittersModel", "draw", "[I", true)
  | 17 => ("TrunkLittersModel", "told", "[I", true)
  | 18 => ("TrunkLittersModel", "holds", "[I", true)
  | 19 => ("TrunkLittersModel", "bulkTold", "[I", true)
  | 20 => ("TrunkLittersModel", "roomTold", "[I", true)
  | 21 => ("TrunkLittersModel", "marksTold", "[I", true)
  | 22 => ("TrunkLittersModel", "hasTold", "[I", true)
  | 23 => ("TrunkLittersModel", "ruleFrom", "[I", true)
  | 24 => ("TrunkLittersModel", "ruleTo", "[I", true)
  | 25 => ("TrunkLittersModel", "rName", "[J", true)
  | 26 => ("TrunkLittersModel", "tName", "[J", true)
  | 27 => ("TrunkLittersModel", "code", "[I", true)
  | 28 => ("TrunkLittersModel", "codeNumber", "[I", true)
  | 29 => ("TrunkLittersModel", "eWhat", "[I", true)
  | 30 => ("TrunkLittersModel", "eSign", "[I", true)
  | 31 => ("TrunkLittersModel", "pile", "[I", true)
  | 32 => ("TrunkLittersModel", "bank", "I", false)
  | 33 => ("TrunkLittersModel", "rb", "I", false)
  | 34 => ("TrunkLittersModel", "codes", "I", false)
  | 35 => ("TrunkLittersModel", "within", "I", false)
  | 36 => ("TrunkLittersModel", "piled", "I", false)
  | 37 => ("TrunkLittersModel", "unitsInRule", "I", false)
  | 38 => ("TrunkLittersModel", "askOne", "I", false)
  | 39 => ("TrunkLittersModel", "askOther", "I", false)
  | 40 => ("TrunkLittersModel", "all", "[I", true)
  | 41 => ("TrunkLittersModel", "kept", "[I", true)
  | 42 => ("TrunkLittersModel", "thoughtPines", "I", false)
  | 43 => ("TrunkLittersModel", "was", "[I", true)
  | 44 => ("TrunkLittersModel", "acts", "I", false)
  | 45 => ("TrunkLittersModel", "undone", "I", false)
  | 46 => ("TrunkLittersModel", "laidRow", "[I", true)
  | 47 => ("TrunkLittersModel", "laid", "I", false)
  | 48 => ("TrunkLittersModel", "sOther", "[I", true)
  | 49 => ("TrunkLittersModel", "sMany", "[I", true)
  | 50 => ("TrunkLittersModel", "sIs", "[I", true)
  | 51 => ("TrunkLittersModel", "sTold", "[I", true)
  | 52 => ("TrunkLittersModel", "sUntold", "[I", true)
  | 53 => ("TrunkLittersModel", "parts", "[I", true)
  | 54 => ("TrunkLittersModel", "isFit", "[Z", true)
  | 55 => ("TrunkLittersModel", "helds", "I", false)
  | 56 => ("TrunkLittersModel", "time", "I", false)
  | 57 => ("TrunkLittersModel", "fitting", "I", false)
  | 58 => ("TrunkLittersModel", "boxAll", "[I", true)
  | _ => ("TrunkLittersModel", "isBoxed", "[Z", true)
def tyX12 : Nat → FieldType := fun k => match k with
  | 0 => .array .byte
  | 1 => .array .byte
  | 2 => .int
  | 3 => .int
  | 4 => .int
  | 5 => .int
  | 6 => .int
  | 7 => .int
  | 8 => .int
  | 9 => .int
  | 10 => .long
  | 11 => .array .int
  | 12 => .array .int
  | 13 => .array .int
  | 14 => .array .int
  | 15 => .array .int
  | 16 => .array .int
  | 17 => .array .int
  | 18 => .array .int
  | 19 => .array .int
  | 20 => .array .int
  | 21 => .array .int
  | 22 => .array .int
  | 23 => .array .int
  | 24 => .array .int
  | 25 => .array .long
  | 26 => .array .long
  | 27 => .array .int
  | 28 => .array .int
  | 29 => .array .int
  | 30 => .array .int
  | 31 => .array .int
  | 32 => .int
  | 33 => .int
  | 34 => .int
  | 35 => .int
  | 36 => .int
  | 37 => .int
  | 38 => .int
  | 39 => .int
  | 40 => .array .int
  | 41 => .array .int
  | 42 => .int
  | 43 => .array .int
  | 44 => .int
  | 45 => .int
  | 46 => .array .int
  | 47 => .int
  | 48 => .array .int
  | 49 => .array .int
  | 50 => .array .int
  | 51 => .array .int
  | 52 => .array .int
  | 53 => .array .int
  | 54 => .array .boolean
  | 55 => .int
  | 56 => .int
  | 57 => .int
  | 58 => .array .int
  | _ => .array .boolean
abbrev wsX120 : List Cond := u_ws RX12 TX12 60
theorem nmX12 : ∀ a, a < 60 → ∀ b, b < 60 → a ≠ b → (TX12 a).2.1 ≠ (TX12 b).2.1 := by decide +kernel
theorem tyX12_ok : ∀ k, k < 60 → parseFieldDescriptor (TX12 k).2.2.1 = some (tyX12 k) := by decide +kernel
abbrev cX12_init : ByteArray := prog_14_method_1_code
def yX12_init : MethodName := ⟨RX12, "<init>", "()V"⟩
abbrev cX12_sign : ByteArray := prog_14_method_2_code
def yX12_sign : MethodName := ⟨RX12, "sign", "(I)I"⟩
abbrev cX12_isLetter : ByteArray := prog_14_method_3_code
def yX12_isLetter : MethodName := ⟨RX12, "isLetter", "(I)Z"⟩
abbrev cX12_isDigit : ByteArray := prog_14_method_4_code
def yX12_isDigit : MethodName := ⟨RX12, "isDigit", "(I)Z"⟩
abbrev cX12_fails : ByteArray := prog_14_method_5_code
def yX12_fails : MethodName := ⟨RX12, "fails", "(II)V"⟩
abbrev cX12_isGood : ByteArray := prog_14_method_6_code
def yX12_isGood : MethodName := ⟨RX12, "isGood", "()Z"⟩
abbrev cX12_isKept : ByteArray := prog_14_method_7_code
def yX12_isKept : MethodName := ⟨RX12, "isKept", "(J)Z"⟩
abbrev cX12_isSign : ByteArray := prog_14_method_8_code
def yX12_isSign : MethodName := ⟨RX12, "isSign", "(I)Z"⟩
abbrev cX12_goOn : ByteArray := prog_14_method_9_code
def yX12_goOn : MethodName := ⟨RX12, "goOn", "()V"⟩
abbrev cX12_isSignHere : ByteArray := prog_14_method_10_code
def yX12_isSignHere : MethodName := ⟨RX12, "isSignHere", "(I)Z"⟩
abbrev cX12_isWord : ByteArray := prog_14_method_11_code
def yX12_isWord : MethodName := ⟨RX12, "isWord", "(J)Z"⟩
abbrev cX12_misplaced : ByteArray := prog_14_method_12_code
def yX12_misplaced : MethodName := ⟨RX12, "misplaced", "()V"⟩
abbrev cX12_must : ByteArray := prog_14_method_13_code
def yX12_must : MethodName := ⟨RX12, "must", "(Z)V"⟩
abbrev cX12_numeral : ByteArray := prog_14_method_14_code
def yX12_numeral : MethodName := ⟨RX12, "numeral", "(II)I"⟩
abbrev cX12_after : ByteArray := prog_14_method_15_code
def yX12_after : MethodName := ⟨RX12, "after", "(JII)I"⟩
abbrev cX12_clearBank : ByteArray := prog_14_method_16_code
def yX12_clearBank : MethodName := ⟨RX12, "clearBank", "()V"⟩
abbrev cX12_house : ByteArray := prog_14_method_17_code
def yX12_house : MethodName := ⟨RX12, "house", "()I"⟩
abbrev cX12_isFull : ByteArray := prog_14_method_18_code
def yX12_isFull : MethodName := ⟨RX12, "isFull", "()Z"⟩
abbrev cX12_once : ByteArray := prog_14_method_19_code
def yX12_once : MethodName := ⟨RX12, "once", "(III)I"⟩
abbrev cX12_readLine : ByteArray := prog_14_method_20_code
def yX12_readLine : MethodName := ⟨RX12, "readLine", "()V"⟩
abbrev cX12_here : ByteArray := prog_14_method_21_code
def yX12_here : MethodName := ⟨RX12, "here", "([JII)I"⟩
abbrev cX12_roomHere : ByteArray := prog_14_method_22_code
def yX12_roomHere : MethodName := ⟨RX12, "roomHere", "()I"⟩
abbrev cX12_fresh : ByteArray := prog_14_method_23_code
def yX12_fresh : MethodName := ⟨RX12, "fresh", "(I)J"⟩
abbrev cX12_readTrunk : ByteArray := prog_14_method_24_code
def yX12_readTrunk : MethodName := ⟨RX12, "readTrunk", "()V"⟩
abbrev cX12_readRule : ByteArray := prog_14_method_25_code
def yX12_readRule : MethodName := ⟨RX12, "readRule", "()V"⟩
abbrev cX12_emit : ByteArray := prog_14_method_26_code
def yX12_emit : MethodName := ⟨RX12, "emit", "(II)V"⟩
abbrev cX12_pushE : ByteArray := prog_14_method_27_code
def yX12_pushE : MethodName := ⟨RX12, "pushE", "(II)V"⟩
abbrev cX12_e : ByteArray := prog_14_method_28_code
def yX12_e : MethodName := ⟨RX12, "e", "()V"⟩
abbrev cX12_wordHere : ByteArray := prog_14_method_29_code
def yX12_wordHere : MethodName := ⟨RX12, "wordHere", "()I"⟩
abbrev cX12_unit : ByteArray := prog_14_method_30_code
def yX12_unit : MethodName := ⟨RX12, "unit", "()Z"⟩
abbrev cX12_rankHere : ByteArray := prog_14_method_31_code
def yX12_rankHere : MethodName := ⟨RX12, "rankHere", "()I"⟩
abbrev cX12_isCompared : ByteArray := prog_14_method_32_code
def yX12_isCompared : MethodName := ⟨RX12, "isCompared", "()Z"⟩
abbrev cX12_behindUnit : ByteArray := prog_14_method_33_code
def yX12_behindUnit : MethodName := ⟨RX12, "behindUnit", "()Z"⟩
abbrev cX12_two : ByteArray := prog_14_method_34_code
def yX12_two : MethodName := ⟨RX12, "two", "(III)I"⟩
abbrev cX12_asked : ByteArray := prog_14_method_35_code
def yX12_asked : MethodName := ⟨RX12, "asked", "(II)I"⟩
abbrev cX12_comes : ByteArray := prog_14_method_36_code
def yX12_comes : MethodName := ⟨RX12, "comes", "()I"⟩
abbrev cX12_fault : ByteArray := prog_14_method_37_code
def yX12_fault : MethodName := ⟨RX12, "fault", "(I)I"⟩
abbrev cX12_isIn : ByteArray := prog_14_method_38_code
def yX12_isIn : MethodName := ⟨RX12, "isIn", "(III)Z"⟩
abbrev cX12_bit : ByteArray := prog_14_method_39_code
def yX12_bit : MethodName := ⟨RX12, "bit", "(II)Z"⟩
abbrev cX12_bitsOf : ByteArray := prog_14_method_40_code
def yX12_bitsOf : MethodName := ⟨RX12, "bitsOf", "(I)I"⟩
abbrev cX12_sharedBy : ByteArray := prog_14_method_41_code
def yX12_sharedBy : MethodName := ⟨RX12, "sharedBy", "(II)I"⟩
abbrev cX12_chambers : ByteArray := prog_14_method_42_code
def yX12_chambers : MethodName := ⟨RX12, "chambers", "()I"⟩
abbrev cX12_isRoom : ByteArray := prog_14_method_43_code
def yX12_isRoom : MethodName := ⟨RX12, "isRoom", "(I)Z"⟩
abbrev cX12_isThere : ByteArray := prog_14_method_44_code
def yX12_isThere : MethodName := ⟨RX12, "isThere", "(I)Z"⟩
abbrev cX12_holdsOf : ByteArray := prog_14_method_45_code
def yX12_holdsOf : MethodName := ⟨RX12, "holdsOf", "(I)I"⟩
abbrev cX12_those : ByteArray := prog_14_method_46_code
def yX12_those : MethodName := ⟨RX12, "those", "()I"⟩
abbrev cX12_thoseIn : ByteArray := prog_14_method_47_code
def yX12_thoseIn : MethodName := ⟨RX12, "thoseIn", "(I)I"⟩
abbrev cX12_bulkOf : ByteArray := prog_14_method_48_code
def yX12_bulkOf : MethodName := ⟨RX12, "bulkOf", "(I)I"⟩
abbrev cX12_leftIn : ByteArray := prog_14_method_49_code
def yX12_leftIn : MethodName := ⟨RX12, "leftIn", "(I)I"⟩
abbrev cX12_marksAll : ByteArray := prog_14_method_50_code
def yX12_marksAll : MethodName := ⟨RX12, "marksAll", "()I"⟩
abbrev cX12_startAnew : ByteArray := prog_14_method_51_code
def yX12_startAnew : MethodName := ⟨RX12, "startAnew", "()V"⟩
abbrev cX12_clearPlace : ByteArray := prog_14_method_52_code
def yX12_clearPlace : MethodName := ⟨RX12, "clearPlace", "(I)V"⟩
abbrev cX12_loseOne : ByteArray := prog_14_method_53_code
def yX12_loseOne : MethodName := ⟨RX12, "loseOne", "(I)V"⟩
abbrev cX12_keepNow : ByteArray := prog_14_method_54_code
def yX12_keepNow : MethodName := ⟨RX12, "keepNow", "()V"⟩
abbrev cX12_bringBack : ByteArray := prog_14_method_55_code
def yX12_bringBack : MethodName := ⟨RX12, "bringBack", "()V"⟩
abbrev cX12_broodOf : ByteArray := prog_14_method_56_code
def yX12_broodOf : MethodName := ⟨RX12, "broodOf", "(II)I"⟩
abbrev cX12_biggestOf : ByteArray := prog_14_method_57_code
def yX12_biggestOf : MethodName := ⟨RX12, "biggestOf", "(I)I"⟩
abbrev cX12_coupleOf : ByteArray := prog_14_method_58_code
def yX12_coupleOf : MethodName := ⟨RX12, "coupleOf", "(I)I"⟩
abbrev cX12_youngOf : ByteArray := prog_14_method_59_code
def yX12_youngOf : MethodName := ⟨RX12, "youngOf", "(I)I"⟩
abbrev cX12_freePlace : ByteArray := prog_14_method_60_code
def yX12_freePlace : MethodName := ⟨RX12, "freePlace", "()I"⟩
abbrev cX12_isRipe : ByteArray := prog_14_method_61_code
def yX12_isRipe : MethodName := ⟨RX12, "isRipe", "(I)Z"⟩
abbrev cX12_bringForth : ByteArray := prog_14_method_62_code
def yX12_bringForth : MethodName := ⟨RX12, "bringForth", "(I)V"⟩
abbrev cX12_listen : ByteArray := prog_14_method_63_code
def yX12_listen : MethodName := ⟨RX12, "listen", "(I)V"⟩
abbrev cX12_goYear : ByteArray := prog_14_method_64_code
def yX12_goYear : MethodName := ⟨RX12, "goYear", "()I"⟩
abbrev cX12_goYears : ByteArray := prog_14_method_65_code
def yX12_goYears : MethodName := ⟨RX12, "goYears", "(I)I"⟩
abbrev cX12_room : ByteArray := prog_14_method_66_code
def yX12_room : MethodName := ⟨RX12, "room", "(II)I"⟩
abbrev cX12_trunk : ByteArray := prog_14_method_67_code
def yX12_trunk : MethodName := ⟨RX12, "trunk", "(II)I"⟩
abbrev cX12_brood : ByteArray := prog_14_method_68_code
def yX12_brood : MethodName := ⟨RX12, "brood", "(II)I"⟩
abbrev cX12_couple : ByteArray := prog_14_method_69_code
def yX12_couple : MethodName := ⟨RX12, "couple", "(I)I"⟩
abbrev cX12_ripe : ByteArray := prog_14_method_70_code
def yX12_ripe : MethodName := ⟨RX12, "ripe", "()I"⟩
abbrev cX12_pining : ByteArray := prog_14_method_71_code
def yX12_pining : MethodName := ⟨RX12, "pining", "()I"⟩
abbrev cX12_alike : ByteArray := prog_14_method_72_code
def yX12_alike : MethodName := ⟨RX12, "alike", "(II)I"⟩
abbrev cX12_like : ByteArray := prog_14_method_73_code
def yX12_like : MethodName := ⟨RX12, "like", "(I)I"⟩
abbrev cX12_sharesAll : ByteArray := prog_14_method_74_code
def yX12_sharesAll : MethodName := ⟨RX12, "sharesAll", "(I)I"⟩
abbrev cX12_odd : ByteArray := prog_14_method_75_code
def yX12_odd : MethodName := ⟨RX12, "odd", "()I"⟩
abbrev cX12_bearers : ByteArray := prog_14_method_76_code
def yX12_bearers : MethodName := ⟨RX12, "bearers", "(I)I"⟩
abbrev cX12_roomiest : ByteArray := prog_14_method_77_code
def yX12_roomiest : MethodName := ⟨RX12, "roomiest", "()I"⟩
abbrev cX12_keepAct : ByteArray := prog_14_method_78_code
def yX12_keepAct : MethodName := ⟨RX12, "keepAct", "()V"⟩
abbrev cX12_swapAll : ByteArray := prog_14_method_79_code
def yX12_swapAll : MethodName := ⟨RX12, "swapAll", "()V"⟩
abbrev cX12_year : ByteArray := prog_14_method_80_code
def yX12_year : MethodName := ⟨RX12, "year", "()I"⟩
abbrev cX12_canCarry : ByteArray := prog_14_method_81_code
def yX12_canCarry : MethodName := ⟨RX12, "canCarry", "(II)Z"⟩
abbrev cX12_carry : ByteArray := prog_14_method_82_code
def yX12_carry : MethodName := ⟨RX12, "carry", "(II)I"⟩
abbrev cX12_tell : ByteArray := prog_14_method_83_code
def yX12_tell : MethodName := ⟨RX12, "tell", "(I)I"⟩
abbrev cX12_lose : ByteArray := prog_14_method_84_code
def yX12_lose : MethodName := ⟨RX12, "lose", "(I)I"⟩
abbrev cX12_undo : ByteArray := prog_14_method_85_code
def yX12_undo : MethodName := ⟨RX12, "undo", "()Z"⟩
abbrev cX12_redo : ByteArray := prog_14_method_86_code
def yX12_redo : MethodName := ⟨RX12, "redo", "()Z"⟩
abbrev cX12_will : ByteArray := prog_14_method_87_code
def yX12_will : MethodName := ⟨RX12, "will", "(III)I"⟩
abbrev cX12_alive : ByteArray := prog_14_method_88_code
def yX12_alive : MethodName := ⟨RX12, "alive", "(I)I"⟩
abbrev cX12_fading : ByteArray := prog_14_method_89_code
def yX12_fading : MethodName := ⟨RX12, "fading", "(I)I"⟩
abbrev cX12_law : ByteArray := prog_14_method_90_code
def yX12_law : MethodName := ⟨RX12, "law", "(II)I"⟩
abbrev cX12_gone : ByteArray := prog_14_method_91_code
def yX12_gone : MethodName := ⟨RX12, "gone", "(I)I"⟩
abbrev cX12_need : ByteArray := prog_14_method_92_code
def yX12_need : MethodName := ⟨RX12, "need", "(I)I"⟩
abbrev cX12_best : ByteArray := prog_14_method_93_code
def yX12_best : MethodName := ⟨RX12, "best", "(II)I"⟩
abbrev cX12_lies : ByteArray := prog_14_method_94_code
def yX12_lies : MethodName := ⟨RX12, "lies", "(I)I"⟩
abbrev cX12_twoBits : ByteArray := prog_14_method_95_code
def yX12_twoBits : MethodName := ⟨RX12, "twoBits", "(II)I"⟩
abbrev cX12_roomsIn : ByteArray := prog_14_method_96_code
def yX12_roomsIn : MethodName := ⟨RX12, "roomsIn", "(I)I"⟩
abbrev cX12_pack : ByteArray := prog_14_method_97_code
def yX12_pack : MethodName := ⟨RX12, "pack", "()I"⟩
abbrev cX12_fill : ByteArray := prog_14_method_98_code
def yX12_fill : MethodName := ⟨RX12, "fill", "(II)I"⟩
abbrev cX12_leftBut : ByteArray := prog_14_method_99_code
def yX12_leftBut : MethodName := ⟨RX12, "leftBut", "(III)I"⟩
abbrev cX12_gainOf : ByteArray := prog_14_method_100_code
def yX12_gainOf : MethodName := ⟨RX12, "gainOf", "(IIII)I"⟩
abbrev cX12_canChoose : ByteArray := prog_14_method_101_code
def yX12_canChoose : MethodName := ⟨RX12, "canChoose", "(III)Z"⟩
abbrev cX12_isRest : ByteArray := prog_14_method_102_code
def yX12_isRest : MethodName := ⟨RX12, "isRest", "(IIII)Z"⟩
abbrev cX12_rivals : ByteArray := prog_14_method_103_code
def yX12_rivals : MethodName := ⟨RX12, "rivals", "(II)I"⟩
abbrev cX12_sires : ByteArray := prog_14_method_104_code
def yX12_sires : MethodName := ⟨RX12, "sires", "(II)I"⟩
abbrev cX12_changesOf : ByteArray := prog_14_method_105_code
def yX12_changesOf : MethodName := ⟨RX12, "changesOf", "(IIII)I"⟩
abbrev cX12_quartet : ByteArray := prog_14_method_106_code
def yX12_quartet : MethodName := ⟨RX12, "quartet", "(IIIII)I"⟩
abbrev cX12_span : ByteArray := prog_14_method_107_code
def yX12_span : MethodName := ⟨RX12, "span", "()I"⟩
abbrev cX12_parentsOf : ByteArray := prog_14_method_108_code
def yX12_parentsOf : MethodName := ⟨RX12, "parentsOf", "(I)I"⟩
abbrev cX12_line : ByteArray := prog_14_method_109_code
def yX12_line : MethodName := ⟨RX12, "line", "(I)I"⟩
abbrev cX12_litter : ByteArray := prog_14_method_110_code
def yX12_litter : MethodName := ⟨RX12, "litter", "(I)I"⟩
abbrev cX12_stepsUp : ByteArray := prog_14_method_111_code
def yX12_stepsUp : MethodName := ⟨RX12, "stepsUp", "(II)I"⟩
abbrev cX12_kin : ByteArray := prog_14_method_112_code
def yX12_kin : MethodName := ⟨RX12, "kin", "(II)I"⟩
abbrev cX12_isOther : ByteArray := prog_14_method_113_code
def yX12_isOther : MethodName := ⟨RX12, "isOther", "(I)Z"⟩
abbrev cX12_sharedIf : ByteArray := prog_14_method_114_code
def yX12_sharedIf : MethodName := ⟨RX12, "sharedIf", "(II)I"⟩
abbrev cX12_held : ByteArray := prog_14_method_115_code
def yX12_held : MethodName := ⟨RX12, "held", "(IIZ)I"⟩
abbrev cX12_untell : ByteArray := prog_14_method_116_code
def yX12_untell : MethodName := ⟨RX12, "untell", "(I)Z"⟩
abbrev cX12_later : ByteArray := prog_14_method_117_code
def yX12_later : MethodName := ⟨RX12, "later", "(I)I"⟩
abbrev cX12_doesFit : ByteArray := prog_14_method_118_code
def yX12_doesFit : MethodName := ⟨RX12, "doesFit", "(II)Z"⟩
abbrev cX12_fits : ByteArray := prog_14_method_119_code
def yX12_fits : MethodName := ⟨RX12, "fits", "(I)I"⟩
abbrev cX12_sure : ByteArray := prog_14_method_120_code
def yX12_sure : MethodName := ⟨RX12, "sure", "(II)I"⟩
abbrev cX12_mostBy : ByteArray := prog_14_method_121_code
def yX12_mostBy : MethodName := ⟨RX12, "mostBy", "(I)I"⟩
abbrev cX12_ask : ByteArray := prog_14_method_122_code
def yX12_ask : MethodName := ⟨RX12, "ask", "(II)I"⟩
abbrev cX12_image : ByteArray := prog_14_method_123_code
def yX12_image : MethodName := ⟨RX12, "image", "(I)I"⟩
abbrev cX12_back : ByteArray := prog_14_method_124_code
def yX12_back : MethodName := ⟨RX12, "back", "(I)I"⟩
abbrev cX12_about : ByteArray := prog_14_method_125_code
def yX12_about : MethodName := ⟨RX12, "about", "(I)I"⟩
abbrev cX12_feed : ByteArray := prog_14_method_126_code
def yX12_feed : MethodName := ⟨RX12, "feed", "(IIIII)I"⟩
abbrev cX12_end : ByteArray := prog_14_method_127_code
def yX12_end : MethodName := ⟨RX12, "end", "(I)I"⟩
def RJ6 : String := "java/lang/Integer"
abbrev cJ6_bitCount_0f7a4 : ByteArray := prog_15_method_49_code
def yJ6_bitCount_0f7a4 : MethodName := ⟨RJ6, "bitCount", "(I)I"⟩
def RJ9 : String := "java/lang/Math"
abbrev cJ9_max_7cf53 : ByteArray := prog_16_method_65_code
def yJ9_max_7cf53 : MethodName := ⟨RJ9, "max", "(II)I"⟩
abbrev cJ9_min_7cf53 : ByteArray := prog_16_method_69_code
def yJ9_min_7cf53 : MethodName := ⟨RJ9, "min", "(II)I"⟩
def RJ0 : String := "java/lang/String"
abbrev cJ0_length_8abf5 : ByteArray := prog_17_method_54_code
def yJ0_length_8abf5 : MethodName := ⟨RJ0, "length", "()I"⟩
abbrev cJ0_charAt_5068e : ByteArray := prog_17_method_56_code
def yJ0_charAt_5068e : MethodName := ⟨RJ0, "charAt", "(I)C"⟩
abbrev cJ0_coder_7d493 : ByteArray := prog_17_method_152_code
def yJ0_coder_7d493 : MethodName := ⟨RJ0, "coder", "()B"⟩
abbrev cJ0_isLatin1_aae02 : ByteArray := prog_17_method_154_code
def yJ0_isLatin1_aae02 : MethodName := ⟨RJ0, "isLatin1", "()Z"⟩
abbrev cJ0_checkIndex_df160 : ByteArray := prog_17_method_155_code
def yJ0_checkIndex_df160 : MethodName := ⟨RJ0, "checkIndex", "(II)V"⟩
def RJ1 : String := "java/lang/StringLatin1"
abbrev cJ1_charAt_3b067 : ByteArray := prog_18_method_2_code
def yJ1_charAt_3b067 : MethodName := ⟨RJ1, "charAt", "([BI)C"⟩
def RJ2 : String := "java/lang/StringUTF16"
abbrev cJ2_getChar_3b067 : ByteArray := prog_19_method_5_code
def yJ2_getChar_3b067 : MethodName := ⟨RJ2, "getChar", "([BI)C"⟩
abbrev cJ2_length_9d52b : ByteArray := prog_19_method_6_code
def yJ2_length_9d52b : MethodName := ⟨RJ2, "length", "([B)I"⟩
abbrev cJ2_charAt_3b067 : ByteArray := prog_19_method_83_code
def yJ2_charAt_3b067 : MethodName := ⟨RJ2, "charAt", "([BI)C"⟩
abbrev cJ2_checkIndex_2214a : ByteArray := prog_19_method_91_code
def yJ2_checkIndex_2214a : MethodName := ⟨RJ2, "checkIndex", "(I[B)V"⟩
def RJ10 : String := "java/lang/System"
def RJ3 : String := "jdk/internal/util/Preconditions"
abbrev cJ3_checkIndex_8e157 : ByteArray := prog_21_method_11_code
def yJ3_checkIndex_8e157 : MethodName := ⟨RJ3, "checkIndex", "(IILjava/util/function/BiFunction;)I"⟩
def RL : String := "TrunkLittersLaw"
abbrev cL_law : ByteArray := code
def yL_law : MethodName := ⟨RL, "law", "([I)Z"⟩
abbrev vwCl : List vw_C := [(RX0, TX0, 3), (RX1, TX1, 2), (RX2, TX2, 5), (RX3, TX3, 10), (RX4, TX4, 11), (RX5, TX5, 8), (RX7, TX7, 11), (RX8, TX8, 5), (RX9, TX9, 8), (RX10, TX10, 4), (RX11, TX11, 11), (RX12, TX12, 60)]
