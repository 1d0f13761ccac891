section
-- PART A of the skeleton (the tables' words), then names, then the words that are used
-- ===== PART A: goes FIRST, ahead of the names: the tables' words, and 'selects' of the private methods out of them =====
/-- a private method of a class that the tables say can be made, by its rows of tables_1 -/
def lw_okq (q : MethodName × Nat) : Prop := (q.1.cls ≠ "java/lang/invoke/MethodHandle" ∧ q.1.cls ≠ "java/lang/invoke/VarHandle") ∧ Cond.instantiable q.1.cls q.2 ∈ tables_1 ∧ Cond.privateMethod q.1 ∈ tables_1 ∧ Cond.instanceMethod q.1 ∈ tables_1
theorem lw_p0 : lw_okq (⟨"PartedLand", "mayChangeOn", "(I)Z"⟩, 8) := ⟨⟨by decide +kernel, by decide +kernel⟩, List.mem_of_getElem? (i := 20) (by decide +kernel), List.mem_of_getElem? (i := 351) (by decide +kernel), List.mem_of_getElem? (i := 352) (by decide +kernel)⟩
theorem lw_p1 : lw_okq (⟨"PartedLand$History", "partOff", "(II)V"⟩, 15) := ⟨⟨by decide +kernel, by decide +kernel⟩, List.mem_of_getElem? (i := 28) (by decide +kernel), List.mem_of_getElem? (i := 391) (by decide +kernel), List.mem_of_getElem? (i := 392) (by decide +kernel)⟩
theorem lw_p2 : lw_okq (⟨"PartedLand$History", "comesOutOf", "(I)V"⟩, 15) := ⟨⟨by decide +kernel, by decide +kernel⟩, List.mem_of_getElem? (i := 28) (by decide +kernel), List.mem_of_getElem? (i := 395) (by decide +kernel), List.mem_of_getElem? (i := 396) (by decide +kernel)⟩
theorem lw_p3 : lw_okq (⟨"PartedLand$History", "moveGrounds", "(III)V"⟩, 15) := ⟨⟨by decide +kernel, by decide +kernel⟩, List.mem_of_getElem? (i := 28) (by decide +kernel), List.mem_of_getElem? (i := 400) (by decide +kernel), List.mem_of_getElem? (i := 401) (by decide +kernel)⟩
theorem lw_p4 : lw_okq (⟨"PartedLand$History", "fallApart", "(II)V"⟩, 15) := ⟨⟨by decide +kernel, by decide +kernel⟩, List.mem_of_getElem? (i := 28) (by decide +kernel), List.mem_of_getElem? (i := 404) (by decide +kernel), List.mem_of_getElem? (i := 405) (by decide +kernel)⟩
theorem lw_p5 : lw_okq (⟨"PartedLand$History", "ends", "(I)V"⟩, 15) := ⟨⟨by decide +kernel, by decide +kernel⟩, List.mem_of_getElem? (i := 28) (by decide +kernel), List.mem_of_getElem? (i := 408) (by decide +kernel), List.mem_of_getElem? (i := 409) (by decide +kernel)⟩
theorem lw_p6 : lw_okq (⟨"PartedLand$History", "join", "(II)V"⟩, 15) := ⟨⟨by decide +kernel, by decide +kernel⟩, List.mem_of_getElem? (i := 28) (by decide +kernel), List.mem_of_getElem? (i := 412) (by decide +kernel), List.mem_of_getElem? (i := 413) (by decide +kernel)⟩
theorem lw_p7 : lw_okq (⟨"PartedLand$History", "nextHeir", "(I)I"⟩, 15) := ⟨⟨by decide +kernel, by decide +kernel⟩, List.mem_of_getElem? (i := 28) (by decide +kernel), List.mem_of_getElem? (i := 454) (by decide +kernel), List.mem_of_getElem? (i := 455) (by decide +kernel)⟩
theorem lw_p8 : lw_okq (⟨"PartedLand$Text", "readLine", "()Z"⟩, 7) := ⟨⟨by decide +kernel, by decide +kernel⟩, List.mem_of_getElem? (i := 105) (by decide +kernel), List.mem_of_getElem? (i := 489) (by decide +kernel), List.mem_of_getElem? (i := 490) (by decide +kernel)⟩
theorem lw_p9 : lw_okq (⟨"PartedLand$Text", "nextToken", "()V"⟩, 7) := ⟨⟨by decide +kernel, by decide +kernel⟩, List.mem_of_getElem? (i := 105) (by decide +kernel), List.mem_of_getElem? (i := 493) (by decide +kernel), List.mem_of_getElem? (i := 494) (by decide +kernel)⟩
theorem lw_p10 : lw_okq (⟨"PartedLand$Text", "isWord", "(Ljava/lang/String;)Z"⟩, 7) := ⟨⟨by decide +kernel, by decide +kernel⟩, List.mem_of_getElem? (i := 105) (by decide +kernel), List.mem_of_getElem? (i := 504) (by decide +kernel), List.mem_of_getElem? (i := 505) (by decide +kernel)⟩
theorem lw_p11 : lw_okq (⟨"PartedLand$Text", "put", "(II)Z"⟩, 7) := ⟨⟨by decide +kernel, by decide +kernel⟩, List.mem_of_getElem? (i := 105) (by decide +kernel), List.mem_of_getElem? (i := 556) (by decide +kernel), List.mem_of_getElem? (i := 557) (by decide +kernel)⟩
theorem lw_p12 : lw_okq (⟨"PartedLand$Text", "readSilence", "()Z"⟩, 7) := ⟨⟨by decide +kernel, by decide +kernel⟩, List.mem_of_getElem? (i := 105) (by decide +kernel), List.mem_of_getElem? (i := 562) (by decide +kernel), List.mem_of_getElem? (i := 563) (by decide +kernel)⟩
theorem lw_p13 : lw_okq (⟨"PartedLand$Text", "readNumber", "()Z"⟩, 7) := ⟨⟨by decide +kernel, by decide +kernel⟩, List.mem_of_getElem? (i := 105) (by decide +kernel), List.mem_of_getElem? (i := 569) (by decide +kernel), List.mem_of_getElem? (i := 570) (by decide +kernel)⟩
theorem lw_p14 : lw_okq (⟨"PartedLand$Text", "readChoice", "(ILjava/lang/String;Ljava/lang/String;Ljava/lang/String;)Z"⟩, 7) := ⟨⟨by decide +kernel, by decide +kernel⟩, List.mem_of_getElem? (i := 105) (by decide +kernel), List.mem_of_getElem? (i := 577) (by decide +kernel), List.mem_of_getElem? (i := 578) (by decide +kernel)⟩
theorem lw_p15 : lw_okq (⟨"PartedLand$Pacts", "boundByTrade", "(III)I"⟩, 13) := ⟨⟨by decide +kernel, by decide +kernel⟩, List.mem_of_getElem? (i := 186) (by decide +kernel), List.mem_of_getElem? (i := 642) (by decide +kernel), List.mem_of_getElem? (i := 643) (by decide +kernel)⟩
def lw_privs_1 : List (MethodName × Nat) := [(⟨"PartedLand", "mayChangeOn", "(I)Z"⟩, 8), (⟨"PartedLand$History", "partOff", "(II)V"⟩, 15), (⟨"PartedLand$History", "comesOutOf", "(I)V"⟩, 15), (⟨"PartedLand$History", "moveGrounds", "(III)V"⟩, 15), (⟨"PartedLand$History", "fallApart", "(II)V"⟩, 15), (⟨"PartedLand$History", "ends", "(I)V"⟩, 15), (⟨"PartedLand$History", "join", "(II)V"⟩, 15), (⟨"PartedLand$History", "nextHeir", "(I)I"⟩, 15), (⟨"PartedLand$Text", "readLine", "()Z"⟩, 7), (⟨"PartedLand$Text", "nextToken", "()V"⟩, 7), (⟨"PartedLand$Text", "isWord", "(Ljava/lang/String;)Z"⟩, 7), (⟨"PartedLand$Text", "put", "(II)Z"⟩, 7), (⟨"PartedLand$Text", "readSilence", "()Z"⟩, 7), (⟨"PartedLand$Text", "readNumber", "()Z"⟩, 7), (⟨"PartedLand$Text", "readChoice", "(ILjava/lang/String;Ljava/lang/String;Ljava/lang/String;)Z"⟩, 7), (⟨"PartedLand$Pacts", "boundByTrade", "(III)I"⟩, 13)]
theorem lw_r1 : ∀ q ∈ lw_privs_1, lw_okq q := List.forall_mem_cons.mpr ⟨lw_p0, List.forall_mem_cons.mpr ⟨lw_p1, List.forall_mem_cons.mpr ⟨lw_p2, List.forall_mem_cons.mpr ⟨lw_p3, List.forall_mem_cons.mpr ⟨lw_p4, List.forall_mem_cons.mpr ⟨lw_p5, List.forall_mem_cons.mpr ⟨lw_p6, List.forall_mem_cons.mpr ⟨lw_p7, List.forall_mem_cons.mpr ⟨lw_p8, List.forall_mem_cons.mpr ⟨lw_p9, List.forall_mem_cons.mpr ⟨lw_p10, List.forall_mem_cons.mpr ⟨lw_p11, List.forall_mem_cons.mpr ⟨lw_p12, List.forall_mem_cons.mpr ⟨lw_p13, List.forall_mem_cons.mpr ⟨lw_p14, List.forall_mem_cons.mpr ⟨lw_p15, fun _ h => absurd h List.not_mem_nil⟩⟩⟩⟩⟩⟩⟩⟩⟩⟩⟩⟩⟩⟩⟩⟩
theorem lw_p16 : lw_okq (⟨"PartedLand$Pacts", "handOn", "(III)V"⟩, 13) := ⟨⟨by decide +kernel, by decide +kernel⟩, List.mem_of_getElem? (i := 186) (by decide +kernel), List.mem_of_getElem? (i := 647) (by decide +kernel), List.mem_of_getElem? (i := 648) (by decide +kernel)⟩
theorem lw_p17 : lw_okq (⟨"PartedLand$Pacts", "isHeld", "(IIII)Z"⟩, 13) := ⟨⟨by decide +kernel, by decide +kernel⟩, List.mem_of_getElem? (i := 186) (by decide +kernel), List.mem_of_getElem? (i := 651) (by decide +kernel), List.mem_of_getElem? (i := 652) (by decide +kernel)⟩
theorem lw_p18 : lw_okq (⟨"PartedLand$Pacts", "isHeldByWords", "(IIII)Z"⟩, 13) := ⟨⟨by decide +kernel, by decide +kernel⟩, List.mem_of_getElem? (i := 186) (by decide +kernel), List.mem_of_getElem? (i := 656) (by decide +kernel), List.mem_of_getElem? (i := 657) (by decide +kernel)⟩
theorem lw_p19 : lw_okq (⟨"PartedLand$Pacts", "boundByRank", "(III)I"⟩, 13) := ⟨⟨by decide +kernel, by decide +kernel⟩, List.mem_of_getElem? (i := 186) (by decide +kernel), List.mem_of_getElem? (i := 670) (by decide +kernel), List.mem_of_getElem? (i := 671) (by decide +kernel)⟩
theorem lw_p20 : lw_okq (⟨"PartedLand$Voices", "latest", "(III)I"⟩, 5) := ⟨⟨by decide +kernel, by decide +kernel⟩, List.mem_of_getElem? (i := 163) (by decide +kernel), List.mem_of_getElem? (i := 682) (by decide +kernel), List.mem_of_getElem? (i := 683) (by decide +kernel)⟩
theorem lw_p21 : lw_okq (⟨"PartedLand$Goods", "divide", "(IIIII)V"⟩, 12) := ⟨⟨by decide +kernel, by decide +kernel⟩, List.mem_of_getElem? (i := 234) (by decide +kernel), List.mem_of_getElem? (i := 719) (by decide +kernel), List.mem_of_getElem? (i := 720) (by decide +kernel)⟩
theorem lw_p22 : lw_okq (⟨"PartedLand$Goods", "divideAt", "(II)V"⟩, 12) := ⟨⟨by decide +kernel, by decide +kernel⟩, List.mem_of_getElem? (i := 234) (by decide +kernel), List.mem_of_getElem? (i := 724) (by decide +kernel), List.mem_of_getElem? (i := 725) (by decide +kernel)⟩
theorem lw_p23 : lw_okq (⟨"PartedLand$Goods", "partOfFirst", "(III)I"⟩, 12) := ⟨⟨by decide +kernel, by decide +kernel⟩, List.mem_of_getElem? (i := 234) (by decide +kernel), List.mem_of_getElem? (i := 728) (by decide +kernel), List.mem_of_getElem? (i := 729) (by decide +kernel)⟩
theorem lw_p24 : lw_okq (⟨"PartedLand$Goods", "keyOfFirst", "(II)I"⟩, 12) := ⟨⟨by decide +kernel, by decide +kernel⟩, List.mem_of_getElem? (i := 234) (by decide +kernel), List.mem_of_getElem? (i := 732) (by decide +kernel), List.mem_of_getElem? (i := 733) (by decide +kernel)⟩
theorem lw_p25 : lw_okq (⟨"PartedLand$Goods", "key", "(III)I"⟩, 12) := ⟨⟨by decide +kernel, by decide +kernel⟩, List.mem_of_getElem? (i := 234) (by decide +kernel), List.mem_of_getElem? (i := 736) (by decide +kernel), List.mem_of_getElem? (i := 737) (by decide +kernel)⟩
theorem lw_p26 : lw_okq (⟨"PartedLand$Goods", "keyOfOther", "(II)I"⟩, 12) := ⟨⟨by decide +kernel, by decide +kernel⟩, List.mem_of_getElem? (i := 234) (by decide +kernel), List.mem_of_getElem? (i := 741) (by decide +kernel), List.mem_of_getElem? (i := 742) (by decide +kernel)⟩
theorem lw_p27 : lw_okq (⟨"PartedLand$Goods", "ownerAbroad", "(II)I"⟩, 12) := ⟨⟨by decide +kernel, by decide +kernel⟩, List.mem_of_getElem? (i := 234) (by decide +kernel), List.mem_of_getElem? (i := 765) (by decide +kernel), List.mem_of_getElem? (i := 766) (by decide +kernel)⟩
theorem lw_p28 : lw_okq (⟨"PartedLand$Goods", "ownerAbroadBehind", "(II)I"⟩, 12) := ⟨⟨by decide +kernel, by decide +kernel⟩, List.mem_of_getElem? (i := 234) (by decide +kernel), List.mem_of_getElem? (i := 769) (by decide +kernel), List.mem_of_getElem? (i := 770) (by decide +kernel)⟩
theorem lw_p29 : lw_okq (⟨"PartedLand$Pacts", "turnsSinceAhead", "(I)I"⟩, 13) := ⟨⟨by decide +kernel, by decide +kernel⟩, List.mem_of_getElem? (i := 186) (by decide +kernel), List.mem_of_getElem? (i := 809) (by decide +kernel), List.mem_of_getElem? (i := 810) (by decide +kernel)⟩
theorem lw_p30 : lw_okq (⟨"PartedLandModel", "isLate", "(I)Z"⟩, 60) := ⟨⟨by decide +kernel, by decide +kernel⟩, List.mem_of_getElem? (i := 844) (by decide +kernel), List.mem_of_getElem? (i := 1048) (by decide +kernel), List.mem_of_getElem? (i := 1049) (by decide +kernel)⟩
theorem lw_p31 : lw_okq (⟨"PartedLandModel", "isThere", "(II)Z"⟩, 60) := ⟨⟨by decide +kernel, by decide +kernel⟩, List.mem_of_getElem? (i := 844) (by decide +kernel), List.mem_of_getElem? (i := 1052) (by decide +kernel), List.mem_of_getElem? (i := 1053) (by decide +kernel)⟩
def lw_privs_2 : List (MethodName × Nat) := [(⟨"PartedLand$Pacts", "handOn", "(III)V"⟩, 13), (⟨"PartedLand$Pacts", "isHeld", "(IIII)Z"⟩, 13), (⟨"PartedLand$Pacts", "isHeldByWords", "(IIII)Z"⟩, 13), (⟨"PartedLand$Pacts", "boundByRank", "(III)I"⟩, 13), (⟨"PartedLand$Voices", "latest", "(III)I"⟩, 5), (⟨"PartedLand$Goods", "divide", "(IIIII)V"⟩, 12), (⟨"PartedLand$Goods", "divideAt", "(II)V"⟩, 12), (⟨"PartedLand$Goods", "partOfFirst", "(III)I"⟩, 12), (⟨"PartedLand$Goods", "keyOfFirst", "(II)I"⟩, 12), (⟨"PartedLand$Goods", "key", "(III)I"⟩, 12), (⟨"PartedLand$Goods", "keyOfOther", "(II)I"⟩, 12), (⟨"PartedLand$Goods", "ownerAbroad", "(II)I"⟩, 12), (⟨"PartedLand$Goods", "ownerAbroadBehind", "(II)I"⟩, 12), (⟨"PartedLand$Pacts", "turnsSinceAhead", "(I)I"⟩, 13), (⟨"PartedLandModel", "isLate", "(I)Z"⟩, 60), (⟨"PartedLandModel", "isThere", "(II)Z"⟩, 60)]
theorem lw_r2 : ∀ q ∈ lw_privs_2, lw_okq q := List.forall_mem_cons.mpr ⟨lw_p16, List.forall_mem_cons.mpr ⟨lw_p17, List.forall_mem_cons.mpr ⟨lw_p18, List.forall_mem_cons.mpr ⟨lw_p19, List.forall_mem_cons.mpr ⟨lw_p20, List.forall_mem_cons.mpr ⟨lw_p21, List.forall_mem_cons.mpr ⟨lw_p22, List.forall_mem_cons.mpr ⟨lw_p23, List.forall_mem_cons.mpr ⟨lw_p24, List.forall_mem_cons.mpr ⟨lw_p25, List.forall_mem_cons.mpr ⟨lw_p26, List.forall_mem_cons.mpr ⟨lw_p27, List.forall_mem_cons.mpr ⟨lw_p28, List.forall_mem_cons.mpr ⟨lw_p29, List.forall_mem_cons.mpr ⟨lw_p30, List.forall_mem_cons.mpr ⟨lw_p31, fun _ h => absurd h List.not_mem_nil⟩⟩⟩⟩⟩⟩⟩⟩⟩⟩⟩⟩⟩⟩⟩⟩
theorem lw_p32 : lw_okq (⟨"PartedLandModel", "isSome", "(II)Z"⟩, 60) := ⟨⟨by decide +kernel, by decide +kernel⟩, List.mem_of_getElem? (i := 844) (by decide +kernel), List.mem_of_getElem? (i := 1056) (by decide +kernel), List.mem_of_getElem? (i := 1057) (by decide +kernel)⟩
theorem lw_p33 : lw_okq (⟨"PartedLandModel", "groundsOf", "(II)I"⟩, 60) := ⟨⟨by decide +kernel, by decide +kernel⟩, List.mem_of_getElem? (i := 844) (by decide +kernel), List.mem_of_getElem? (i := 1060) (by decide +kernel), List.mem_of_getElem? (i := 1061) (by decide +kernel)⟩
theorem lw_p34 : lw_okq (⟨"PartedLandModel", "doLast", "(IIII)V"⟩, 60) := ⟨⟨by decide +kernel, by decide +kernel⟩, List.mem_of_getElem? (i := 844) (by decide +kernel), List.mem_of_getElem? (i := 1064) (by decide +kernel), List.mem_of_getElem? (i := 1065) (by decide +kernel)⟩
theorem lw_p35 : lw_okq (⟨"PartedLandModel", "doneBy", "(I)I"⟩, 60) := ⟨⟨by decide +kernel, by decide +kernel⟩, List.mem_of_getElem? (i := 844) (by decide +kernel), List.mem_of_getElem? (i := 1072) (by decide +kernel), List.mem_of_getElem? (i := 1073) (by decide +kernel)⟩
theorem lw_p36 : lw_okq (⟨"PartedLandModel", "isLand", "(I)Z"⟩, 60) := ⟨⟨by decide +kernel, by decide +kernel⟩, List.mem_of_getElem? (i := 844) (by decide +kernel), List.mem_of_getElem? (i := 1080) (by decide +kernel), List.mem_of_getElem? (i := 1081) (by decide +kernel)⟩
theorem lw_p37 : lw_okq (⟨"PartedLandModel", "isGround", "(I)Z"⟩, 60) := ⟨⟨by decide +kernel, by decide +kernel⟩, List.mem_of_getElem? (i := 844) (by decide +kernel), List.mem_of_getElem? (i := 1088) (by decide +kernel), List.mem_of_getElem? (i := 1089) (by decide +kernel)⟩
theorem lw_p38 : lw_okq (⟨"PartedLandModel", "heirOf", "(II)I"⟩, 60) := ⟨⟨by decide +kernel, by decide +kernel⟩, List.mem_of_getElem? (i := 844) (by decide +kernel), List.mem_of_getElem? (i := 1100) (by decide +kernel), List.mem_of_getElem? (i := 1101) (by decide +kernel)⟩
theorem lw_p39 : lw_okq (⟨"PartedLandModel", "comesBy", "(II)Z"⟩, 60) := ⟨⟨by decide +kernel, by decide +kernel⟩, List.mem_of_getElem? (i := 844) (by decide +kernel), List.mem_of_getElem? (i := 1104) (by decide +kernel), List.mem_of_getElem? (i := 1105) (by decide +kernel)⟩
theorem lw_p40 : lw_okq (⟨"PartedLandModel", "headsOf", "(I)I"⟩, 60) := ⟨⟨by decide +kernel, by decide +kernel⟩, List.mem_of_getElem? (i := 844) (by decide +kernel), List.mem_of_getElem? (i := 1108) (by decide +kernel), List.mem_of_getElem? (i := 1109) (by decide +kernel)⟩
theorem lw_p41 : lw_okq (⟨"PartedLandModel", "isRead", "()Z"⟩, 60) := ⟨⟨by decide +kernel, by decide +kernel⟩, List.mem_of_getElem? (i := 844) (by decide +kernel), List.mem_of_getElem? (i := 1125) (by decide +kernel), List.mem_of_getElem? (i := 1126) (by decide +kernel)⟩
theorem lw_p42 : lw_okq (⟨"PartedLandModel", "isLine", "()Z"⟩, 60) := ⟨⟨by decide +kernel, by decide +kernel⟩, List.mem_of_getElem? (i := 844) (by decide +kernel), List.mem_of_getElem? (i := 1129) (by decide +kernel), List.mem_of_getElem? (i := 1130) (by decide +kernel)⟩
theorem lw_p43 : lw_okq (⟨"PartedLandModel", "nextToken", "()V"⟩, 60) := ⟨⟨by decide +kernel, by decide +kernel⟩, List.mem_of_getElem? (i := 844) (by decide +kernel), List.mem_of_getElem? (i := 1133) (by decide +kernel), List.mem_of_getElem? (i := 1134) (by decide +kernel)⟩
theorem lw_p44 : lw_okq (⟨"PartedLandModel", "isOf", "(IJJJ)Z"⟩, 60) := ⟨⟨by decide +kernel, by decide +kernel⟩, List.mem_of_getElem? (i := 844) (by decide +kernel), List.mem_of_getElem? (i := 1148) (by decide +kernel), List.mem_of_getElem? (i := 1149) (by decide +kernel)⟩
theorem lw_p45 : lw_okq (⟨"PartedLandModel", "fails", "()Z"⟩, 60) := ⟨⟨by decide +kernel, by decide +kernel⟩, List.mem_of_getElem? (i := 844) (by decide +kernel), List.mem_of_getElem? (i := 1152) (by decide +kernel), List.mem_of_getElem? (i := 1153) (by decide +kernel)⟩
theorem lw_p46 : lw_okq (⟨"PartedLandModel", "isPact", "(I)Z"⟩, 60) := ⟨⟨by decide +kernel, by decide +kernel⟩, List.mem_of_getElem? (i := 844) (by decide +kernel), List.mem_of_getElem? (i := 1184) (by decide +kernel), List.mem_of_getElem? (i := 1185) (by decide +kernel)⟩
theorem lw_p47 : lw_okq (⟨"PartedLandModel", "boundOf", "(II)I"⟩, 60) := ⟨⟨by decide +kernel, by decide +kernel⟩, List.mem_of_getElem? (i := 844) (by decide +kernel), List.mem_of_getElem? (i := 1196) (by decide +kernel), List.mem_of_getElem? (i := 1197) (by decide +kernel)⟩
def lw_privs_3 : List (MethodName × Nat) := [(⟨"PartedLandModel", "isSome", "(II)Z"⟩, 60), (⟨"PartedLandModel", "groundsOf", "(II)I"⟩, 60), (⟨"PartedLandModel", "doLast", "(IIII)V"⟩, 60), (⟨"PartedLandModel", "doneBy", "(I)I"⟩, 60), (⟨"PartedLandModel", "isLand", "(I)Z"⟩, 60), (⟨"PartedLandModel", "isGround", "(I)Z"⟩, 60), (⟨"PartedLandModel", "heirOf", "(II)I"⟩, 60), (⟨"PartedLandModel", "comesBy", "(II)Z"⟩, 60), (⟨"PartedLandModel", "headsOf", "(I)I"⟩, 60), (⟨"PartedLandModel", "isRead", "()Z"⟩, 60), (⟨"PartedLandModel", "isLine", "()Z"⟩, 60), (⟨"PartedLandModel", "nextToken", "()V"⟩, 60), (⟨"PartedLandModel", "isOf", "(IJJJ)Z"⟩, 60), (⟨"PartedLandModel", "fails", "()Z"⟩, 60), (⟨"PartedLandModel", "isPact", "(I)Z"⟩, 60), (⟨"PartedLandModel", "boundOf", "(II)I"⟩, 60)]
theorem lw_r3 : ∀ q ∈ lw_privs_3, lw_okq q := List.forall_mem_cons.mpr ⟨lw_p32, List.forall_mem_cons.mpr ⟨lw_p33, List.forall_mem_cons.mpr ⟨lw_p34, List.forall_mem_cons.mpr ⟨lw_p35, List.forall_mem_cons.mpr ⟨lw_p36, List.forall_mem_cons.mpr ⟨lw_p37, List.forall_mem_cons.mpr ⟨lw_p38, List.forall_mem_cons.mpr ⟨lw_p39, List.forall_mem_cons.mpr ⟨lw_p40, List.forall_mem_cons.mpr ⟨lw_p41, List.forall_mem_cons.mpr ⟨lw_p42, List.forall_mem_cons.mpr ⟨lw_p43, List.forall_mem_cons.mpr ⟨lw_p44, List.forall_mem_cons.mpr ⟨lw_p45, List.forall_mem_cons.mpr ⟨lw_p46, List.forall_mem_cons.mpr ⟨lw_p47, fun _ h => absurd h List.not_mem_nil⟩⟩⟩⟩⟩⟩⟩⟩⟩⟩⟩⟩⟩⟩⟩⟩
theorem lw_p48 : lw_okq (⟨"PartedLandModel", "byRank", "(III)I"⟩, 60) := ⟨⟨by decide +kernel, by decide +kernel⟩, List.mem_of_getElem? (i := 844) (by decide +kernel), List.mem_of_getElem? (i := 1200) (by decide +kernel), List.mem_of_getElem? (i := 1201) (by decide +kernel)⟩
theorem lw_p49 : lw_okq (⟨"PartedLandModel", "isRecognized", "(II)Z"⟩, 60) := ⟨⟨by decide +kernel, by decide +kernel⟩, List.mem_of_getElem? (i := 844) (by decide +kernel), List.mem_of_getElem? (i := 1204) (by decide +kernel), List.mem_of_getElem? (i := 1205) (by decide +kernel)⟩
theorem lw_p50 : lw_okq (⟨"PartedLandModel", "byTrade", "(III)I"⟩, 60) := ⟨⟨by decide +kernel, by decide +kernel⟩, List.mem_of_getElem? (i := 844) (by decide +kernel), List.mem_of_getElem? (i := 1208) (by decide +kernel), List.mem_of_getElem? (i := 1209) (by decide +kernel)⟩
theorem lw_p51 : lw_okq (⟨"PartedLandModel", "isBound", "(IIIII)Z"⟩, 60) := ⟨⟨by decide +kernel, by decide +kernel⟩, List.mem_of_getElem? (i := 844) (by decide +kernel), List.mem_of_getElem? (i := 1212) (by decide +kernel), List.mem_of_getElem? (i := 1213) (by decide +kernel)⟩
theorem lw_p52 : lw_okq (⟨"PartedLandModel", "doWordsLet", "(III)Z"⟩, 60) := ⟨⟨by decide +kernel, by decide +kernel⟩, List.mem_of_getElem? (i := 844) (by decide +kernel), List.mem_of_getElem? (i := 1216) (by decide +kernel), List.mem_of_getElem? (i := 1217) (by decide +kernel)⟩
theorem lw_p53 : lw_okq (⟨"PartedLandModel", "latest", "(IIZI)I"⟩, 60) := ⟨⟨by decide +kernel, by decide +kernel⟩, List.mem_of_getElem? (i := 844) (by decide +kernel), List.mem_of_getElem? (i := 1220) (by decide +kernel), List.mem_of_getElem? (i := 1221) (by decide +kernel)⟩
theorem lw_p54 : lw_okq (⟨"PartedLandModel", "firstYes", "(III)I"⟩, 60) := ⟨⟨by decide +kernel, by decide +kernel⟩, List.mem_of_getElem? (i := 844) (by decide +kernel), List.mem_of_getElem? (i := 1224) (by decide +kernel), List.mem_of_getElem? (i := 1225) (by decide +kernel)⟩
theorem lw_p55 : lw_okq (⟨"PartedLandModel", "owesOf", "(IIII)I"⟩, 60) := ⟨⟨by decide +kernel, by decide +kernel⟩, List.mem_of_getElem? (i := 844) (by decide +kernel), List.mem_of_getElem? (i := 1240) (by decide +kernel), List.mem_of_getElem? (i := 1241) (by decide +kernel)⟩
theorem lw_p56 : lw_okq (⟨"PartedLandModel", "beginPart", "(II)V"⟩, 60) := ⟨⟨by decide +kernel, by decide +kernel⟩, List.mem_of_getElem? (i := 844) (by decide +kernel), List.mem_of_getElem? (i := 1244) (by decide +kernel), List.mem_of_getElem? (i := 1245) (by decide +kernel)⟩
theorem lw_p57 : lw_okq (⟨"PartedLandModel", "shareAt", "(II)V"⟩, 60) := ⟨⟨by decide +kernel, by decide +kernel⟩, List.mem_of_getElem? (i := 844) (by decide +kernel), List.mem_of_getElem? (i := 1248) (by decide +kernel), List.mem_of_getElem? (i := 1249) (by decide +kernel)⟩
theorem lw_p58 : lw_okq (⟨"PartedLandModel", "keyOf", "(III)I"⟩, 60) := ⟨⟨by decide +kernel, by decide +kernel⟩, List.mem_of_getElem? (i := 844) (by decide +kernel), List.mem_of_getElem? (i := 1252) (by decide +kernel), List.mem_of_getElem? (i := 1253) (by decide +kernel)⟩
theorem lw_p59 : lw_okq (⟨"PartedLandModel", "worthOf", "(I)I"⟩, 60) := ⟨⟨by decide +kernel, by decide +kernel⟩, List.mem_of_getElem? (i := 844) (by decide +kernel), List.mem_of_getElem? (i := 1256) (by decide +kernel), List.mem_of_getElem? (i := 1257) (by decide +kernel)⟩
theorem lw_p60 : lw_okq (⟨"PartedLandModel", "ownsOf", "(IIII)I"⟩, 60) := ⟨⟨by decide +kernel, by decide +kernel⟩, List.mem_of_getElem? (i := 844) (by decide +kernel), List.mem_of_getElem? (i := 1268) (by decide +kernel), List.mem_of_getElem? (i := 1269) (by decide +kernel)⟩
theorem lw_p61 : lw_okq (⟨"PartedLandModel", "abroadAt", "(II)V"⟩, 60) := ⟨⟨by decide +kernel, by decide +kernel⟩, List.mem_of_getElem? (i := 844) (by decide +kernel), List.mem_of_getElem? (i := 1272) (by decide +kernel), List.mem_of_getElem? (i := 1273) (by decide +kernel)⟩
theorem lw_p62 : lw_okq (⟨"PartedLandModel", "findBound", "(I)V"⟩, 60) := ⟨⟨by decide +kernel, by decide +kernel⟩, List.mem_of_getElem? (i := 844) (by decide +kernel), List.mem_of_getElem? (i := 1288) (by decide +kernel), List.mem_of_getElem? (i := 1289) (by decide +kernel)⟩
theorem lw_p63 : lw_okq (⟨"PartedLandModel", "burdenOf", "(III)I"⟩, 60) := ⟨⟨by decide +kernel, by decide +kernel⟩, List.mem_of_getElem? (i := 844) (by decide +kernel), List.mem_of_getElem? (i := 1303) (by decide +kernel), List.mem_of_getElem? (i := 1304) (by decide +kernel)⟩
def lw_privs_4 : List (MethodName × Nat) := [(⟨"PartedLandModel", "byRank", "(III)I"⟩, 60), (⟨"PartedLandModel", "isRecognized", "(II)Z"⟩, 60), (⟨"PartedLandModel", "byTrade", "(III)I"⟩, 60), (⟨"PartedLandModel", "isBound", "(IIIII)Z"⟩, 60), (⟨"PartedLandModel", "doWordsLet", "(III)Z"⟩, 60), (⟨"PartedLandModel", "latest", "(IIZI)I"⟩, 60), (⟨"PartedLandModel", "firstYes", "(III)I"⟩, 60), (⟨"PartedLandModel", "owesOf", "(IIII)I"⟩, 60), (⟨"PartedLandModel", "beginPart", "(II)V"⟩, 60), (⟨"PartedLandModel", "shareAt", "(II)V"⟩, 60), (⟨"PartedLandModel", "keyOf", "(III)I"⟩, 60), (⟨"PartedLandModel", "worthOf", "(I)I"⟩, 60), (⟨"PartedLandModel", "ownsOf", "(IIII)I"⟩, 60), (⟨"PartedLandModel", "abroadAt", "(II)V"⟩, 60), (⟨"PartedLandModel", "findBound", "(I)V"⟩, 60), (⟨"PartedLandModel", "burdenOf", "(III)I"⟩, 60)]
theorem lw_r4 : ∀ q ∈ lw_privs_4, lw_okq q := List.forall_mem_cons.mpr ⟨lw_p48, List.forall_mem_cons.mpr ⟨lw_p49, List.forall_mem_cons.mpr ⟨lw_p50, List.forall_mem_cons.mpr ⟨lw_p51, List.forall_mem_cons.mpr ⟨lw_p52, List.forall_mem_cons.mpr ⟨lw_p53, List.forall_mem_cons.mpr ⟨lw_p54, List.forall_mem_cons.mpr ⟨lw_p55, List.forall_mem_cons.mpr ⟨lw_p56, List.forall_mem_cons.mpr ⟨lw_p57, List.forall_mem_cons.mpr ⟨lw_p58, List.forall_mem_cons.mpr ⟨lw_p59, List.forall_mem_cons.mpr ⟨lw_p60, List.forall_mem_cons.mpr ⟨lw_p61, List.forall_mem_cons.mpr ⟨lw_p62, List.forall_mem_cons.mpr ⟨lw_p63, fun _ h => absurd h List.not_mem_nil⟩⟩⟩⟩⟩⟩⟩⟩⟩⟩⟩⟩⟩⟩⟩⟩
def lw_privs : List (MethodName × Nat) := lw_privs_1 ++ (lw_privs_2 ++ (lw_privs_3 ++ (lw_privs_4)))
def lw_tbl : List Cond := k2_sels lw_privs ++ tables_1
theorem lw_privs_ok : ∀ q ∈ lw_privs, lw_okq q := by
  show ∀ q ∈ lw_privs_1 ++ (lw_privs_2 ++ (lw_privs_3 ++ (lw_privs_4))), lw_okq q
  exact List.forall_mem_append.mpr ⟨lw_r1, List.forall_mem_append.mpr ⟨lw_r2, List.forall_mem_append.mpr ⟨lw_r3, lw_r4⟩⟩⟩
def RX0 : String := "PartedLand$Days"
def TX0 : u_T := fun k => match k with
  | _ => ("PartedLand$Days", "marks", "[J", true)
def tyX0 : Nat → FieldType := fun k => match k with
  | _ => .array .long
theorem nmX0 : ∀ a, a < 1 → ∀ b, b < 1 → a ≠ b → (TX0 a).2.1 ≠ (TX0 b).2.1 := by decide +kernel
theorem tyX0_ok : ∀ k, k < 1 → parseFieldDescriptor (TX0 k).2.2.1 = some (tyX0 k) := by decide +kernel
def RX1 : String := "PartedLand$Goods"
def TX1 : u_T := fun k => match k with
  | 0 => ("PartedLand$Goods", "history", "LPartedLand$History;", true)
  | 1 => ("PartedLand$Goods", "debtor", "[I", true)
  | 2 => ("PartedLand$Goods", "sum", "[I", true)
  | 3 => ("PartedLand$Goods", "debtPlace", "[I", true)
  | 4 => ("PartedLand$Goods", "day", "[I", true)
  | 5 => ("PartedLand$Goods", "debtCount", "I", false)
  | 6 => ("PartedLand$Goods", "latestDay", "I", false)
  | 7 => ("PartedLand$Goods", "kind", "[I", true)
  | 8 => ("PartedLand$Goods", "many", "[I", true)
  | 9 => ("PartedLand$Goods", "thingPlace", "[I", true)
  | 10 => ("PartedLand$Goods", "thingCount", "I", false)
  | _ => ("PartedLand$Goods", "amounts", "[I", true)
def tyX1 : Nat → FieldType := fun k => match k with
  | 0 => .object "PartedLand$History"
  | 1 => .array .int
  | 2 => .array .int
  | 3 => .array .int
  | 4 => .array .int
  | 5 => .int
  | 6 => .int
  | 7 => .array .int
  | 8 => .array .int
  | 9 => .array .int
  | 10 => .int
  | _ => .array .int
theorem nmX1 : ∀ a, a < 12 → ∀ b, b < 12 → a ≠ b → (TX1 a).2.1 ≠ (TX1 b).2.1 := by decide +kernel
theorem tyX1_ok : ∀ k, k < 12 → parseFieldDescriptor (TX1 k).2.2.1 = some (tyX1 k) := by decide +kernel
def RX2 : String := "PartedLand$History"
def TX2 : u_T := fun k => match k with
  | 0 => ("PartedLand$History", "heads", "[I", true)
  | 1 => ("PartedLand$History", "worth", "[I", true)
  | 2 => ("PartedLand$History", "groundCount", "I", false)
  | 3 => ("PartedLand$History", "parent", "[I", true)
  | 4 => ("PartedLand$History", "cameOn", "[I", true)
  | 5 => ("PartedLand$History", "endedBy", "[I", true)
  | 6 => ("PartedLand$History", "landCount", "I", false)
  | 7 => ("PartedLand$History", "kind", "[I", true)
  | 8 => ("PartedLand$History", "day", "[I", true)
  | 9 => ("PartedLand$History", "a", "[I", true)
  | 10 => ("PartedLand$History", "b", "[I", true)
  | 11 => ("PartedLand$History", "firstThatCame", "[I", true)
  | 12 => ("PartedLand$History", "changeCount", "I", false)
  | 13 => ("PartedLand$History", "held", "[[I", true)
  | _ => ("PartedLand$History", "there", "[I", true)
def tyX2 : Nat → FieldType := fun k => match k with
  | 0 => .array .int
  | 1 => .array .int
  | 2 => .int
  | 3 => .array .int
  | 4 => .array .int
  | 5 => .array .int
  | 6 => .int
  | 7 => .array .int
  | 8 => .array .int
  | 9 => .array .int
  | 10 => .array .int
  | 11 => .array .int
  | 12 => .int
  | 13 => .array (.array .int)
  | _ => .array .int
theorem nmX2 : ∀ a, a < 15 → ∀ b, b < 15 → a ≠ b → (TX2 a).2.1 ≠ (TX2 b).2.1 := by decide +kernel
theorem tyX2_ok : ∀ k, k < 15 → parseFieldDescriptor (TX2 k).2.2.1 = some (tyX2 k) := by decide +kernel
def RX3 : String := "PartedLand$Pacts"
def TX3 : u_T := fun k => match k with
  | 0 => ("PartedLand$Pacts", "history", "LPartedLand$History;", true)
  | 1 => ("PartedLand$Pacts", "text", "LPartedLand$Text;", true)
  | 2 => ("PartedLand$Pacts", "words", "LPartedLand$Words;", true)
  | 3 => ("PartedLand$Pacts", "voices", "LPartedLand$Voices;", true)
  | 4 => ("PartedLand$Pacts", "kind", "[I", true)
  | 5 => ("PartedLand$Pacts", "signer", "[I", true)
  | 6 => ("PartedLand$Pacts", "place", "[I", true)
  | 7 => ("PartedLand$Pacts", "day", "[I", true)
  | 8 => ("PartedLand$Pacts", "pactCount", "I", false)
  | 9 => ("PartedLand$Pacts", "latestDay", "I", false)
  | 10 => ("PartedLand$Pacts", "cameOut", "I", false)
  | 11 => ("PartedLand$Pacts", "joined", "I", false)
  | _ => ("PartedLand$Pacts", "boundAhead", "[I", true)
def tyX3 : Nat → FieldType := fun k => match k with
  | 0 => .object "PartedLand$History"
  | 1 => .object "PartedLand$Text"
  | 2 => .object "PartedLand$Words"
  | 3 => .object "PartedLand$Voices"
  | 4 => .array .int
  | 5 => .array .int
  | 6 => .array .int
  | 7 => .array .int
  | 8 => .int
  | 9 => .int
  | 10 => .int
  | 11 => .int
  | _ => .array .int
theorem nmX3 : ∀ a, a < 13 → ∀ b, b < 13 → a ≠ b → (TX3 a).2.1 ≠ (TX3 b).2.1 := by decide +kernel
theorem tyX3_ok : ∀ k, k < 13 → parseFieldDescriptor (TX3 k).2.2.1 = some (tyX3 k) := by decide +kernel
def RX4 : String := "PartedLand$Pensioners"
def TX4 : u_T := fun k => match k with
  | 0 => ("PartedLand$Pensioners", "land", "[I", true)
  | 1 => ("PartedLand$Pensioners", "bornOn", "[I", true)
  | 2 => ("PartedLand$Pensioners", "livesOn", "[I", true)
  | _ => ("PartedLand$Pensioners", "pensionerCount", "I", false)
def tyX4 : Nat → FieldType := fun k => match k with
  | 0 => .array .int
  | 1 => .array .int
  | 2 => .array .int
  | _ => .int
theorem nmX4 : ∀ a, a < 4 → ∀ b, b < 4 → a ≠ b → (TX4 a).2.1 ≠ (TX4 b).2.1 := by decide +kernel
theorem tyX4_ok : ∀ k, k < 4 → parseFieldDescriptor (TX4 k).2.2.1 = some (tyX4 k) := by decide +kernel
def RX5 : String := "PartedLand$Text"
def TX5 : u_T := fun k => match k with
  | 0 => ("PartedLand$Text", "bytes", "[I", true)
  | 1 => ("PartedLand$Text", "length", "I", false)
  | 2 => ("PartedLand$Text", "rule", "[I", true)
  | 3 => ("PartedLand$Text", "start", "I", false)
  | 4 => ("PartedLand$Text", "end", "I", false)
  | 5 => ("PartedLand$Text", "lines", "I", false)
  | _ => ("PartedLand$Text", "read", "[I", true)
def tyX5 : Nat → FieldType := fun k => match k with
  | 0 => .array .int
  | 1 => .int
  | 2 => .array .int
  | 3 => .int
  | 4 => .int
  | 5 => .int
  | _ => .array .int
theorem nmX5 : ∀ a, a < 7 → ∀ b, b < 7 → a ≠ b → (TX5 a).2.1 ≠ (TX5 b).2.1 := by decide +kernel
theorem tyX5_ok : ∀ k, k < 7 → parseFieldDescriptor (TX5 k).2.2.1 = some (tyX5 k) := by decide +kernel
def RX6 : String := "PartedLand$Voices"
def TX6 : u_T := fun k => match k with
  | 0 => ("PartedLand$Voices", "third", "[I", true)
  | 1 => ("PartedLand$Voices", "land", "[I", true)
  | 2 => ("PartedLand$Voices", "yes", "[Z", true)
  | 3 => ("PartedLand$Voices", "day", "[I", true)
  | _ => ("PartedLand$Voices", "voiceCount", "I", false)
def tyX6 : Nat → FieldType := fun k => match k with
  | 0 => .array .int
  | 1 => .array .int
  | 2 => .array .boolean
  | 3 => .array .int
  | _ => .int
theorem nmX6 : ∀ a, a < 5 → ∀ b, b < 5 → a ≠ b → (TX6 a).2.1 ≠ (TX6 b).2.1 := by decide +kernel
theorem tyX6_ok : ∀ k, k < 5 → parseFieldDescriptor (TX6 k).2.2.1 = some (tyX6 k) := by decide +kernel
def RX7 : String := "PartedLand$Words"
def TX7 : u_T := fun k => match k with
  | 0 => ("PartedLand$Words", "pact", "[I", true)
  | 1 => ("PartedLand$Words", "land", "[I", true)
  | 2 => ("PartedLand$Words", "byThird", "[Z", true)
  | 3 => ("PartedLand$Words", "yes", "[Z", true)
  | 4 => ("PartedLand$Words", "day", "[I", true)
  | _ => ("PartedLand$Words", "wordCount", "I", false)
def tyX7 : Nat → FieldType := fun k => match k with
  | 0 => .array .int
  | 1 => .array .int
  | 2 => .array .boolean
  | 3 => .array .boolean
  | 4 => .array .int
  | _ => .int
theorem nmX7 : ∀ a, a < 6 → ∀ b, b < 6 → a ≠ b → (TX7 a).2.1 ≠ (TX7 b).2.1 := by decide +kernel
theorem tyX7_ok : ∀ k, k < 6 → parseFieldDescriptor (TX7 k).2.2.1 = some (tyX7 k) := by decide +kernel
def RX8 : String := "PartedLand"
def TX8 : u_T := fun k => match k with
  | 0 => ("PartedLand", "history", "LPartedLand$History;", true)
  | 1 => ("PartedLand", "text", "LPartedLand$Text;", true)
  | 2 => ("PartedLand", "words", "LPartedLand$Words;", true)
  | 3 => ("PartedLand", "voices", "LPartedLand$Voices;", true)
  | 4 => ("PartedLand", "pacts", "LPartedLand$Pacts;", true)
  | 5 => ("PartedLand", "goods", "LPartedLand$Goods;", true)
  | 6 => ("PartedLand", "pensioners", "LPartedLand$Pensioners;", true)
  | _ => ("PartedLand", "busyDays", "LPartedLand$Days;", true)
def tyX8 : Nat → FieldType := fun k => match k with
  | 0 => .object "PartedLand$History"
  | 1 => .object "PartedLand$Text"
  | 2 => .object "PartedLand$Words"
  | 3 => .object "PartedLand$Voices"
  | 4 => .object "PartedLand$Pacts"
  | 5 => .object "PartedLand$Goods"
  | 6 => .object "PartedLand$Pensioners"
  | _ => .object "PartedLand$Days"
theorem nmX8 : ∀ a, a < 8 → ∀ b, b < 8 → a ≠ b → (TX8 a).2.1 ≠ (TX8 b).2.1 := by decide +kernel
theorem tyX8_ok : ∀ k, k < 8 → parseFieldDescriptor (TX8 k).2.2.1 = some (tyX8 k) := by decide +kernel
def RX9 : String := "PartedLandModel"
def TX9 : u_T := fun k => match k with
  | 0 => ("PartedLandModel", "grounds", "I", false)
  | 1 => ("PartedLandModel", "heads", "[I", true)
  | 2 => ("PartedLandModel", "worth", "[I", true)
  | 3 => ("PartedLandModel", "lands", "I", false)
  | 4 => ("PartedLandModel", "from", "[I", true)
  | 5 => ("PartedLandModel", "came", "[I", true)
  | 6 => ("PartedLandModel", "changes", "I", false)
  | 7 => ("PartedLandModel", "kind", "[I", true)
  | 8 => ("PartedLandModel", "day", "[I", true)
  | 9 => ("PartedLandModel", "first", "[I", true)
  | 10 => ("PartedLandModel", "second", "[I", true)
  | 11 => ("PartedLandModel", "set", "[I", true)
  | 12 => ("PartedLandModel", "fresh", "[I", true)
  | 13 => ("PartedLandModel", "owner", "[I", true)
  | 14 => ("PartedLandModel", "there", "[I", true)
  | 15 => ("PartedLandModel", "bytes", "I", false)
  | 16 => ("PartedLandModel", "text", "[I", true)
  | 17 => ("PartedLandModel", "position", "I", false)
  | 18 => ("PartedLandModel", "tokenAt", "I", false)
  | 19 => ("PartedLandModel", "token", "J", false)
  | 20 => ("PartedLandModel", "digits", "I", false)
  | 21 => ("PartedLandModel", "number", "I", false)
  | 22 => ("PartedLandModel", "faultAt", "I", false)
  | 23 => ("PartedLandModel", "readMany", "I", false)
  | 24 => ("PartedLandModel", "read", "[I", true)
  | 25 => ("PartedLandModel", "rule", "[I", true)
  | 26 => ("PartedLandModel", "pacts", "I", false)
  | 27 => ("PartedLandModel", "pactKind", "[I", true)
  | 28 => ("PartedLandModel", "pactLand", "[I", true)
  | 29 => ("PartedLandModel", "pactThird", "[I", true)
  | 30 => ("PartedLandModel", "pactGround", "[I", true)
  | 31 => ("PartedLandModel", "pactDay", "[I", true)
  | 32 => ("PartedLandModel", "words", "I", false)
  | 33 => ("PartedLandModel", "wordPact", "[I", true)
  | 34 => ("PartedLandModel", "wordLand", "[I", true)
  | 35 => ("PartedLandModel", "wordDay", "[I", true)
  | 36 => ("PartedLandModel", "isByThird", "[Z", true)
  | 37 => ("PartedLandModel", "isYes", "[Z", true)
  | 38 => ("PartedLandModel", "left", "I", false)
  | 39 => ("PartedLandModel", "voices", "I", false)
  | 40 => ("PartedLandModel", "voiceThird", "[I", true)
  | 41 => ("PartedLandModel", "voiceLand", "[I", true)
  | 42 => ("PartedLandModel", "voiceDay", "[I", true)
  | 43 => ("PartedLandModel", "isVoiceYes", "[Z", true)
  | 44 => ("PartedLandModel", "wasBound", "[Z", true)
  | 45 => ("PartedLandModel", "boundNow", "[I", true)
  | 46 => ("PartedLandModel", "debts", "I", false)
  | 47 => ("PartedLandModel", "debtLand", "[I", true)
  | 48 => ("PartedLandModel", "debtSum", "[I", true)
  | 49 => ("PartedLandModel", "debtGround", "[I", true)
  | 50 => ("PartedLandModel", "debtDay", "[I", true)
  | 51 => ("PartedLandModel", "things", "I", false)
  | 52 => ("PartedLandModel", "thingKind", "[I", true)
  | 53 => ("PartedLandModel", "thingMany", "[I", true)
  | 54 => ("PartedLandModel", "thingGround", "[I", true)
  | 55 => ("PartedLandModel", "pensioners", "I", false)
  | 56 => ("PartedLandModel", "whom", "[I", true)
  | 57 => ("PartedLandModel", "born", "[I", true)
  | 58 => ("PartedLandModel", "lives", "[I", true)
  | _ => ("PartedLandModel", "part", "[I", true)
def tyX9 : Nat → FieldType := fun k => match k with
  | 0 => .int
  | 1 => .array .int
  | 2 => .array .int
  | 3 => .int
  | 4 => .array .int
  | 5 => .array .int
  | 6 => .int
  | 7 => .array .int
  | 8 => .array .int
  | 9 => .array .int
  | 10 => .array .int
  | 11 => .array .int
  | 12 => .array .int
  | 13 => .array .int
  | 14 => .array .int
  | 15 => .int
  | 16 => .array .int
  | 17 => .int
  | 18 => .int
  | 19 => .long
  | 20 => .int
  | 21 => .int
  | 22 => .int
  | 23 => .int
  | 24 => .array .int
  | 25 => .array .int
  | 26 => .int
  | 27 => .array .int
  | 28 => .array .int
  | 29 => .array .int
  | 30 => .array .int
  | 31 => .array .int
  | 32 => .int
  | 33 => .array .int
  | 34 => .array .int
  | 35 => .array .int
  | 36 => .array .boolean
  | 37 => .array .boolean
  | 38 => .int
  | 39 => .int
  | 40 => .array .int
  | 41 => .array .int
  | 42 => .array .int
  | 43 => .array .boolean
  | 44 => .array .boolean
  | 45 => .array .int
  | 46 => .int
  | 47 => .array .int
  | 48 => .array .int
  | 49 => .array .int
  | 50 => .array .int
  | 51 => .int
  | 52 => .array .int
  | 53 => .array .int
  | 54 => .array .int
  | 55 => .int
  | 56 => .array .int
  | 57 => .array .int
  | 58 => .array .int
  | _ => .array .int
theorem nmX9 : ∀ a, a < 60 → ∀ b, b < 60 → a ≠ b → (TX9 a).2.1 ≠ (TX9 b).2.1 := by decide +kernel
theorem tyX9_ok : ∀ k, k < 60 → parseFieldDescriptor (TX9 k).2.2.1 = some (tyX9 k) := by decide +kernel
abbrev gcl : List vw_C := [(RX0, TX0, 1), (RX1, TX1, 12), (RX2, TX2, 15), (RX3, TX3, 13), (RX4, TX4, 4), (RX5, TX5, 7), (RX6, TX6, 5), (RX7, TX7, 6), (RX8, TX8, 8), (RX9, TX9, 60)]
abbrev cX0_init : ByteArray := prog_2_method_1_code
abbrev yX0_init : MethodName := ⟨"PartedLand$Days", "<init>", "()V"⟩
abbrev cX0_mark : ByteArray := prog_2_method_2_code
abbrev yX0_mark : MethodName := ⟨"PartedLand$Days", "mark", "(I)V"⟩
abbrev cX0_isMarked : ByteArray := prog_2_method_3_code
abbrev yX0_isMarked : MethodName := ⟨"PartedLand$Days", "isMarked", "(I)Z"⟩
abbrev cX1_init : ByteArray := prog_3_method_1_code
abbrev yX1_init : MethodName := ⟨"PartedLand$Goods", "<init>", "(LPartedLand$History;)V"⟩
abbrev cX1_knowsDebt : ByteArray := prog_3_method_2_code
abbrev yX1_knowsDebt : MethodName := ⟨"PartedLand$Goods", "knowsDebt", "(I)Z"⟩
abbrev cX1_knowsThing : ByteArray := prog_3_method_3_code
abbrev yX1_knowsThing : MethodName := ⟨"PartedLand$Goods", "knowsThing", "(I)Z"⟩
abbrev cX1_addDebt : ByteArray := prog_3_method_4_code
abbrev yX1_addDebt : MethodName := ⟨"PartedLand$Goods", "addDebt", "(IIII)I"⟩
abbrev cX1_addThing : ByteArray := prog_3_method_5_code
abbrev yX1_addThing : MethodName := ⟨"PartedLand$Goods", "addThing", "(III)I"⟩
abbrev cX1_owedBy : ByteArray := prog_3_method_6_code
abbrev yX1_owedBy : MethodName := ⟨"PartedLand$Goods", "owedBy", "(IIII)I"⟩
abbrev cX1_ownedBy : ByteArray := prog_3_method_7_code
abbrev yX1_ownedBy : MethodName := ⟨"PartedLand$Goods", "ownedBy", "(IIII)I"⟩
abbrev cX1_burdenOf : ByteArray := prog_3_method_8_code
abbrev yX1_burdenOf : MethodName := ⟨"PartedLand$Goods", "burdenOf", "(III)I"⟩
abbrev cX1_divide : ByteArray := prog_3_method_9_code
abbrev yX1_divide : MethodName := ⟨"PartedLand$Goods", "divide", "(IIIII)V"⟩
abbrev cX1_divideAt : ByteArray := prog_3_method_10_code
abbrev yX1_divideAt : MethodName := ⟨"PartedLand$Goods", "divideAt", "(II)V"⟩
abbrev cX1_partOfFirst : ByteArray := prog_3_method_11_code
abbrev yX1_partOfFirst : MethodName := ⟨"PartedLand$Goods", "partOfFirst", "(III)I"⟩
abbrev cX1_ownerAbroad : ByteArray := prog_3_method_12_code
abbrev yX1_ownerAbroad : MethodName := ⟨"PartedLand$Goods", "ownerAbroad", "(II)I"⟩
abbrev cX1_ownerAbroadBehind : ByteArray := prog_3_method_13_code
abbrev yX1_ownerAbroadBehind : MethodName := ⟨"PartedLand$Goods", "ownerAbroadBehind", "(II)I"⟩
abbrev cX1_keyOfFirst : ByteArray := prog_3_method_14_code
abbrev yX1_keyOfFirst : MethodName := ⟨"PartedLand$Goods", "keyOfFirst", "(II)I"⟩
abbrev cX1_keyOfOther : ByteArray := prog_3_method_15_code
abbrev yX1_keyOfOther : MethodName := ⟨"PartedLand$Goods", "keyOfOther", "(II)I"⟩
abbrev cX1_key : ByteArray := prog_3_method_16_code
abbrev yX1_key : MethodName := ⟨"PartedLand$Goods", "key", "(III)I"⟩
abbrev cX2_init : ByteArray := prog_4_method_1_code
abbrev yX2_init : MethodName := ⟨"PartedLand$History", "<init>", "()V"⟩
abbrev cX2_knowsGround : ByteArray := prog_4_method_2_code
abbrev yX2_knowsGround : MethodName := ⟨"PartedLand$History", "knowsGround", "(I)Z"⟩
abbrev cX2_knowsLand : ByteArray := prog_4_method_3_code
abbrev yX2_knowsLand : MethodName := ⟨"PartedLand$History", "knowsLand", "(I)Z"⟩
abbrev cX2_addGround : ByteArray := prog_4_method_4_code
abbrev yX2_addGround : MethodName := ⟨"PartedLand$History", "addGround", "(II)I"⟩
abbrev cX2_latestDay : ByteArray := prog_4_method_5_code
abbrev yX2_latestDay : MethodName := ⟨"PartedLand$History", "latestDay", "()I"⟩
abbrev cX2_changesBy : ByteArray := prog_4_method_6_code
abbrev yX2_changesBy : MethodName := ⟨"PartedLand$History", "changesBy", "(I)I"⟩
abbrev cX2_isThere : ByteArray := prog_4_method_7_code
abbrev yX2_isThere : MethodName := ⟨"PartedLand$History", "isThere", "(II)Z"⟩
abbrev cX2_ownerOf : ByteArray := prog_4_method_8_code
abbrev yX2_ownerOf : MethodName := ⟨"PartedLand$History", "ownerOf", "(II)I"⟩
abbrev cX2_isSomeNotAll : ByteArray := prog_4_method_9_code
abbrev yX2_isSomeNotAll : MethodName := ⟨"PartedLand$History", "isSomeNotAll", "(II)Z"⟩
abbrev cX2_addChange : ByteArray := prog_4_method_10_code
abbrev yX2_addChange : MethodName := ⟨"PartedLand$History", "addChange", "(IIIII)I"⟩
abbrev cX2_partOff : ByteArray := prog_4_method_11_code
abbrev yX2_partOff : MethodName := ⟨"PartedLand$History", "partOff", "(II)V"⟩
abbrev cX2_fallApart : ByteArray := prog_4_method_12_code
abbrev yX2_fallApart : MethodName := ⟨"PartedLand$History", "fallApart", "(II)V"⟩
abbrev cX2_join : ByteArray := prog_4_method_13_code
abbrev yX2_join : MethodName := ⟨"PartedLand$History", "join", "(II)V"⟩
abbrev cX2_moveGrounds : ByteArray := prog_4_method_14_code
abbrev yX2_moveGrounds : MethodName := ⟨"PartedLand$History", "moveGrounds", "(III)V"⟩
abbrev cX2_comesOutOf : ByteArray := prog_4_method_15_code
abbrev yX2_comesOutOf : MethodName := ⟨"PartedLand$History", "comesOutOf", "(I)V"⟩
abbrev cX2_ends : ByteArray := prog_4_method_16_code
abbrev yX2_ends : MethodName := ⟨"PartedLand$History", "ends", "(I)V"⟩
abbrev cX2_heirOf : ByteArray := prog_4_method_17_code
abbrev yX2_heirOf : MethodName := ⟨"PartedLand$History", "heirOf", "(II)I"⟩
abbrev cX2_nextHeir : ByteArray := prog_4_method_18_code
abbrev yX2_nextHeir : MethodName := ⟨"PartedLand$History", "nextHeir", "(I)I"⟩
abbrev cX2_saidSame : ByteArray := prog_4_method_19_code
abbrev yX2_saidSame : MethodName := ⟨"PartedLand$History", "saidSame", "(II)Z"⟩
abbrev cX2_sumOf : ByteArray := prog_4_method_20_code
abbrev yX2_sumOf : MethodName := ⟨"PartedLand$History", "sumOf", "([II)I"⟩
abbrev cX3_init : ByteArray := prog_5_method_1_code
abbrev yX3_init : MethodName := ⟨"PartedLand$Pacts", "<init>", "(LPartedLand$History;LPartedLand$Text;LPartedLand$Words;LPartedLand$Voices;)V"⟩
abbrev cX3_knowsPact : ByteArray := prog_5_method_2_code
abbrev yX3_knowsPact : MethodName := ⟨"PartedLand$Pacts", "knowsPact", "(I)Z"⟩
abbrev cX3_addPact : ByteArray := prog_5_method_3_code
abbrev yX3_addPact : MethodName := ⟨"PartedLand$Pacts", "addPact", "(IIII)I"⟩
abbrev cX3_boundOn : ByteArray := prog_5_method_4_code
abbrev yX3_boundOn : MethodName := ⟨"PartedLand$Pacts", "boundOn", "(III)I"⟩
abbrev cX3_boundByRank : ByteArray := prog_5_method_5_code
abbrev yX3_boundByRank : MethodName := ⟨"PartedLand$Pacts", "boundByRank", "(III)I"⟩
abbrev cX3_boundByTrade : ByteArray := prog_5_method_6_code
abbrev yX3_boundByTrade : MethodName := ⟨"PartedLand$Pacts", "boundByTrade", "(III)I"⟩
abbrev cX3_handOn : ByteArray := prog_5_method_7_code
abbrev yX3_handOn : MethodName := ⟨"PartedLand$Pacts", "handOn", "(III)V"⟩
abbrev cX3_isHeld : ByteArray := prog_5_method_8_code
abbrev yX3_isHeld : MethodName := ⟨"PartedLand$Pacts", "isHeld", "(IIII)Z"⟩
abbrev cX3_isHeldByWords : ByteArray := prog_5_method_9_code
abbrev yX3_isHeldByWords : MethodName := ⟨"PartedLand$Pacts", "isHeldByWords", "(IIII)Z"⟩
abbrev cX3_turnsOn : ByteArray := prog_5_method_10_code
abbrev yX3_turnsOn : MethodName := ⟨"PartedLand$Pacts", "turnsOn", "(I)I"⟩
abbrev cX3_dayOfMostTurns : ByteArray := prog_5_method_11_code
abbrev yX3_dayOfMostTurns : MethodName := ⟨"PartedLand$Pacts", "dayOfMostTurns", "(ILPartedLand$Days;)I"⟩
abbrev cX3_turnsSinceAhead : ByteArray := prog_5_method_12_code
abbrev yX3_turnsSinceAhead : MethodName := ⟨"PartedLand$Pacts", "turnsSinceAhead", "(I)I"⟩
abbrev cX3_fewestLeftOut : ByteArray := prog_5_method_13_code
abbrev yX3_fewestLeftOut : MethodName := ⟨"PartedLand$Pacts", "fewestLeftOut", "(IIIZ)I"⟩
abbrev cX4_init : ByteArray := prog_6_method_1_code
abbrev yX4_init : MethodName := ⟨"PartedLand$Pensioners", "<init>", "()V"⟩
abbrev cX4_knowsPensioner : ByteArray := prog_6_method_2_code
abbrev yX4_knowsPensioner : MethodName := ⟨"PartedLand$Pensioners", "knowsPensioner", "(I)Z"⟩
abbrev cX4_addPensioner : ByteArray := prog_6_method_3_code
abbrev yX4_addPensioner : MethodName := ⟨"PartedLand$Pensioners", "addPensioner", "(III)I"⟩
abbrev cX5_init : ByteArray := prog_7_method_1_code
abbrev yX5_init : MethodName := ⟨"PartedLand$Text", "<init>", "()V"⟩
abbrev cX5_append : ByteArray := prog_7_method_2_code
abbrev yX5_append : MethodName := ⟨"PartedLand$Text", "append", "(JI)I"⟩
abbrev cX5_empty : ByteArray := prog_7_method_3_code
abbrev yX5_empty : MethodName := ⟨"PartedLand$Text", "empty", "()I"⟩
abbrev cX5_takeAsRules : ByteArray := prog_7_method_4_code
abbrev yX5_takeAsRules : MethodName := ⟨"PartedLand$Text", "takeAsRules", "()I"⟩
abbrev cX5_firstFault : ByteArray := prog_7_method_5_code
abbrev yX5_firstFault : MethodName := ⟨"PartedLand$Text", "firstFault", "()I"⟩
abbrev cX5_readLine : ByteArray := prog_7_method_6_code
abbrev yX5_readLine : MethodName := ⟨"PartedLand$Text", "readLine", "()Z"⟩
abbrev cX5_put : ByteArray := prog_7_method_7_code
abbrev yX5_put : MethodName := ⟨"PartedLand$Text", "put", "(II)Z"⟩
abbrev cX5_readSilence : ByteArray := prog_7_method_8_code
abbrev yX5_readSilence : MethodName := ⟨"PartedLand$Text", "readSilence", "()Z"⟩
abbrev cX5_readChoice : ByteArray := prog_7_method_9_code
abbrev yX5_readChoice : MethodName := ⟨"PartedLand$Text", "readChoice", "(ILjava/lang/String;Ljava/lang/String;Ljava/lang/String;)Z"⟩
abbrev cX5_readNumber : ByteArray := prog_7_method_10_code
abbrev yX5_readNumber : MethodName := ⟨"PartedLand$Text", "readNumber", "()Z"⟩
abbrev cX5_nextToken : ByteArray := prog_7_method_11_code
abbrev yX5_nextToken : MethodName := ⟨"PartedLand$Text", "nextToken", "()V"⟩
abbrev cX5_isLetter : ByteArray := prog_7_method_12_code
abbrev yX5_isLetter : MethodName := ⟨"PartedLand$Text", "isLetter", "(I)Z"⟩
abbrev cX5_isDigit : ByteArray := prog_7_method_13_code
abbrev yX5_isDigit : MethodName := ⟨"PartedLand$Text", "isDigit", "(I)Z"⟩
abbrev cX5_isWord : ByteArray := prog_7_method_14_code
abbrev yX5_isWord : MethodName := ⟨"PartedLand$Text", "isWord", "(Ljava/lang/String;)Z"⟩
abbrev cX6_init : ByteArray := prog_8_method_1_code
abbrev yX6_init : MethodName := ⟨"PartedLand$Voices", "<init>", "()V"⟩
abbrev cX6_addVoice : ByteArray := prog_8_method_2_code
abbrev yX6_addVoice : MethodName := ⟨"PartedLand$Voices", "addVoice", "(IIZI)I"⟩
abbrev cX6_moreYesThanNo : ByteArray := prog_8_method_3_code
abbrev yX6_moreYesThanNo : MethodName := ⟨"PartedLand$Voices", "moreYesThanNo", "(II)Z"⟩
abbrev cX6_latest : ByteArray := prog_8_method_4_code
abbrev yX6_latest : MethodName := ⟨"PartedLand$Voices", "latest", "(III)I"⟩
abbrev cX7_init : ByteArray := prog_9_method_1_code
abbrev yX7_init : MethodName := ⟨"PartedLand$Words", "<init>", "()V"⟩
abbrev cX7_addWord : ByteArray := prog_9_method_2_code
abbrev yX7_addWord : MethodName := ⟨"PartedLand$Words", "addWord", "(IIZZI)I"⟩
abbrev cX7_latest : ByteArray := prog_9_method_3_code
abbrev yX7_latest : MethodName := ⟨"PartedLand$Words", "latest", "(IIZII)I"⟩
abbrev cX7_firstYes : ByteArray := prog_9_method_4_code
abbrev yX7_firstYes : MethodName := ⟨"PartedLand$Words", "firstYes", "(III)I"⟩
abbrev cX7_firstWordsAbout : ByteArray := prog_9_method_5_code
abbrev yX7_firstWordsAbout : MethodName := ⟨"PartedLand$Words", "firstWordsAbout", "(I)I"⟩
abbrev cX8_init : ByteArray := prog_1_method_1_code
abbrev yX8_init : MethodName := ⟨"PartedLand", "<init>", "()V"⟩
abbrev cX8_ground : ByteArray := prog_1_method_2_code
abbrev yX8_ground : MethodName := ⟨"PartedLand", "ground", "(II)I"⟩
abbrev cX8_change : ByteArray := prog_1_method_3_code
abbrev yX8_change : MethodName := ⟨"PartedLand", "change", "(IIIII)I"⟩
abbrev cX8_lands : ByteArray := prog_1_method_4_code
abbrev yX8_lands : MethodName := ⟨"PartedLand", "lands", "(I)I"⟩
abbrev cX8_has : ByteArray := prog_1_method_5_code
abbrev yX8_has : MethodName := ⟨"PartedLand", "has", "(II)I"⟩
abbrev cX8_whose : ByteArray := prog_1_method_6_code
abbrev yX8_whose : MethodName := ⟨"PartedLand", "whose", "(II)I"⟩
abbrev cX8_from : ByteArray := prog_1_method_7_code
abbrev yX8_from : MethodName := ⟨"PartedLand", "from", "(II)I"⟩
abbrev cX8_heir : ByteArray := prog_1_method_8_code
abbrev yX8_heir : MethodName := ⟨"PartedLand", "heir", "(II)I"⟩
abbrev cX8_write : ByteArray := prog_1_method_9_code
abbrev yX8_write : MethodName := ⟨"PartedLand", "write", "(JI)I"⟩
abbrev cX8_erase : ByteArray := prog_1_method_10_code
abbrev yX8_erase : MethodName := ⟨"PartedLand", "erase", "()I"⟩
abbrev cX8_fault : ByteArray := prog_1_method_11_code
abbrev yX8_fault : MethodName := ⟨"PartedLand", "fault", "()I"⟩
abbrev cX8_rules : ByteArray := prog_1_method_12_code
abbrev yX8_rules : MethodName := ⟨"PartedLand", "rules", "()I"⟩
abbrev cX8_rule : ByteArray := prog_1_method_13_code
abbrev yX8_rule : MethodName := ⟨"PartedLand", "rule", "(I)I"⟩
abbrev cX8_pact : ByteArray := prog_1_method_14_code
abbrev yX8_pact : MethodName := ⟨"PartedLand", "pact", "(IIIII)I"⟩
abbrev cX8_word : ByteArray := prog_1_method_15_code
abbrev yX8_word : MethodName := ⟨"PartedLand", "word", "(IIZZI)I"⟩
abbrev cX8_voice : ByteArray := prog_1_method_16_code
abbrev yX8_voice : MethodName := ⟨"PartedLand", "voice", "(IIZI)I"⟩
abbrev cX8_bound : ByteArray := prog_1_method_17_code
abbrev yX8_bound : MethodName := ⟨"PartedLand", "bound", "(II)I"⟩
abbrev cX8_since : ByteArray := prog_1_method_18_code
abbrev yX8_since : MethodName := ⟨"PartedLand", "since", "(II)I"⟩
abbrev cX8_debt : ByteArray := prog_1_method_19_code
abbrev yX8_debt : MethodName := ⟨"PartedLand", "debt", "(IIII)I"⟩
abbrev cX8_owes : ByteArray := prog_1_method_20_code
abbrev yX8_owes : MethodName := ⟨"PartedLand", "owes", "(III)I"⟩
abbrev cX8_thing : ByteArray := prog_1_method_21_code
abbrev yX8_thing : MethodName := ⟨"PartedLand", "thing", "(III)I"⟩
abbrev cX8_owns : ByteArray := prog_1_method_22_code
abbrev yX8_owns : MethodName := ⟨"PartedLand", "owns", "(III)I"⟩
abbrev cX8_served : ByteArray := prog_1_method_23_code
abbrev yX8_served : MethodName := ⟨"PartedLand", "served", "(III)I"⟩
abbrev cX8_paid : ByteArray := prog_1_method_24_code
abbrev yX8_paid : MethodName := ⟨"PartedLand", "paid", "(II)I"⟩
abbrev cX8_hangs : ByteArray := prog_1_method_25_code
abbrev yX8_hangs : MethodName := ⟨"PartedLand", "hangs", "(II)I"⟩
abbrev cX8_without : ByteArray := prog_1_method_26_code
abbrev yX8_without : MethodName := ⟨"PartedLand", "without", "(IIIZ)I"⟩
abbrev cX8_burden : ByteArray := prog_1_method_27_code
abbrev yX8_burden : MethodName := ⟨"PartedLand", "burden", "(III)I"⟩
abbrev cX8_best : ByteArray := prog_1_method_28_code
abbrev yX8_best : MethodName := ⟨"PartedLand", "best", "(II)I"⟩
abbrev cX8_count : ByteArray := prog_1_method_29_code
abbrev yX8_count : MethodName := ⟨"PartedLand", "count", "(I)I"⟩
abbrev cX8_mayChangeOn : ByteArray := prog_1_method_30_code
abbrev yX8_mayChangeOn : MethodName := ⟨"PartedLand", "mayChangeOn", "(I)Z"⟩
abbrev cX8_landsThatCome : ByteArray := prog_1_method_31_code
abbrev yX8_landsThatCome : MethodName := ⟨"PartedLand", "landsThatCome", "(I)I"⟩
abbrev cX8_isDay : ByteArray := prog_1_method_32_code
abbrev yX8_isDay : MethodName := ⟨"PartedLand", "isDay", "(I)Z"⟩
abbrev cX8_isThird : ByteArray := prog_1_method_33_code
abbrev yX8_isThird : MethodName := ⟨"PartedLand", "isThird", "(I)Z"⟩
abbrev cX8_isIn : ByteArray := prog_1_method_34_code
abbrev yX8_isIn : MethodName := ⟨"PartedLand", "isIn", "(II)Z"⟩
abbrev cX9_init : ByteArray := prog_11_method_1_code
abbrev yX9_init : MethodName := ⟨"PartedLandModel", "<init>", "()V"⟩
abbrev cX9_firstRules : ByteArray := prog_11_method_2_code
abbrev yX9_firstRules : MethodName := ⟨"PartedLandModel", "firstRules", "([I)V"⟩
abbrev cX9_in : ByteArray := prog_11_method_3_code
abbrev yX9_in : MethodName := ⟨"PartedLandModel", "in", "(III)Z"⟩
abbrev cX9_isGround : ByteArray := prog_11_method_4_code
abbrev yX9_isGround : MethodName := ⟨"PartedLandModel", "isGround", "(I)Z"⟩
abbrev cX9_isLand : ByteArray := prog_11_method_5_code
abbrev yX9_isLand : MethodName := ⟨"PartedLandModel", "isLand", "(I)Z"⟩
abbrev cX9_isThird : ByteArray := prog_11_method_6_code
abbrev yX9_isThird : MethodName := ⟨"PartedLandModel", "isThird", "(I)Z"⟩
abbrev cX9_isDay : ByteArray := prog_11_method_7_code
abbrev yX9_isDay : MethodName := ⟨"PartedLandModel", "isDay", "(I)Z"⟩
abbrev cX9_ground : ByteArray := prog_11_method_8_code
abbrev yX9_ground : MethodName := ⟨"PartedLandModel", "ground", "(II)I"⟩
abbrev cX9_groundsOf : ByteArray := prog_11_method_9_code
abbrev yX9_groundsOf : MethodName := ⟨"PartedLandModel", "groundsOf", "(II)I"⟩
abbrev cX9_isThere : ByteArray := prog_11_method_10_code
abbrev yX9_isThere : MethodName := ⟨"PartedLandModel", "isThere", "(II)Z"⟩
abbrev cX9_isSome : ByteArray := prog_11_method_11_code
abbrev yX9_isSome : MethodName := ⟨"PartedLandModel", "isSome", "(II)Z"⟩
abbrev cX9_isLate : ByteArray := prog_11_method_12_code
abbrev yX9_isLate : MethodName := ⟨"PartedLandModel", "isLate", "(I)Z"⟩
abbrev cX9_change : ByteArray := prog_11_method_13_code
abbrev yX9_change : MethodName := ⟨"PartedLandModel", "change", "(IIIII)I"⟩
abbrev cX9_doLast : ByteArray := prog_11_method_14_code
abbrev yX9_doLast : MethodName := ⟨"PartedLandModel", "doLast", "(IIII)V"⟩
abbrev cX9_doneBy : ByteArray := prog_11_method_15_code
abbrev yX9_doneBy : MethodName := ⟨"PartedLandModel", "doneBy", "(I)I"⟩
abbrev cX9_lands : ByteArray := prog_11_method_16_code
abbrev yX9_lands : MethodName := ⟨"PartedLandModel", "lands", "(I)I"⟩
abbrev cX9_has : ByteArray := prog_11_method_17_code
abbrev yX9_has : MethodName := ⟨"PartedLandModel", "has", "(II)I"⟩
abbrev cX9_whose : ByteArray := prog_11_method_18_code
abbrev yX9_whose : MethodName := ⟨"PartedLandModel", "whose", "(II)I"⟩
abbrev cX9_from : ByteArray := prog_11_method_19_code
abbrev yX9_from : MethodName := ⟨"PartedLandModel", "from", "(II)I"⟩
abbrev cX9_headsOf : ByteArray := prog_11_method_20_code
abbrev yX9_headsOf : MethodName := ⟨"PartedLandModel", "headsOf", "(I)I"⟩
abbrev cX9_worthOf : ByteArray := prog_11_method_21_code
abbrev yX9_worthOf : MethodName := ⟨"PartedLandModel", "worthOf", "(I)I"⟩
abbrev cX9_comesBy : ByteArray := prog_11_method_22_code
abbrev yX9_comesBy : MethodName := ⟨"PartedLandModel", "comesBy", "(II)Z"⟩
abbrev cX9_heirOf : ByteArray := prog_11_method_23_code
abbrev yX9_heirOf : MethodName := ⟨"PartedLandModel", "heirOf", "(II)I"⟩
abbrev cX9_heir : ByteArray := prog_11_method_24_code
abbrev yX9_heir : MethodName := ⟨"PartedLandModel", "heir", "(II)I"⟩
abbrev cX9_write : ByteArray := prog_11_method_25_code
abbrev yX9_write : MethodName := ⟨"PartedLandModel", "write", "(JI)I"⟩
abbrev cX9_erase : ByteArray := prog_11_method_26_code
abbrev yX9_erase : MethodName := ⟨"PartedLandModel", "erase", "()I"⟩
abbrev cX9_nextToken : ByteArray := prog_11_method_27_code
abbrev yX9_nextToken : MethodName := ⟨"PartedLandModel", "nextToken", "()V"⟩
abbrev cX9_fails : ByteArray := prog_11_method_28_code
abbrev yX9_fails : MethodName := ⟨"PartedLandModel", "fails", "()Z"⟩
abbrev cX9_isOf : ByteArray := prog_11_method_29_code
abbrev yX9_isOf : MethodName := ⟨"PartedLandModel", "isOf", "(IJJJ)Z"⟩
abbrev cX9_isLine : ByteArray := prog_11_method_30_code
abbrev yX9_isLine : MethodName := ⟨"PartedLandModel", "isLine", "()Z"⟩
abbrev cX9_isRead : ByteArray := prog_11_method_31_code
abbrev yX9_isRead : MethodName := ⟨"PartedLandModel", "isRead", "()Z"⟩
abbrev cX9_fault : ByteArray := prog_11_method_32_code
abbrev yX9_fault : MethodName := ⟨"PartedLandModel", "fault", "()I"⟩
abbrev cX9_rules : ByteArray := prog_11_method_33_code
abbrev yX9_rules : MethodName := ⟨"PartedLandModel", "rules", "()I"⟩
abbrev cX9_rule : ByteArray := prog_11_method_34_code
abbrev yX9_rule : MethodName := ⟨"PartedLandModel", "rule", "(I)I"⟩
abbrev cX9_pact : ByteArray := prog_11_method_35_code
abbrev yX9_pact : MethodName := ⟨"PartedLandModel", "pact", "(IIIII)I"⟩
abbrev cX9_isPact : ByteArray := prog_11_method_36_code
abbrev yX9_isPact : MethodName := ⟨"PartedLandModel", "isPact", "(I)Z"⟩
abbrev cX9_word : ByteArray := prog_11_method_37_code
abbrev yX9_word : MethodName := ⟨"PartedLandModel", "word", "(IIZZI)I"⟩
abbrev cX9_voice : ByteArray := prog_11_method_38_code
abbrev yX9_voice : MethodName := ⟨"PartedLandModel", "voice", "(IIZI)I"⟩
abbrev cX9_latest : ByteArray := prog_11_method_39_code
abbrev yX9_latest : MethodName := ⟨"PartedLandModel", "latest", "(IIZI)I"⟩
abbrev cX9_firstYes : ByteArray := prog_11_method_40_code
abbrev yX9_firstYes : MethodName := ⟨"PartedLandModel", "firstYes", "(III)I"⟩
abbrev cX9_doWordsLet : ByteArray := prog_11_method_41_code
abbrev yX9_doWordsLet : MethodName := ⟨"PartedLandModel", "doWordsLet", "(III)Z"⟩
abbrev cX9_isBound : ByteArray := prog_11_method_42_code
abbrev yX9_isBound : MethodName := ⟨"PartedLandModel", "isBound", "(IIIII)Z"⟩
abbrev cX9_byTrade : ByteArray := prog_11_method_43_code
abbrev yX9_byTrade : MethodName := ⟨"PartedLandModel", "byTrade", "(III)I"⟩
abbrev cX9_isRecognized : ByteArray := prog_11_method_44_code
abbrev yX9_isRecognized : MethodName := ⟨"PartedLandModel", "isRecognized", "(II)Z"⟩
abbrev cX9_byRank : ByteArray := prog_11_method_45_code
abbrev yX9_byRank : MethodName := ⟨"PartedLandModel", "byRank", "(III)I"⟩
abbrev cX9_boundOf : ByteArray := prog_11_method_46_code
abbrev yX9_boundOf : MethodName := ⟨"PartedLandModel", "boundOf", "(II)I"⟩
abbrev cX9_bound : ByteArray := prog_11_method_47_code
abbrev yX9_bound : MethodName := ⟨"PartedLandModel", "bound", "(II)I"⟩
abbrev cX9_since : ByteArray := prog_11_method_48_code
abbrev yX9_since : MethodName := ⟨"PartedLandModel", "since", "(II)I"⟩
abbrev cX9_debt : ByteArray := prog_11_method_49_code
abbrev yX9_debt : MethodName := ⟨"PartedLandModel", "debt", "(IIII)I"⟩
abbrev cX9_keyOf : ByteArray := prog_11_method_50_code
abbrev yX9_keyOf : MethodName := ⟨"PartedLandModel", "keyOf", "(III)I"⟩
abbrev cX9_shareAt : ByteArray := prog_11_method_51_code
abbrev yX9_shareAt : MethodName := ⟨"PartedLandModel", "shareAt", "(II)V"⟩
abbrev cX9_abroadAt : ByteArray := prog_11_method_52_code
abbrev yX9_abroadAt : MethodName := ⟨"PartedLandModel", "abroadAt", "(II)V"⟩
abbrev cX9_beginPart : ByteArray := prog_11_method_53_code
abbrev yX9_beginPart : MethodName := ⟨"PartedLandModel", "beginPart", "(II)V"⟩
abbrev cX9_owesOf : ByteArray := prog_11_method_54_code
abbrev yX9_owesOf : MethodName := ⟨"PartedLandModel", "owesOf", "(IIII)I"⟩
abbrev cX9_owes : ByteArray := prog_11_method_55_code
abbrev yX9_owes : MethodName := ⟨"PartedLandModel", "owes", "(III)I"⟩
abbrev cX9_thing : ByteArray := prog_11_method_56_code
abbrev yX9_thing : MethodName := ⟨"PartedLandModel", "thing", "(III)I"⟩
abbrev cX9_ownsOf : ByteArray := prog_11_method_57_code
abbrev yX9_ownsOf : MethodName := ⟨"PartedLandModel", "ownsOf", "(IIII)I"⟩
abbrev cX9_owns : ByteArray := prog_11_method_58_code
abbrev yX9_owns : MethodName := ⟨"PartedLandModel", "owns", "(III)I"⟩
abbrev cX9_served : ByteArray := prog_11_method_59_code
abbrev yX9_served : MethodName := ⟨"PartedLandModel", "served", "(III)I"⟩
abbrev cX9_paid : ByteArray := prog_11_method_60_code
abbrev yX9_paid : MethodName := ⟨"PartedLandModel", "paid", "(II)I"⟩
abbrev cX9_bits : ByteArray := prog_11_method_61_code
abbrev yX9_bits : MethodName := ⟨"PartedLandModel", "bits", "(I)I"⟩
abbrev cX9_findBound : ByteArray := prog_11_method_62_code
abbrev yX9_findBound : MethodName := ⟨"PartedLandModel", "findBound", "(I)V"⟩
abbrev cX9_hangs : ByteArray := prog_11_method_63_code
abbrev yX9_hangs : MethodName := ⟨"PartedLandModel", "hangs", "(II)I"⟩
abbrev cX9_without : ByteArray := prog_11_method_64_code
abbrev yX9_without : MethodName := ⟨"PartedLandModel", "without", "(IIIZ)I"⟩
abbrev cX9_burdenOf : ByteArray := prog_11_method_65_code
abbrev yX9_burdenOf : MethodName := ⟨"PartedLandModel", "burdenOf", "(III)I"⟩
abbrev cX9_burden : ByteArray := prog_11_method_66_code
abbrev yX9_burden : MethodName := ⟨"PartedLandModel", "burden", "(III)I"⟩
abbrev cX9_best : ByteArray := prog_11_method_67_code
abbrev yX9_best : MethodName := ⟨"PartedLandModel", "best", "(II)I"⟩
abbrev cX9_count : ByteArray := prog_11_method_68_code
abbrev yX9_count : MethodName := ⟨"PartedLandModel", "count", "(I)I"⟩
/-- the words that every method is proved over -/
def gAW : List Cond := lw_tbl.filter goodWord
theorem gAW_in {w : Cond} (h : w ∈ lw_tbl) (g : goodWord w = true) : w ∈ gAW := List.mem_filter.mpr ⟨h, g⟩
theorem gAW_good : GoodIn gAW gAW := fun w h => ⟨h, good_of_word (List.mem_filter.mp h).2⟩
theorem gAW_cons {w : Cond} (h : w ∈ gAW) : GoodIn gAW (w :: gAW) := fun x hx => by
  rcases List.mem_cons.mp hx with rfl | hx
  · exact gAW_good _ h
  · exact gAW_good _ hx
theorem gAW_at {w : Cond} (i : Nat) (h : tables_1[i]? = some w) (g : goodWord w = true) : w ∈ gAW := gAW_in (List.mem_append_right _ (List.mem_of_getElem? h)) g
theorem gAW_sel {w : Cond} (i : Nat) (h : (k2_sels lw_privs)[i]? = some w) (g : goodWord w = true) : w ∈ gAW := gAW_in (List.mem_append_left _ (List.mem_of_getElem? h)) g
end
section
/-! THE WORLD: one list of cells for both systems; a memory gives what they hold. THE JUDGEMENT gG: at this place, with these locals, this stack and this memory, the machine comes to its end. -/
abbrev pMem : Type := (Nat → Nat → Int32) × (Nat → Nat → Int64)
def up1 (m : pMem) (k : Nat) (f : Nat → Int32) : pMem := (fun q => if q = k then f else m.1 q, m.2)
def up2 (m : pMem) (k : Nat) (f : Nat → Int64) : pMem := (m.1, fun q => if q = k then f else m.2 q)
def st1 (m : pMem) (k j : Nat) (v : Int32) : pMem := up1 m k (upd (m.1 k) j v)
def st2 (m : pMem) (k j : Nat) (v : Int64) : pMem := up2 m k (vp_updL (m.2 k) j v)
/-- the launch; the classes' numbers and slots; the arrays' classes; the cells' addresses; the literals' and their bytes' addresses -/
abbrev pEv : Type := Launch × (Nat → ClassId) × (Nat → Nat → Nat) × (Nat → ClassId) × (Nat → Nat) × (Nat → Nat) × (Nat → Nat)
abbrev eL (E : pEv) : Launch := E.1
abbrev eD (E : pEv) : va_G := (E.2.1, E.2.2.1)
abbrev eC (E : pEv) : Nat → ClassId := E.2.2.2.1
abbrev eA (E : pEv) : Nat → Nat := E.2.2.2.2.1
abbrev eK (E : pEv) : Nat → Nat := E.2.2.2.2.2.1
abbrev eV (E : pEv) : Nat → Nat := E.2.2.2.2.2.2
def wG (E : pEv) (m : pMem) : va_W := [
  (eA E 0, .inr (8, [.ref (eA E 3), .ref (eA E 6), .ref (eA E 8), .ref (eA E 7), .ref (eA E 4), .ref (eA E 2), .ref (eA E 5), .ref (eA E 1)])),
  (eA E 1, .inr (0, [.ref (eA E 10)])),
  (eA E 2, .inr (1, [.ref (eA E 3), .ref (eA E 11), .ref (eA E 12), .ref (eA E 13), .ref (eA E 14), .int (m.1 2 5), .int (m.1 2 6), .ref (eA E 15), .ref (eA E 16), .ref (eA E 17), .int (m.1 2 10), .ref (eA E 18)])),
  (eA E 3, .inr (2, [.ref (eA E 19), .ref (eA E 20), .int (m.1 3 2), .ref (eA E 21), .ref (eA E 22), .ref (eA E 23), .int (m.1 3 6), .ref (eA E 24), .ref (eA E 25), .ref (eA E 26), .ref (eA E 27), .ref (eA E 28), .int (m.1 3 12), .ref (eA E 29), .ref (eA E 43)])),
  (eA E 4, .inr (3, [.ref (eA E 3), .ref (eA E 6), .ref (eA E 8), .ref (eA E 7), .ref (eA E 44), .ref (eA E 45), .ref (eA E 46), .ref (eA E 47), .int (m.1 4 8), .int (m.1 4 9), .int (m.1 4 10), .int (m.1 4 11), .ref (eA E 48)])),
  (eA E 5, .inr (4, [.ref (eA E 49), .ref (eA E 50), .ref (eA E 51), .int (m.1 5 3)])),
  (eA E 6, .inr (5, [.ref (eA E 52), .int (m.1 6 1), .ref (eA E 53), .int (m.1 6 3), .int (m.1 6 4), .int (m.1 6 5), .ref (eA E 54)])),
  (eA E 7, .inr (6, [.ref (eA E 55), .ref (eA E 56), .ref (eA E 57), .ref (eA E 58), .int (m.1 7 4)])),
  (eA E 8, .inr (7, [.ref (eA E 59), .ref (eA E 60), .ref (eA E 61), .ref (eA E 62), .ref (eA E 63), .int (m.1 8 5)])),
  (eA E 9, .inr (9, [.int (m.1 9 0), .ref (eA E 64), .ref (eA E 65), .int (m.1 9 3), .ref (eA E 66), .ref (eA E 67), .int (m.1 9 6), .ref (eA E 68), .ref (eA E 69), .ref (eA E 70), .ref (eA E 71), .ref (eA E 72), .ref (eA E 73), .ref (eA E 74), .ref (eA E 75), .int (m.1 9 15), .ref (eA E 76), .int (m.1 9 17), .int (m.1 9 18), .long (m.2 9 19), .int (m.1 9 20), .int (m.1 9 21), .int (m.1 9 22), .int (m.1 9 23), .ref (eA E 77), .ref (eA E 78), .int (m.1 9 26), .ref (eA E 79), .ref (eA E 80), .ref (eA E 81), .ref (eA E 82), .ref (eA E 83), .int (m.1 9 32), .ref (eA E 84), .ref (eA E 85), .ref (eA E 86), .ref (eA E 87), .ref (eA E 88), .int (m.1 9 38), .int (m.1 9 39), .ref (eA E 89), .ref (eA E 90), .ref (eA E 91), .ref (eA E 92), .ref (eA E 93), .ref (eA E 94), .int (m.1 9 46), .ref (eA E 95), .ref (eA E 96), .ref (eA E 97), .ref (eA E 98), .int (m.1 9 51), .ref (eA E 99), .ref (eA E 100), .ref (eA E 101), .int (m.1 9 55), .ref (eA E 102), .ref (eA E 103), .ref (eA E 104), .ref (eA E 105)])),
  (eA E 10, .inl (eC E 10, 16, .inr (.inl (m.2 10)))),
  (eA E 11, .inl (eC E 11, 8, .inl (m.1 11))),
  (eA E 12, .inl (eC E 12, 8, .inl (m.1 12))),
  (eA E 13, .inl (eC E 13, 8, .inl (m.1 13))),
  (eA E 14, .inl (eC E 14, 8, .inl (m.1 14))),
  (eA E 15, .inl (eC E 15, 8, .inl (m.1 15))),
  (eA E 16, .inl (eC E 16, 8, .inl (m.1 16))),
  (eA E 17, .inl (eC E 17, 8, .inl (m.1 17))),
  (eA E 18, .inl (eC E 18, 10, .inl (m.1 18))),
  (eA E 19, .inl (eC E 19, 8, .inl (m.1 19))),
  (eA E 20, .inl (eC E 20, 8, .inl (m.1 20))),
  (eA E 21, .inl (eC E 21, 10, .inl (m.1 21))),
  (eA E 22, .inl (eC E 22, 10, .inl (m.1 22))),
  (eA E 23, .inl (eC E 23, 10, .inl (m.1 23))),
  (eA E 24, .inl (eC E 24, 12, .inl (m.1 24))),
  (eA E 25, .inl (eC E 25, 12, .inl (m.1 25))),
  (eA E 26, .inl (eC E 26, 12, .inl (m.1 26))),
  (eA E 27, .inl (eC E 27, 12, .inl (m.1 27))),
  (eA E 28, .inl (eC E 28, 12, .inl (m.1 28))),
  (eA E 29, .inl (eC E 29, 13, .inr (.inr (.inr (.inr (fun i => if i < 13 then some (eA E (30 + i)) else none)))))),
  (eA E 30, .inl (eC E 30, 10, .inl (m.1 30))),
  (eA E 31, .inl (eC E 31, 10, .inl (m.1 31))),
  (eA E 32, .inl (eC E 32, 10, .inl (m.1 32))),
  (eA E 33, .inl (eC E 33, 10, .inl (m.1 33))),
  (eA E 34, .inl (eC E 34, 10, .inl (m.1 34))),
  (eA E 35, .inl (eC E 35, 10, .inl (m.1 35))),
  (eA E 36, .inl (eC E 36, 10, .inl (m.1 36))),
  (eA E 37, .inl (eC E 37, 10, .inl (m.1 37))),
  (eA E 38, .inl (eC E 38, 10, .inl (m.1 38))),
  (eA E 39, .inl (eC E 39, 10, .inl (m.1 39))),
  (eA E 40, .inl (eC E 40, 10, .inl (m.1 40))),
  (eA E 41, .inl (eC E 41, 10, .inl (m.1 41))),
  (eA E 42, .inl (eC E 42, 10, .inl (m.1 42))),
  (eA E 43, .inl (eC E 43, 13, .inl (m.1 43))),
  (eA E 44, .inl (eC E 44, 12, .inl (m.1 44))),
  (eA E 45, .inl (eC E 45, 12, .inl (m.1 45))),
  (eA E 46, .inl (eC E 46, 12, .inl (m.1 46))),
  (eA E 47, .inl (eC E 47, 12, .inl (m.1 47))),
  (eA E 48, .inl (eC E 48, 12, .inl (m.1 48))),
  (eA E 49, .inl (eC E 49, 12, .inl (m.1 49))),
  (eA E 50, .inl (eC E 50, 12, .inl (m.1 50))),
  (eA E 51, .inl (eC E 51, 12, .inl (m.1 51))),
  (eA E 52, .inl (eC E 52, 160, .inl (m.1 52))),
  (eA E 53, .inl (eC E 53, 5, .inl (m.1 53))),
  (eA E 54, .inl (eC E 54, 5, .inl (m.1 54))),
  (eA E 55, .inl (eC E 55, 24, .inl (m.1 55))),
  (eA E 56, .inl (eC E 56, 24, .inl (m.1 56))),
  (eA E 57, .inl (eC E 57, 24, .inl (m.1 57))),
  (eA E 58, .inl (eC E 58, 24, .inl (m.1 58))),
  (eA E 59, .inl (eC E 59, 24, .inl (m.1 59))),
  (eA E 60, .inl (eC E 60, 24, .inl (m.1 60))),
  (eA E 61, .inl (eC E 61, 24, .inl (m.1 61))),
  (eA E 62, .inl (eC E 62, 24, .inl (m.1 62))),
  (eA E 63, .inl (eC E 63, 24, .inl (m.1 63))),
  (eA E 64, .inl (eC E 64, 8, .inl (m.1 64))),
  (eA E 65, .inl (eC E 65, 8, .inl (m.1 65))),
  (eA E 66, .inl (eC E 66, 10, .inl (m.1 66))),
  (eA E 67, .inl (eC E 67, 10, .inl (m.1 67))),
  (eA E 68, .inl (eC E 68, 12, .inl (m.1 68))),
  (eA E 69, .inl (eC E 69, 12, .inl (m.1 69))),
  (eA E 70, .inl (eC E 70, 12, .inl (m.1 70))),
  (eA E 71, .inl (eC E 71, 12, .inl (m.1 71))),
  (eA E 72, .inl (eC E 72, 12, .inl (m.1 72))),
  (eA E 73, .inl (eC E 73, 12, .inl (m.1 73))),
  (eA E 74, .inl (eC E 74, 104, .inl (m.1 74))),
  (eA E 75, .inl (eC E 75, 13, .inl (m.1 75))),
  (eA E 76, .inl (eC E 76, 160, .inl (m.1 76))),
  (eA E 77, .inl (eC E 77, 5, .inl (m.1 77))),
  (eA E 78, .inl (eC E 78, 5, .inl (m.1 78))),
  (eA E 79, .inl (eC E 79, 12, .inl (m.1 79))),
  (eA E 80, .inl (eC E 80, 12, .inl (m.1 80))),
  (eA E 81, .inl (eC E 81, 12, .inl (m.1 81))),
  (eA E 82, .inl (eC E 82, 12, .inl (m.1 82))),
  (eA E 83, .inl (eC E 83, 12, .inl (m.1 83))),
  (eA E 84, .inl (eC E 84, 24, .inl (m.1 84))),
  (eA E 85, .inl (eC E 85, 24, .inl (m.1 85))),
  (eA E 86, .inl (eC E 86, 24, .inl (m.1 86))),
  (eA E 87, .inl (eC E 87, 24, .inl (m.1 87))),
  (eA E 88, .inl (eC E 88, 24, .inl (m.1 88))),
  (eA E 89, .inl (eC E 89, 24, .inl (m.1 89))),
  (eA E 90, .inl (eC E 90, 24, .inl (m.1 90))),
  (eA E 91, .inl (eC E 91, 24, .inl (m.1 91))),
  (eA E 92, .inl (eC E 92, 24, .inl (m.1 92))),
  (eA E 93, .inl (eC E 93, 12, .inl (m.1 93))),
  (eA E 94, .inl (eC E 94, 12, .inl (m.1 94))),
  (eA E 95, .inl (eC E 95, 8, .inl (m.1 95))),
  (eA E 96, .inl (eC E 96, 8, .inl (m.1 96))),
  (eA E 97, .inl (eC E 97, 8, .inl (m.1 97))),
  (eA E 98, .inl (eC E 98, 8, .inl (m.1 98))),
  (eA E 99, .inl (eC E 99, 8, .inl (m.1 99))),
  (eA E 100, .inl (eC E 100, 8, .inl (m.1 100))),
  (eA E 101, .inl (eC E 101, 8, .inl (m.1 101))),
  (eA E 102, .inl (eC E 102, 12, .inl (m.1 102))),
  (eA E 103, .inl (eC E 103, 12, .inl (m.1 103))),
  (eA E 104, .inl (eC E 104, 12, .inl (m.1 104))),
  (eA E 105, .inl (eC E 105, 10, .inl (m.1 105)))]
def tG (E : pEv) : List (ClassId × FieldType) := [(eC E 10, .long), (eC E 11, .int), (eC E 12, .int), (eC E 13, .int), (eC E 14, .int), (eC E 15, .int), (eC E 16, .int), (eC E 17, .int), (eC E 18, .int), (eC E 19, .int), (eC E 20, .int), (eC E 21, .int), (eC E 22, .int), (eC E 23, .int), (eC E 24, .int), (eC E 25, .int), (eC E 26, .int), (eC E 27, .int), (eC E 28, .int), (eC E 29, .array .int), (eC E 30, .int), (eC E 31, .int), (eC E 32, .int), (eC E 33, .int), (eC E 34, .int), (eC E 35, .int), (eC E 36, .int), (eC E 37, .int), (eC E 38, .int), (eC E 39, .int), (eC E 40, .int), (eC E 41, .int), (eC E 42, .int), (eC E 43, .int), (eC E 44, .int), (eC E 45, .int), (eC E 46, .int), (eC E 47, .int), (eC E 48, .int), (eC E 49, .int), (eC E 50, .int), (eC E 51, .int), (eC E 52, .int), (eC E 53, .int), (eC E 54, .int), (eC E 55, .int), (eC E 56, .int), (eC E 57, .boolean), (eC E 58, .int), (eC E 59, .int), (eC E 60, .int), (eC E 61, .boolean), (eC E 62, .boolean), (eC E 63, .int), (eC E 64, .int), (eC E 65, .int), (eC E 66, .int), (eC E 67, .int), (eC E 68, .int), (eC E 69, .int), (eC E 70, .int), (eC E 71, .int), (eC E 72, .int), (eC E 73, .int), (eC E 74, .int), (eC E 75, .int), (eC E 76, .int), (eC E 77, .int), (eC E 78, .int), (eC E 79, .int), (eC E 80, .int), (eC E 81, .int), (eC E 82, .int), (eC E 83, .int), (eC E 84, .int), (eC E 85, .int), (eC E 86, .int), (eC E 87, .boolean), (eC E 88, .boolean), (eC E 89, .int), (eC E 90, .int), (eC E 91, .int), (eC E 92, .boolean), (eC E 93, .boolean), (eC E 94, .int), (eC E 95, .int), (eC E 96, .int), (eC E 97, .int), (eC E 98, .int), (eC E 99, .int), (eC E 100, .int), (eC E 101, .int), (eC E 102, .int), (eC E 103, .int), (eC E 104, .int), (eC E 105, .int)]
theorem wG_adr (E : pEv) (m : pMem) : (wG E m).map Prod.fst = (List.range 106).map (eA E) := rfl
def FA (E : pEv) : Nat → Prop := fun q => ∃ k, k < 106 ∧ q = eA E k
def gDs (E : pEv) : Prop := ∀ i j, i < 106 → j < 106 → eA E i = eA E j → i = j
theorem wG_at {E : pEv} {m : pMem} {k : Nat} {q : Nat × va_E} (h : (wG E m)[k]? = some q) : k < 106 ∧ q.1 = eA E k := by
  have h1 : ((wG E m).map Prod.fst)[k]? = some q.1 := by rw [List.getElem?_map, h]; rfl
  rw [wG_adr, List.getElem?_map] at h1
  by_cases hk : k < 106
  · rw [List.getElem?_range hk] at h1
    exact ⟨hk, (Option.some.inj h1).symm⟩
  · rw [List.getElem?_eq_none (by rw [List.length_range]; omega)] at h1
    cases h1
theorem wG_D {E : pEv} (h : gDs E) {A : Nat → Prop} (hA : ∀ k, k < 106 → A (eA E k)) (m : pMem) : va_D A (wG E m) := by
  refine ⟨fun i j p q hi hj e => ?_, fun k q hk => ?_⟩
  · obtain ⟨a1, a2⟩ := wG_at hi
    obtain ⟨b1, b2⟩ := wG_at hj
    exact h i j a1 b1 (by rw [← a2, ← b2]; exact e)
  · obtain ⟨a1, a2⟩ := wG_at hk
    rw [a2]
    exact hA k a1
abbrev gNs : List (String × Nat × MethodName × String) := [("PartedLand", 18, ⟨"PartedLand$Text", "<init>", "()V"⟩, "PartedLand"), ("PartedLand", 25, ⟨"PartedLand$Words", "<init>", "()V"⟩, "PartedLand"), ("PartedLand", 32, ⟨"PartedLand$Voices", "<init>", "()V"⟩, "PartedLand"), ("PartedLand", 57, ⟨"PartedLand$Pensioners", "<init>", "()V"⟩, "PartedLand"), ("PartedLand", 64, ⟨"PartedLand$Days", "<init>", "()V"⟩, "PartedLand"), ("PartedLand$History", 64, ⟨"PartedLand", "isIn", "(II)Z"⟩, "PartedLand"), ("PartedLand$Pacts", 120, ⟨"PartedLand", "isIn", "(II)Z"⟩, "PartedLand"), ("PartedLand$Words", 32, ⟨"PartedLand", "isIn", "(II)Z"⟩, "PartedLand")]
abbrev gSr : List (Nat × String) := [(57, "follow"), (67, "clean"), (69, "silence"), (99, "no"), (101, "yes"), (74, "within"), (79, "share"), (81, "heads"), (83, "worth"), (85, "equal"), (91, "pay"), (93, "served"), (95, "lives"), (97, "born")]
abbrev gSl : List Nat := [6, 5, 7, 2, 3, 6, 5, 5, 5, 5, 3, 6, 5, 4]
abbrev gSb : List (List Int32) := [[102, 111, 108, 108, 111, 119], [99, 108, 101, 97, 110], [115, 105, 108, 101, 110, 99, 101], [110, 111], [121, 101, 115], [119, 105, 116, 104, 105, 110], [115, 104, 97, 114, 101], [104, 101, 97, 100, 115], [119, 111, 114, 116, 104], [101, 113, 117, 97, 108], [112, 97, 121], [115, 101, 114, 118, 101, 100], [108, 105, 118, 101, 115], [98, 111, 114, 110]]
/-- what stays: literals, their bytes, the JDK's statics -/
def gST (E : pEv) (U : State) : Prop := (∀ (i : Nat) (q : Nat × String), gSr[i]? = some q → vk_R "PartedLand$Text" q.1 q.2 (eK E i) U) ∧ vk_S 14 gSl gSb (eK E) (eV E) (FA E) U U.heap ∧ va_Z "java/lang/String" "COMPACT_STRINGS" "Z" (.int 1) (FA E) U U.heap ∧ va_Zq "jdk/internal/util/Preconditions" "SIOOBE_FORMATTER" "Ljava/util/function/BiFunction;" (FA E) U U.heap
def gKK (E : pEv) (U : State) : Prop := va_K (eD E) gcl (tG E) U ∧ (∀ q, q ∈ gNs → va_Nw (.methodLinkNest q.1 q.2.1 q.2.2.1 q.2.2.2) U) ∧ gST E U
theorem gST.moved {E : pEv} {s U : State} {A : Nat → Prop} {H : Heap} {locs : List Loc} (h : gST E s) (hW : s.WarmedH U.vm) (hH : U.heap = H) (hS : va_S A s.heap H locs) (hA : ∀ a, a < s.heap.size → A a → FA E a) : gST E U := by
  have hk : ∀ a : Nat, a < s.heap.size → ¬ FA E a → U.heap[a]? = s.heap[a]? := fun a h1 h2 => by rw [hH]; exact hS.2.1 a h1 (fun z => h2 (hA a h1 z))
  exact ⟨fun i q hq => vk_R.warm hW (h.1 i q hq), vk_S.kept (vk_S.moved hW.alike h.2.1) hk, va_Z.kept (va_Z.moved hW.alike h.2.2.1) hk, va_Zq.kept (va_Zq.moved hW.alike h.2.2.2) hk⟩
theorem gKK.moved {E : pEv} {s U : State} {A : Nat → Prop} {H : Heap} {locs : List Loc} (h : gKK E s) (hW : s.WarmedH U.vm) (hH : U.heap = H) (hS : va_S A s.heap H locs) (hA : ∀ a, a < s.heap.size → A a → FA E a) : gKK E U :=
  ⟨va_K.moved hW.alike h.1, fun q hq => va_Nw.warmM hW (h.2.1 q hq), h.2.2.moved hW hH hS hA⟩
theorem gKK.calling {E : pEv} {U : State} {g : JFrame} {mk : MethodId} {a : Array Value} (h : gKK E U) : gKK E (U.calling g mk a) :=
  ⟨va_K.moved (u := U) (U := U.calling g mk a) (Vm.Alike.refl U.vm) h.1, fun q hq => va_Nw.same rfl (u := U) (U := U.calling g mk a) rfl (h.2.1 q hq), fun i q hq => vk_R.same (u := U) (U := U.calling g mk a) rfl (h.2.2.1 i q hq), vk_S.moved (u := U) (U := U.calling g mk a) (Vm.Alike.refl U.vm) h.2.2.2.1, va_Z.moved (u := U) (U := U.calling g mk a) (Vm.Alike.refl U.vm) h.2.2.2.2.1, va_Zq.moved (u := U) (U := U.calling g mk a) (Vm.Alike.refl U.vm) h.2.2.2.2.2⟩
/-- the world with a memory -/
def gWd (E : pEv) (m : pMem) (U : State) : Prop := va_P (eD E) gcl (wG E m) U.heap ∧ gKK E U ∧ gDs E
/-- a method: bytes, class, locals, type of the answer, room, cells and slots used so far -/
abbrev pKi : Type := ByteArray × String × Nat × Option FieldType × Room × Nat × Nat
/-- what may be written; what else holds; the end -/
abbrev pZt : Type := (State → Nat → Prop) × (State → Array Value → Prop) × (State → Array Value → List Frame → State → Prop)
def gCx (E : pEv) (K : pKi) (Z : pZt) (p : Program) (s : State) (mm : MethodId) (args : Array Value) (meth : Method) (c : Code) : Prop :=
  p.tables.exec = Jvm.exec ∧ c.code = K.1 ∧ c.maxLocals = K.2.2.1 ∧ s.vm.findClass K.2.1 = some mm.cls ∧ (∀ w, w ∈ gAW → w.before args s = true) ∧ meth.sig.returnType = K.2.2.2.1 ∧ meth.locks = false ∧ gKK E s ∧ gDs E ∧ (∀ k, k < 106 → Z.1 s (eA E k)) ∧ (∀ a, a < s.heap.size → Z.1 s a → FA E a) ∧ Z.2.1 s args
def gG (E : pEv) (K : pKi) (Z : pZt) (pc : Nat) (lv : List (Nat × Value)) (st : List Value) (m : pMem) : Prop :=
  ∀ (p : Program) (e : Env) (s : State) (mm : MethodId) (args : Array Value) (below : List Frame) (meth : Method) (c : Code) (H : Heap) (locs : List Loc) (ls : Array Slot),
    gCx E K Z p s mm args meth c → lv_has ls K.2.2.1 lv → va_P (eD E) gcl (wG E m) H → va_S (Z.1 s) s.heap H locs →
    W p (eL E) e K.2.2.2.2.1 s mm args below meth c H locs K.2.2.2.2.2.1 K.2.2.2.2.2.2 (Z.2.2 s args below) (F0 mm pc ls st)
section GG
variable {E : pEv} {K : pKi} {Z : pZt} {pc : Nat} {lv : List (Nat × Value)} {st : List Value} {m : pMem}
theorem g_iconst {n : Int} {v : Int32} (hd : decode K.1 pc = .ok (.iconst n, 1)) (hv : Int32.ofInt n = v) (h : gG E K Z (pc + 1) lv (.int v :: st) m) : gG E K Z pc lv (st) m := by
  intro p e s mm args below meth c H locs ls C hl hP hS
  exact lv_iconst C.1 C.2.1 hd hv (h p e s mm args below meth c H locs ls C hl hP hS)
theorem g_bipush {n : Int} {v : Int32} (hd : decode K.1 pc = .ok (.bipush n, 2)) (hv : (Int8.ofInt n).toInt32 = v) (h : gG E K Z (pc + 2) lv (.int v :: st) m) : gG E K Z pc lv (st) m := by
  intro p e s mm args below meth c H locs ls C hl hP hS
  exact lv_bipush C.1 C.2.1 hd hv (h p e s mm args below meth c H locs ls C hl hP hS)
theorem g_sipush {n : Int} {v : Int32} (hd : decode K.1 pc = .ok (.sipush n, 3)) (hv : (Int16.ofInt n).toInt32 = v) (h : gG E K Z (pc + 3) lv (.int v :: st) m) : gG E K Z pc lv (st) m := by
  intro p e s mm args below meth c H locs ls C hl hP hS
  exact lv_sipush C.1 C.2.1 hd hv (h p e s mm args below meth c H locs ls C hl hP hS)
theorem g_lconst {n : Fin 2} {v : Int64} (hd : decode K.1 pc = .ok (.lconst n, 1)) (hv : Int64.ofNat (n : Nat) = v) (h : gG E K Z (pc + 1) lv (.long v :: st) m) : gG E K Z pc lv (st) m := by
  intro p e s mm args below meth c H locs ls C hl hP hS
  exact lv_lconst C.1 C.2.1 hd hv (h p e s mm args below meth c H locs ls C hl hP hS)
theorem g_iload_n {k : Fin 4} {i q : Nat} {x : Int32} (hd : decode K.1 pc = .ok (.iload_n k, 1)) (hi : (k : Nat) = i) (hq : lv[q]? = some (i, .int x)) (h : gG E K Z (pc + 1) lv (.int x :: st) m) : gG E K Z pc lv (st) m := by
  intro p e s mm args below meth c H locs ls C hl hP hS
  exact lv_iload_n C.1 C.2.1 hd hi (lv_at hl q hq) (h p e s mm args below meth c H locs ls C hl hP hS)
theorem g_iload {i q : Nat} {x : Int32} (hd : decode K.1 pc = .ok (.iload i, 2)) (hq : lv[q]? = some (i, .int x)) (h : gG E K Z (pc + 2) lv (.int x :: st) m) : gG E K Z pc lv (st) m := by
  intro p e s mm args below meth c H locs ls C hl hP hS
  exact lv_iload C.1 C.2.1 hd (lv_at hl q hq) (h p e s mm args below meth c H locs ls C hl hP hS)
theorem g_lload_n {k : Fin 4} {i q : Nat} {x : Int64} (hd : decode K.1 pc = .ok (.lload_n k, 1)) (hi : (k : Nat) = i) (hq : lv[q]? = some (i, .long x)) (h : gG E K Z (pc + 1) lv (.long x :: st) m) : gG E K Z pc lv (st) m := by
  intro p e s mm args below meth c H locs ls C hl hP hS
  exact lv_lload_n C.1 C.2.1 hd hi (lv_at hl q hq) (h p e s mm args below meth c H locs ls C hl hP hS)
theorem g_lload {i q : Nat} {x : Int64} (hd : decode K.1 pc = .ok (.lload i, 2)) (hq : lv[q]? = some (i, .long x)) (h : gG E K Z (pc + 2) lv (.long x :: st) m) : gG E K Z pc lv (st) m := by
  intro p e s mm args below meth c H locs ls C hl hP hS
  exact lv_lload C.1 C.2.1 hd (lv_at hl q hq) (h p e s mm args below meth c H locs ls C hl hP hS)
theorem g_aload_n {k : Fin 4} {i q : Nat} {x : Nat} (hd : decode K.1 pc = .ok (.aload_n k, 1)) (hi : (k : Nat) = i) (hq : lv[q]? = some (i, .ref x)) (h : gG E K Z (pc + 1) lv (.ref x :: st) m) : gG E K Z pc lv (st) m := by
  intro p e s mm args below meth c H locs ls C hl hP hS
  exact lv_aload_n C.1 C.2.1 hd hi (lv_at hl q hq) (h p e s mm args below meth c H locs ls C hl hP hS)
theorem g_aload {i q : Nat} {x : Nat} (hd : decode K.1 pc = .ok (.aload i, 2)) (hq : lv[q]? = some (i, .ref x)) (h : gG E K Z (pc + 2) lv (.ref x :: st) m) : gG E K Z pc lv (st) m := by
  intro p e s mm args below meth c H locs ls C hl hP hS
  exact lv_aload C.1 C.2.1 hd (lv_at hl q hq) (h p e s mm args below meth c H locs ls C hl hP hS)
theorem g_iadd {x y : Int32} (hd : decode K.1 pc = .ok (.iadd, 1)) (h : gG E K Z (pc + 1) lv (.int (x + y) :: st) m) : gG E K Z pc lv (.int y :: .int x :: st) m := by
  intro p e s mm args below meth c H locs ls C hl hP hS
  exact lv_iadd C.1 C.2.1 hd (h p e s mm args below meth c H locs ls C hl hP hS)
theorem g_isub {x y : Int32} (hd : decode K.1 pc = .ok (.isub, 1)) (h : gG E K Z (pc + 1) lv (.int (x - y) :: st) m) : gG E K Z pc lv (.int y :: .int x :: st) m := by
  intro p e s mm args below meth c H locs ls C hl hP hS
  exact lv_isub C.1 C.2.1 hd (h p e s mm args below meth c H locs ls C hl hP hS)
theorem g_imul {x y : Int32} (hd : decode K.1 pc = .ok (.imul, 1)) (h : gG E K Z (pc + 1) lv (.int (x * y) :: st) m) : gG E K Z pc lv (.int y :: .int x :: st) m := by
  intro p e s mm args below meth c H locs ls C hl hP hS
  exact lv_imul C.1 C.2.1 hd (h p e s mm args below meth c H locs ls C hl hP hS)
theorem g_iand {x y : Int32} (hd : decode K.1 pc = .ok (.iand, 1)) (h : gG E K Z (pc + 1) lv (.int (x &&& y) :: st) m) : gG E K Z pc lv (.int y :: .int x :: st) m := by
  intro p e s mm args below meth c H locs ls C hl hP hS
  exact lv_iand C.1 C.2.1 hd (h p e s mm args below meth c H locs ls C hl hP hS)
theorem g_ior {x y : Int32} (hd : decode K.1 pc = .ok (.ior, 1)) (h : gG E K Z (pc + 1) lv (.int (x ||| y) :: st) m) : gG E K Z pc lv (.int y :: .int x :: st) m := by
  intro p e s mm args below meth c H locs ls C hl hP hS
  exact lv_ior C.1 C.2.1 hd (h p e s mm args below meth c H locs ls C hl hP hS)
theorem g_ixor {x y : Int32} (hd : decode K.1 pc = .ok (.ixor, 1)) (h : gG E K Z (pc + 1) lv (.int (x ^^^ y) :: st) m) : gG E K Z pc lv (.int y :: .int x :: st) m := by
  intro p e s mm args below meth c H locs ls C hl hP hS
  exact lv_ixor C.1 C.2.1 hd (h p e s mm args below meth c H locs ls C hl hP hS)
theorem g_ishl {x y : Int32} (hd : decode K.1 pc = .ok (.ishl, 1)) (h : gG E K Z (pc + 1) lv (.int (x <<< (y &&& 31)) :: st) m) : gG E K Z pc lv (.int y :: .int x :: st) m := by
  intro p e s mm args below meth c H locs ls C hl hP hS
  exact lv_ishl C.1 C.2.1 hd (h p e s mm args below meth c H locs ls C hl hP hS)
theorem g_ishr {x y : Int32} (hd : decode K.1 pc = .ok (.ishr, 1)) (h : gG E K Z (pc + 1) lv (.int (x >>> (y &&& 31)) :: st) m) : gG E K Z pc lv (.int y :: .int x :: st) m := by
  intro p e s mm args below meth c H locs ls C hl hP hS
  exact lv_ishr C.1 C.2.1 hd (h p e s mm args below meth c H locs ls C hl hP hS)
theorem g_iushr {x y : Int32} (hd : decode K.1 pc = .ok (.iushr, 1)) (h : gG E K Z (pc + 1) lv (.int ((x.toUInt32 >>> (y.toUInt32 &&& Int32.toUInt32 31)).toInt32) :: st) m) : gG E K Z pc lv (.int y :: .int x :: st) m := by
  intro p e s mm args below meth c H locs ls C hl hP hS
  exact lv_iushr C.1 C.2.1 hd rfl (h p e s mm args below meth c H locs ls C hl hP hS)
theorem g_idiv {x y : Int32} (hd : decode K.1 pc = .ok (.idiv, 1)) (hne : ¬ y = 0) (h : gG E K Z (pc + 1) lv (.int (x / y) :: st) m) : gG E K Z pc lv (.int y :: .int x :: st) m := by
  intro p e s mm args below meth c H locs ls C hl hP hS
  exact lv_idiv C.1 C.2.1 hd hne (h p e s mm args below meth c H locs ls C hl hP hS)
theorem g_ladd {x y : Int64} (hd : decode K.1 pc = .ok (.ladd, 1)) (h : gG E K Z (pc + 1) lv (.long (x + y) :: st) m) : gG E K Z pc lv (.long y :: .long x :: st) m := by
  intro p e s mm args below meth c H locs ls C hl hP hS
  exact lv_ladd C.1 C.2.1 hd (h p e s mm args below meth c H locs ls C hl hP hS)
theorem g_lsub {x y : Int64} (hd : decode K.1 pc = .ok (.lsub, 1)) (h : gG E K Z (pc + 1) lv (.long (x - y) :: st) m) : gG E K Z pc lv (.long y :: .long x :: st) m := by
  intro p e s mm args below meth c H locs ls C hl hP hS
  exact lv_lsub C.1 C.2.1 hd (h p e s mm args below meth c H locs ls C hl hP hS)
theorem g_lmul {x y : Int64} (hd : decode K.1 pc = .ok (.lmul, 1)) (h : gG E K Z (pc + 1) lv (.long (x * y) :: st) m) : gG E K Z pc lv (.long y :: .long x :: st) m := by
  intro p e s mm args below meth c H locs ls C hl hP hS
  exact lv_lmul C.1 C.2.1 hd (h p e s mm args below meth c H locs ls C hl hP hS)
theorem g_land {x y : Int64} (hd : decode K.1 pc = .ok (.land, 1)) (h : gG E K Z (pc + 1) lv (.long (x &&& y) :: st) m) : gG E K Z pc lv (.long y :: .long x :: st) m := by
  intro p e s mm args below meth c H locs ls C hl hP hS
  exact lv_land C.1 C.2.1 hd (h p e s mm args below meth c H locs ls C hl hP hS)
theorem g_lor {x y : Int64} (hd : decode K.1 pc = .ok (.lor, 1)) (h : gG E K Z (pc + 1) lv (.long (x ||| y) :: st) m) : gG E K Z pc lv (.long y :: .long x :: st) m := by
  intro p e s mm args below meth c H locs ls C hl hP hS
  exact lv_lor C.1 C.2.1 hd (h p e s mm args below meth c H locs ls C hl hP hS)
theorem g_lshl {x : Int64} {y : Int32} (hd : decode K.1 pc = .ok (.lshl, 1)) (h : gG E K Z (pc + 1) lv (.long (x <<< (y.toInt64 &&& 63)) :: st) m) : gG E K Z pc lv (.int y :: .long x :: st) m := by
  intro p e s mm args below meth c H locs ls C hl hP hS
  exact lv_lshl C.1 C.2.1 hd rfl (h p e s mm args below meth c H locs ls C hl hP hS)
theorem g_lshr {x : Int64} {y : Int32} (hd : decode K.1 pc = .ok (.lshr, 1)) (h : gG E K Z (pc + 1) lv (.long (x >>> (y.toInt64 &&& 63)) :: st) m) : gG E K Z pc lv (.int y :: .long x :: st) m := by
  intro p e s mm args below meth c H locs ls C hl hP hS
  exact lv_lshr C.1 C.2.1 hd rfl (h p e s mm args below meth c H locs ls C hl hP hS)
theorem g_i2l {x : Int32} (hd : decode K.1 pc = .ok (.i2l, 1)) (h : gG E K Z (pc + 1) lv (.long x.toInt64 :: st) m) : gG E K Z pc lv (.int x :: st) m := by
  intro p e s mm args below meth c H locs ls C hl hP hS
  exact lv_i2l C.1 C.2.1 hd rfl (h p e s mm args below meth c H locs ls C hl hP hS)
theorem g_l2i {x : Int64} (hd : decode K.1 pc = .ok (.l2i, 1)) (h : gG E K Z (pc + 1) lv (.int x.toInt32 :: st) m) : gG E K Z pc lv (.long x :: st) m := by
  intro p e s mm args below meth c H locs ls C hl hP hS
  exact lv_l2i C.1 C.2.1 hd rfl (h p e s mm args below meth c H locs ls C hl hP hS)
theorem g_lcmp {x y : Int64} (hd : decode K.1 pc = .ok (.lcmp, 1)) (h : gG E K Z (pc + 1) lv (.int (lg_cmp x y) :: st) m) : gG E K Z pc lv (.long y :: .long x :: st) m := by
  intro p e s mm args below meth c H locs ls C hl hP hS
  exact W.lcmp C.1 C.2.1 hd (h p e s mm args below meth c H locs ls C hl hP hS)
theorem g_dup {v : Value} (hd : decode K.1 pc = .ok (.dup, 1)) (hv : v.category = 1) (h : gG E K Z (pc + 1) lv (v :: v :: st) m) : gG E K Z pc lv (v :: st) m := by
  intro p e s mm args below meth c H locs ls C hl hP hS
  exact lv_dup C.1 C.2.1 hd hv (h p e s mm args below meth c H locs ls C hl hP hS)
theorem g_pop {v : Value} (hd : decode K.1 pc = .ok (.pop, 1)) (hv : v.category = 1) (h : gG E K Z (pc + 1) lv (st) m) : gG E K Z pc lv (v :: st) m := by
  intro p e s mm args below meth c H locs ls C hl hP hS
  exact lv_pop C.1 C.2.1 hd hv (h p e s mm args below meth c H locs ls C hl hP hS)
theorem g_dup2 {v u : Value} (hd : decode K.1 pc = .ok (.dup2, 1)) (hv : v.category = 1) (hu : u.category = 1) (h : gG E K Z (pc + 1) lv (v :: u :: v :: u :: st) m) : gG E K Z pc lv (v :: u :: st) m := by
  intro p e s mm args below meth c H locs ls C hl hP hS
  exact lv_dup2_11 C.1 C.2.1 hd hv hu (h p e s mm args below meth c H locs ls C hl hP hS)
theorem g_ldc {i : Nat} {v : Int32} (hd : decode K.1 pc = .ok (.ldc i, 2)) (hw : Cond.constant K.2.1 i v ∈ gAW) (h : gG E K Z (pc + 2) lv (.int v :: st) m) : gG E K Z pc lv (st) m := by
  intro p e s mm args below meth c H locs ls C hl hP hS
  exact lv_ldc C.1 C.2.1 C.2.2.2.1 (C.2.2.2.2.1 _ hw) hd (h p e s mm args below meth c H locs ls C hl hP hS)
theorem g_ldc_w {i : Nat} {v : Int32} (hd : decode K.1 pc = .ok (.ldc_w i, 3)) (hw : Cond.constant K.2.1 i v ∈ gAW) (h : gG E K Z (pc + 3) lv (.int v :: st) m) : gG E K Z pc lv (st) m := by
  intro p e s mm args below meth c H locs ls C hl hP hS
  exact lv_ldcw C.1 C.2.1 C.2.2.2.1 (C.2.2.2.2.1 _ hw) hd (h p e s mm args below meth c H locs ls C hl hP hS)
theorem g_ldc2 {i : Nat} {v : Int64} (hd : decode K.1 pc = .ok (.ldc2_w i, 3)) (hw : Cond.constantLong K.2.1 i v ∈ gAW) (h : gG E K Z (pc + 3) lv (.long v :: st) m) : gG E K Z pc lv (st) m := by
  intro p e s mm args below meth c H locs ls C hl hP hS
  exact lv_ldc2 C.1 C.2.1 C.2.2.2.1 (C.2.2.2.2.1 _ hw) hd (h p e s mm args below meth c H locs ls C hl hP hS)
theorem g_ldcS {i k : Nat} {tx : String} (hd : decode K.1 pc = .ok (.ldc i, 2)) (ho : K.2.1 = "PartedLand$Text") (hk : gSr[k]? = some (i, tx)) (h : gG E K Z (pc + 2) lv (.ref (eK E k) :: st) m) : gG E K Z pc lv (st) m := by
  intro p e s mm args below meth c H locs ls C hl hP hS
  exact va_ldcS C.1 C.2.1 C.2.2.2.1 (by rw [ho]; exact C.2.2.2.2.2.2.2.1.2.2.1 k (i, tx) hk) hd (h p e s mm args below meth c H locs ls C hl hP hS)
theorem g_istore_n {lv' : List (Nat × Value)} {k : Fin 4} {i : Nat} {x : Int32} (hd : decode K.1 pc = .ok (.istore_n k, 1)) (hi : (k : Nat) = i) (hn : i < K.2.2.1) (hv : (i, Value.int x) :: lv.filter (fun q => !(q.1 == i) && !(q.1 + 1 == i && q.2.category == 2)) = lv') (h : gG E K Z (pc + 1) lv' st m) : gG E K Z pc lv (.int x :: st) m := by
  intro p e s mm args below meth c H locs ls C hl hP hS
  exact lv_istore_n C.1 C.2.1 hd hi hl hn hv (fun ls hl => h p e s mm args below meth c H locs ls C hl hP hS)
theorem g_istore {lv' : List (Nat × Value)} {i : Nat} {x : Int32} (hd : decode K.1 pc = .ok (.istore i, 2)) (hn : i < K.2.2.1) (hv : (i, Value.int x) :: lv.filter (fun q => !(q.1 == i) && !(q.1 + 1 == i && q.2.category == 2)) = lv') (h : gG E K Z (pc + 2) lv' st m) : gG E K Z pc lv (.int x :: st) m := by
  intro p e s mm args below meth c H locs ls C hl hP hS
  exact lv_istore C.1 C.2.1 hd hl hn hv (fun ls hl => h p e s mm args below meth c H locs ls C hl hP hS)
theorem g_lstore_n {lv' : List (Nat × Value)} {k : Fin 4} {i : Nat} {x : Int64} (hd : decode K.1 pc = .ok (.lstore_n k, 1)) (hi : (k : Nat) = i) (hn : i + 1 < K.2.2.1) (hv : (i, Value.long x) :: lv.filter (fun q => !(q.1 == i) && (!(q.1 == i + 1) && !(q.1 + 1 == i && q.2.category == 2))) = lv') (h : gG E K Z (pc + 1) lv' st m) : gG E K Z pc lv (.long x :: st) m := by
  intro p e s mm args below meth c H locs ls C hl hP hS
  exact lv_lstore_n C.1 C.2.1 hd hi hl hn hv (fun ls hl => h p e s mm args below meth c H locs ls C hl hP hS)
theorem g_lstore {lv' : List (Nat × Value)} {i : Nat} {x : Int64} (hd : decode K.1 pc = .ok (.lstore i, 2)) (hn : i + 1 < K.2.2.1) (hv : (i, Value.long x) :: lv.filter (fun q => !(q.1 == i) && (!(q.1 == i + 1) && !(q.1 + 1 == i && q.2.category == 2))) = lv') (h : gG E K Z (pc + 2) lv' st m) : gG E K Z pc lv (.long x :: st) m := by
  intro p e s mm args below meth c H locs ls C hl hP hS
  exact lv_lstore C.1 C.2.1 hd hl hn hv (fun ls hl => h p e s mm args below meth c H locs ls C hl hP hS)
theorem g_astore_n {lv' : List (Nat × Value)} {k : Fin 4} {i : Nat} {x : Nat} (hd : decode K.1 pc = .ok (.astore_n k, 1)) (hi : (k : Nat) = i) (hn : i < K.2.2.1) (hv : (i, Value.ref x) :: lv.filter (fun q => !(q.1 == i) && !(q.1 + 1 == i && q.2.category == 2)) = lv') (h : gG E K Z (pc + 1) lv' st m) : gG E K Z pc lv (.ref x :: st) m := by
  intro p e s mm args below meth c H locs ls C hl hP hS
  exact lv_astore_n C.1 C.2.1 hd hi hl hn hv (fun ls hl => h p e s mm args below meth c H locs ls C hl hP hS)
theorem g_astore {lv' : List (Nat × Value)} {i : Nat} {x : Nat} (hd : decode K.1 pc = .ok (.astore i, 2)) (hn : i < K.2.2.1) (hv : (i, Value.ref x) :: lv.filter (fun q => !(q.1 == i) && !(q.1 + 1 == i && q.2.category == 2)) = lv') (h : gG E K Z (pc + 2) lv' st m) : gG E K Z pc lv (.ref x :: st) m := by
  intro p e s mm args below meth c H locs ls C hl hP hS
  exact lv_astore C.1 C.2.1 hd hl hn hv (fun ls hl => h p e s mm args below meth c H locs ls C hl hP hS)
theorem g_iinc {lv' : List (Nat × Value)} {i q : Nat} {n : Int} {x v : Int32} (hd : decode K.1 pc = .ok (.iinc i n, 3)) (hq : lv[q]? = some (i, .int x)) (hx : x + Int32.ofInt n = v) (hn : i < K.2.2.1) (hv : (i, Value.int v) :: lv.filter (fun q => !(q.1 == i) && !(q.1 + 1 == i && q.2.category == 2)) = lv') (h : gG E K Z (pc + 3) lv' st m) : gG E K Z pc lv (st) m := by
  intro p e s mm args below meth c H locs ls C hl hP hS
  exact lv_iinc C.1 C.2.1 hd hl hq hx hn hv (fun ls hl => h p e s mm args below meth c H locs ls C hl hP hS)
theorem g_if_eq {x : Int32} {off : Int} {tgt : Nat} (hd : decode K.1 pc = .ok (.ifCond .eq off, 3)) (ht : (pc : Int) + off = (tgt : Int)) (kt : x = 0 → gG E K Z tgt lv st m) (kf : ¬ x = 0 → gG E K Z (pc + 3) lv st m) : gG E K Z pc lv (.int x :: st) m := by
  intro p e s mm args below meth c H locs ls C hl hP hS
  exact lv_if_eq C.1 C.2.1 hd ht (fun z => kt z p e s mm args below meth c H locs ls C hl hP hS) (fun z => kf z p e s mm args below meth c H locs ls C hl hP hS)
theorem g_icmp_eq {x y : Int32} {off : Int} {tgt : Nat} (hd : decode K.1 pc = .ok (.if_icmp .eq off, 3)) (ht : (pc : Int) + off = (tgt : Int)) (kt : x = y → gG E K Z tgt lv st m) (kf : ¬ x = y → gG E K Z (pc + 3) lv st m) : gG E K Z pc lv (.int y :: .int x :: st) m := by
  intro p e s mm args below meth c H locs ls C hl hP hS
  exact lv_icmp_eq C.1 C.2.1 hd ht (fun z => kt z p e s mm args below meth c H locs ls C hl hP hS) (fun z => kf z p e s mm args below meth c H locs ls C hl hP hS)
theorem g_if_ne {x : Int32} {off : Int} {tgt : Nat} (hd : decode K.1 pc = .ok (.ifCond .ne off, 3)) (ht : (pc : Int) + off = (tgt : Int)) (kt : ¬ x = 0 → gG E K Z tgt lv st m) (kf : x = 0 → gG E K Z (pc + 3) lv st m) : gG E K Z pc lv (.int x :: st) m := by
  intro p e s mm args below meth c H locs ls C hl hP hS
  exact lv_if_ne C.1 C.2.1 hd ht (fun z => kt z p e s mm args below meth c H locs ls C hl hP hS) (fun z => kf z p e s mm args below meth c H locs ls C hl hP hS)
theorem g_icmp_ne {x y : Int32} {off : Int} {tgt : Nat} (hd : decode K.1 pc = .ok (.if_icmp .ne off, 3)) (ht : (pc : Int) + off = (tgt : Int)) (kt : ¬ x = y → gG E K Z tgt lv st m) (kf : x = y → gG E K Z (pc + 3) lv st m) : gG E K Z pc lv (.int y :: .int x :: st) m := by
  intro p e s mm args below meth c H locs ls C hl hP hS
  exact lv_icmp_ne C.1 C.2.1 hd ht (fun z => kt z p e s mm args below meth c H locs ls C hl hP hS) (fun z => kf z p e s mm args below meth c H locs ls C hl hP hS)
theorem g_if_lt {x : Int32} {off : Int} {tgt : Nat} (hd : decode K.1 pc = .ok (.ifCond .lt off, 3)) (ht : (pc : Int) + off = (tgt : Int)) (kt : x < 0 → gG E K Z tgt lv st m) (kf : ¬ x < 0 → gG E K Z (pc + 3) lv st m) : gG E K Z pc lv (.int x :: st) m := by
  intro p e s mm args below meth c H locs ls C hl hP hS
  exact lv_if_lt C.1 C.2.1 hd ht (fun z => kt z p e s mm args below meth c H locs ls C hl hP hS) (fun z => kf z p e s mm args below meth c H locs ls C hl hP hS)
theorem g_icmp_lt {x y : Int32} {off : Int} {tgt : Nat} (hd : decode K.1 pc = .ok (.if_icmp .lt off, 3)) (ht : (pc : Int) + off = (tgt : Int)) (kt : x < y → gG E K Z tgt lv st m) (kf : ¬ x < y → gG E K Z (pc + 3) lv st m) : gG E K Z pc lv (.int y :: .int x :: st) m := by
  intro p e s mm args below meth c H locs ls C hl hP hS
  exact lv_icmp_lt C.1 C.2.1 hd ht (fun z => kt z p e s mm args below meth c H locs ls C hl hP hS) (fun z => kf z p e s mm args below meth c H locs ls C hl hP hS)
theorem g_if_ge {x : Int32} {off : Int} {tgt : Nat} (hd : decode K.1 pc = .ok (.ifCond .ge off, 3)) (ht : (pc : Int) + off = (tgt : Int)) (kt : 0 ≤ x → gG E K Z tgt lv st m) (kf : ¬ 0 ≤ x → gG E K Z (pc + 3) lv st m) : gG E K Z pc lv (.int x :: st) m := by
  intro p e s mm args below meth c H locs ls C hl hP hS
  exact lv_if_ge C.1 C.2.1 hd ht (fun z => kt z p e s mm args below meth c H locs ls C hl hP hS) (fun z => kf z p e s mm args below meth c H locs ls C hl hP hS)
theorem g_icmp_ge {x y : Int32} {off : Int} {tgt : Nat} (hd : decode K.1 pc = .ok (.if_icmp .ge off, 3)) (ht : (pc : Int) + off = (tgt : Int)) (kt : y ≤ x → gG E K Z tgt lv st m) (kf : ¬ y ≤ x → gG E K Z (pc + 3) lv st m) : gG E K Z pc lv (.int y :: .int x :: st) m := by
  intro p e s mm args below meth c H locs ls C hl hP hS
  exact lv_icmp_ge C.1 C.2.1 hd ht (fun z => kt z p e s mm args below meth c H locs ls C hl hP hS) (fun z => kf z p e s mm args below meth c H locs ls C hl hP hS)
theorem g_if_gt {x : Int32} {off : Int} {tgt : Nat} (hd : decode K.1 pc = .ok (.ifCond .gt off, 3)) (ht : (pc : Int) + off = (tgt : Int)) (kt : 0 < x → gG E K Z tgt lv st m) (kf : ¬ 0 < x → gG E K Z (pc + 3) lv st m) : gG E K Z pc lv (.int x :: st) m := by
  intro p e s mm args below meth c H locs ls C hl hP hS
  exact lv_if_gt C.1 C.2.1 hd ht (fun z => kt z p e s mm args below meth c H locs ls C hl hP hS) (fun z => kf z p e s mm args below meth c H locs ls C hl hP hS)
theorem g_icmp_gt {x y : Int32} {off : Int} {tgt : Nat} (hd : decode K.1 pc = .ok (.if_icmp .gt off, 3)) (ht : (pc : Int) + off = (tgt : Int)) (kt : y < x → gG E K Z tgt lv st m) (kf : ¬ y < x → gG E K Z (pc + 3) lv st m) : gG E K Z pc lv (.int y :: .int x :: st) m := by
  intro p e s mm args below meth c H locs ls C hl hP hS
  exact lv_icmp_gt C.1 C.2.1 hd ht (fun z => kt z p e s mm args below meth c H locs ls C hl hP hS) (fun z => kf z p e s mm args below meth c H locs ls C hl hP hS)
theorem g_if_le {x : Int32} {off : Int} {tgt : Nat} (hd : decode K.1 pc = .ok (.ifCond .le off, 3)) (ht : (pc : Int) + off = (tgt : Int)) (kt : x ≤ 0 → gG E K Z tgt lv st m) (kf : ¬ x ≤ 0 → gG E K Z (pc + 3) lv st m) : gG E K Z pc lv (.int x :: st) m := by
  intro p e s mm args below meth c H locs ls C hl hP hS
  exact lv_if_le C.1 C.2.1 hd ht (fun z => kt z p e s mm args below meth c H locs ls C hl hP hS) (fun z => kf z p e s mm args below meth c H locs ls C hl hP hS)
theorem g_icmp_le {x y : Int32} {off : Int} {tgt : Nat} (hd : decode K.1 pc = .ok (.if_icmp .le off, 3)) (ht : (pc : Int) + off = (tgt : Int)) (kt : x ≤ y → gG E K Z tgt lv st m) (kf : ¬ x ≤ y → gG E K Z (pc + 3) lv st m) : gG E K Z pc lv (.int y :: .int x :: st) m := by
  intro p e s mm args below meth c H locs ls C hl hP hS
  exact lv_icmp_le C.1 C.2.1 hd ht (fun z => kt z p e s mm args below meth c H locs ls C hl hP hS) (fun z => kf z p e s mm args below meth c H locs ls C hl hP hS)
theorem g_goto {off : Int} {tgt : Nat} (hd : decode K.1 pc = .ok (.goto off, 3)) (ht : (pc : Int) + off = (tgt : Int)) (h : gG E K Z tgt lv st m) : gG E K Z pc lv st m := by
  intro p e s mm args below meth c H locs ls C hl hP hS
  exact lv_goto C.1 C.2.1 hd ht (h p e s mm args below meth c H locs ls C hl hP hS)
theorem g_tableOut {dflt lo hi : Int} {offs : Array Int} {len : Nat} {x : Int32} {tgt : Nat} (hd : decode K.1 pc = .ok (.tableswitch dflt lo hi offs, len)) (hx : x.toInt < lo ∨ hi < x.toInt) (ht : (pc : Int) + dflt = (tgt : Int)) (h : gG E K Z tgt lv st m) : gG E K Z pc lv (.int x :: st) m := by
  intro p e s mm args below meth c H locs ls C hl hP hS
  exact lv_tableOut C.1 C.2.1 hd hx ht (h p e s mm args below meth c H locs ls C hl hP hS)
theorem g_tableIn {dflt lo hi : Int} {offs : Array Int} {len : Nat} {x : Int32} {off : Int} {tgt : Nat} (hd : decode K.1 pc = .ok (.tableswitch dflt lo hi offs, len)) (h1 : ¬ x.toInt < lo) (h2 : ¬ hi < x.toInt) (ho : offs[(x.toInt - lo).toNat]? = some off) (ht : (pc : Int) + off = (tgt : Int)) (h : gG E K Z tgt lv st m) : gG E K Z pc lv (.int x :: st) m := by
  intro p e s mm args below meth c H locs ls C hl hP hS
  exact lv_tableIn C.1 C.2.1 hd h1 h2 ho ht (h p e s mm args below meth c H locs ls C hl hP hS)
/-- a field: the link, the class, the place -/
def gF (own : String) (idx ci : Nat) (C : String) (T : u_T) (N j : Nat) : Prop := gcl[ci]? = some (C, T, N) ∧ j < N ∧ (Cond.fieldLink own idx (T j).1 (T j).2.1 (T j).2.2.1) ∈ gAW ∧ (∀ w, w ∈ u_ws C T N → w ∈ gAW)
theorem g_get {idx ci : Nat} {C : String} {T : u_T} {N j k : Nat} {fs : List Value} {v : Value} (hd : decode K.1 pc = .ok (.getfield idx, 3)) (hF : gF K.2.1 idx ci C T N j) (ho : (wG E m)[k]? = some (eA E k, .inr (ci, fs))) (hv : fs[j]? = some v) (h : gG E K Z (pc + 3) lv (v :: st) m) : gG E K Z pc lv (.ref (eA E k) :: st) m := by
  intro p e s mm args below meth c H locs ls C hl hP hS
  exact va_get C.1 C.2.1 C.2.2.2.2.1 hF.2.2.2 C.2.2.2.1 C.2.2.2.2.2.2.2.1.1 hP k ho hF.1 j hF.2.1 (C.2.2.2.2.1 _ hF.2.2.1) (fun _ z => z) hv hd (h p e s mm args below meth c H locs ls C hl hP hS)
/-- a class that may be written -/
def gFw (T : u_T) (N j : Nat) (ty : FieldType) : Prop := (∀ a, a < N → ∀ b, b < N → a ≠ b → (T a).2.1 ≠ (T b).2.1) ∧ (∃ ty0 : Nat → FieldType, ∀ k, k < N → parseFieldDescriptor (T k).2.2.1 = some (ty0 k)) ∧ (T j).2.2.2 = false ∧ parseFieldDescriptor (T j).2.2.1 = some ty
theorem g_put {idx ci : Nat} {C : String} {T : u_T} {N j k : Nat} {fs : List Value} {v : Value} {ty : FieldType} {m' : pMem} (hd : decode K.1 pc = .ok (.putfield idx, 3)) (hF : gF K.2.1 idx ci C T N j) (hw : gFw T N j ty) (hn : narrow ty v = v) (hf : fits ty v = true) (ho : (wG E m)[k]? = some (eA E k, .inr (ci, fs))) (hj : j < fs.length) (hs : (wG E m).set k (eA E k, .inr (ci, fs.set j v)) = wG E m') (h : gG E K Z (pc + 3) lv st m') : gG E K Z pc lv (v :: .ref (eA E k) :: st) m := by
  intro p e s mm args below meth c H locs ls C hl hP hS
  obtain ⟨w1, ⟨ty0, w2⟩, w3, w4⟩ := hw
  refine va_put C.1 C.2.1 C.2.2.2.2.1 hF.2.2.2 ty0 w2 w1 C.2.2.2.1 C.2.2.2.2.2.2.2.1.1 hP (wG_D C.2.2.2.2.2.2.2.2.1 C.2.2.2.2.2.2.2.2.2.1 m) hS k ho hF.1 j hF.2.1 (C.2.2.2.2.1 _ hF.2.2.1) (fun _ z => z) w3 w4 hn hf hj hd (fun H1 locs1 hP1 hD1 hS1 => ?_)
  rw [hs] at hP1
  exact h p e s mm args below meth c H1 locs1 ls C hl hP1 hS1
/-- an array of whole numbers -/
def gAr (k n : Nat) (ty : FieldType) : Prop := ∀ (E : pEv) (m : pMem), (wG E m)[k]? = some (eA E k, .inl (eC E k, n, .inl (m.1 k))) ∧ (∃ t : Nat, (tG E)[t]? = some (eC E k, ty)) ∧ ∀ f, (wG E m).set k (eA E k, .inl (eC E k, n, .inl f)) = wG E (up1 m k f)
def gAl (k n : Nat) : Prop := ∀ (E : pEv) (m : pMem), (wG E m)[k]? = some (eA E k, .inl (eC E k, n, .inr (.inl (m.2 k)))) ∧ (∃ t : Nat, (tG E)[t]? = some (eC E k, FieldType.long)) ∧ ∀ f, (wG E m).set k (eA E k, .inl (eC E k, n, .inr (.inl f))) = wG E (up2 m k f)
/-- an index is out -/
abbrev oob (i : Int32) (n : Nat) : Prop := i < 0 ∨ n ≤ i.toNatClampNeg
theorem g_iald {k n : Nat} {i : Int32} (hd : decode K.1 pc = .ok (.iaload, 1)) (hA : gAr k n .int) (hi : ¬ oob i n) (h : gG E K Z (pc + 1) lv (.int (m.1 k i.toNatClampNeg) :: st) m) : gG E K Z pc lv (.int i :: .ref (eA E k) :: st) m := by
  intro p e s mm args below meth c H locs ls C hl hP hS
  obtain ⟨a1, ⟨t, a2⟩, -⟩ := hA E m
  exact va_iald C.1 C.2.1 C.2.2.2.2.2.2.2.1.1 hP k t a1 a2 hi hd (h p e s mm args below meth c H locs ls C hl hP hS)
theorem g_zald {k n : Nat} {i : Int32} (hd : decode K.1 pc = .ok (.baload, 1)) (hA : gAr k n .boolean) (hi : ¬ oob i n) (h : gG E K Z (pc + 1) lv (.int (m.1 k i.toNatClampNeg) :: st) m) : gG E K Z pc lv (.int i :: .ref (eA E k) :: st) m := by
  intro p e s mm args below meth c H locs ls C hl hP hS
  obtain ⟨a1, ⟨t, a2⟩, -⟩ := hA E m
  exact va_zald C.1 C.2.1 C.2.2.2.2.2.2.2.1.1 hP k t a1 a2 hi hd (h p e s mm args below meth c H locs ls C hl hP hS)
theorem g_lald {k n : Nat} {i : Int32} (hd : decode K.1 pc = .ok (.laload, 1)) (hA : gAl k n) (hi : ¬ oob i n) (h : gG E K Z (pc + 1) lv (.long (m.2 k i.toNatClampNeg) :: st) m) : gG E K Z pc lv (.int i :: .ref (eA E k) :: st) m := by
  intro p e s mm args below meth c H locs ls C hl hP hS
  obtain ⟨a1, ⟨t, a2⟩, -⟩ := hA E m
  exact va_lald C.1 C.2.1 C.2.2.2.2.2.2.2.1.1 hP k t a1 a2 hi hd (h p e s mm args below meth c H locs ls C hl hP hS)
theorem g_iast {k n : Nat} {i x : Int32} (hd : decode K.1 pc = .ok (.iastore, 1)) (hA : gAr k n .int) (hi : ¬ oob i n) (h : gG E K Z (pc + 1) lv st (st1 m k i.toNatClampNeg x)) : gG E K Z pc lv (.int x :: .int i :: .ref (eA E k) :: st) m := by
  intro p e s mm args below meth c H locs ls C hl hP hS
  obtain ⟨a1, ⟨t, a2⟩, a3⟩ := hA E m
  refine va_iast C.1 C.2.1 C.2.2.2.2.2.2.2.1.1 hP (wG_D C.2.2.2.2.2.2.2.2.1 C.2.2.2.2.2.2.2.2.2.1 m) hS k t a1 a2 hi hd (fun H1 locs1 hP1 hD1 hS1 => ?_)
  rw [a3] at hP1
  exact h p e s mm args below meth c H1 locs1 ls C hl hP1 hS1
theorem g_zast {k n : Nat} {i x : Int32} (hd : decode K.1 pc = .ok (.bastore, 1)) (hA : gAr k n .boolean) (hi : ¬ oob i n) (h : gG E K Z (pc + 1) lv st (st1 m k i.toNatClampNeg (vp_nar .boolean x))) : gG E K Z pc lv (.int x :: .int i :: .ref (eA E k) :: st) m := by
  intro p e s mm args below meth c H locs ls C hl hP hS
  obtain ⟨a1, ⟨t, a2⟩, a3⟩ := hA E m
  refine va_zast C.1 C.2.1 C.2.2.2.2.2.2.2.1.1 hP (wG_D C.2.2.2.2.2.2.2.2.1 C.2.2.2.2.2.2.2.2.2.1 m) hS k t a1 a2 hi hd (fun H1 locs1 hP1 hD1 hS1 => ?_)
  rw [a3] at hP1
  exact h p e s mm args below meth c H1 locs1 ls C hl hP1 hS1
theorem g_last {k n : Nat} {i : Int32} {x : Int64} (hd : decode K.1 pc = .ok (.lastore, 1)) (hA : gAl k n) (hi : ¬ oob i n) (h : gG E K Z (pc + 1) lv st (st2 m k i.toNatClampNeg x)) : gG E K Z pc lv (.long x :: .int i :: .ref (eA E k) :: st) m := by
  intro p e s mm args below meth c H locs ls C hl hP hS
  obtain ⟨a1, ⟨t, a2⟩, a3⟩ := hA E m
  refine va_last C.1 C.2.1 C.2.2.2.2.2.2.2.1.1 hP (wG_D C.2.2.2.2.2.2.2.2.1 C.2.2.2.2.2.2.2.2.2.1 m) hS k t a1 a2 hi hd (fun H1 locs1 hP1 hD1 hS1 => ?_)
  rw [a3] at hP1
  exact h p e s mm args below meth c H1 locs1 ls C hl hP1 hS1
theorem g_alen {k n : Nat} {v : Int32} {ty : FieldType} (hd : decode K.1 pc = .ok (.arraylength, 1)) (hA : gAr k n ty) (hv : Int32.ofNat n = v) (h : gG E K Z (pc + 1) lv (.int v :: st) m) : gG E K Z pc lv (.ref (eA E k) :: st) m := by
  intro p e s mm args below meth c H locs ls C hl hP hS
  obtain ⟨a1, ⟨t, a2⟩, -⟩ := hA E m
  exact va_alen C.1 C.2.1 C.2.2.2.2.2.2.2.1.1 hP k t a1 a2 hv hd (h p e s mm args below meth c H locs ls C hl hP hS)
/-- a row of the two-dimensional one -/
theorem g_aald {i : Int32} (hd : decode K.1 pc = .ok (.aaload, 1)) (hi : ¬ oob i 13) (h : gG E K Z (pc + 1) lv (.ref (eA E (30 + i.toNatClampNeg)) :: st) m) : gG E K Z pc lv (.int i :: .ref (eA E 29) :: st) m := by
  intro p e s mm args below meth c H locs ls C hl hP hS
  have hlt : i.toNatClampNeg < 13 := Nat.not_le.mp fun q => hi (Or.inr q)
  have ha : (wG E m)[29]? = some (eA E 29, .inl (eC E 29, 13, .inr (.inr (.inr (.inr (fun i => if i < 13 then some (eA E (30 + i)) else none)))))) := rfl
  have ht : (tG E)[29 - 10]? = some (eC E 29, .array .int) := rfl
  have hK := C.2.2.2.2.2.2.2.1.1
  refine W.aald (v := .ref (eA E (30 + i.toNatClampNeg))) (ty := .array .int) C.1 C.2.1 (hP 29 _ ha) ((hK.2 (29 - 10) _ ht).1 13 (fun j => va_rf (if j < 13 then some (eA E (30 + j)) else none))) rfl (fun q => by cases q) (by show ¬ (i < 0 ∨ (arrV _ _ _).slots.size ≤ _); rw [arrV_size]; exact hi) (by show (arrV _ _ _).slots[_]? = _; rw [arrV_read _ _ hlt]; show some (va_rf (if i.toNatClampNeg < 13 then some (eA E (30 + i.toNatClampNeg)) else none)) = _; rw [if_pos hlt]; rfl) rfl rfl hd (h p e s mm args below meth c H locs ls C hl hP hS)
theorem g_iret {v : Int32} {Qc : Array Value → State → Outcome → State → Prop} {fr : Nat → Prop} (hd : decode K.1 pc = .ok (.ireturn, 1)) {ty : FieldType} (hr : K.2.2.2.1 = some ty) (hn : narrow ty (.int v) = .int v)
    (hQ : ∀ s args below, Z.2.2 s args below = MQ below Qc args s K.2.2.2.2.2.1 K.2.2.2.2.2.2 fr) (hA : ∀ s q, Z.1 s q → fr q)
    (hq : ∀ s args t H locs, t.heap = H → s.WarmedH t.vm → va_P (eD E) gcl (wG E m) H → va_S (Z.1 s) s.heap H locs → gKK E s → gDs E → (∀ a, a < s.heap.size → Z.1 s a → FA E a) → Qc args s (.returned (some (.int v))) t) : gG E K Z pc lv [.int v] m := by
  intro p e s mm args below meth c H locs ls C hl hP hS
  rw [hQ]
  exact W.zret C.1 C.2.1 (C.2.2.2.2.2.1.trans hr) hn (fun t ht hW => hq s args t H locs ht hW hP hS C.2.2.2.2.2.2.2.1 C.2.2.2.2.2.2.2.2.1 C.2.2.2.2.2.2.2.2.2.2.1) (fun q hq => hA s _ (hS.2.2 q hq)) hd C.2.2.2.2.2.2.1
theorem g_vret {Qc : Array Value → State → Outcome → State → Prop} {fr : Nat → Prop} (hd : decode K.1 pc = .ok (.return_, 1)) (hr : K.2.2.2.1 = none)
    (hQ : ∀ s args below, Z.2.2 s args below = MQ below Qc args s K.2.2.2.2.2.1 K.2.2.2.2.2.2 fr) (hA : ∀ s q, Z.1 s q → fr q)
    (hq : ∀ s args t H locs, t.heap = H → s.WarmedH t.vm → va_P (eD E) gcl (wG E m) H → va_S (Z.1 s) s.heap H locs → gKK E s → gDs E → (∀ a, a < s.heap.size → Z.1 s a → FA E a) → Qc args s (.returned none) t) : gG E K Z pc lv [] m := by
  intro p e s mm args below meth c H locs ls C hl hP hS
  rw [hQ]
  exact W.vret C.1 C.2.1 (C.2.2.2.2.2.1.trans hr) (fun t ht hW => hq s args t H locs ht hW hP hS C.2.2.2.2.2.2.2.1 C.2.2.2.2.2.2.2.2.1 C.2.2.2.2.2.2.2.2.2.2.1) (fun q hq => hA s _ (hS.2.2 q hq)) hd C.2.2.2.2.2.2.1
end GG
/-- a method's end: the answer and the memory -/
def gQ (E : pEv) (ret : Option FieldType) (z : Int32 × pMem) : Array Value → State → Outcome → State → Prop :=
  if ret = none then va_Qv (fun u : pMem => u = z.2) (fun u t => gWd E u t) (FA E) else va_Qi (fun (r : Int32) (u : pMem) => r = z.1 ∧ u = z.2) (fun u t => gWd E u t) (FA E)
def gZ (E : pEv) (K : pKi) (z : Int32 × pMem) : pZt := (fun _ => FA E, fun _ _ => True, fun s args below => MQ below (gQ E K.2.2.2.1 z) args s K.2.2.2.2.2.1 K.2.2.2.2.2.2 (FA E))
/-- in a method -/
abbrev gM (E : pEv) (K : pKi) (z : Int32 × pMem) : Nat → List (Nat × Value) → List Value → pMem → Prop := gG E K (gZ E K z)
theorem g_ret {E : pEv} {K : pKi} {pc : Nat} {lv : List (Nat × Value)} {m : pMem} {v : Int32} {ty : FieldType} {z : Int32 × pMem} (hd : decode K.1 pc = .ok (.ireturn, 1)) (hr : K.2.2.2.1 = some ty) (hn : narrow ty (.int v) = .int v) (hz : z = (v, m)) : gM E K z pc lv [.int v] m := by
  subst hz
  refine g_iret (Qc := gQ E K.2.2.2.1 (v, m)) (fr := FA E) hd hr hn (fun s args below => rfl) (fun s q h => h) ?_
  intro s args t H locs ht hW hP hS hK hD hA
  unfold gQ
  rw [hr, if_neg (by simp)]
  exact ⟨⟨v, m, rfl, ⟨rfl, rfl⟩, by rw [ht]; exact hP, hK.moved hW ht hS hA, hD⟩, hS.F ht⟩
theorem g_retv {E : pEv} {K : pKi} {pc : Nat} {lv : List (Nat × Value)} {m : pMem} {z : Int32 × pMem} (hd : decode K.1 pc = .ok (.return_, 1)) (hr : K.2.2.2.1 = none) (hz : z.2 = m) : gM E K z pc lv [] m := by
  subst hz
  refine g_vret (Qc := gQ E K.2.2.2.1 z) (fr := FA E) hd hr (fun s args below => rfl) (fun s q h => h) ?_
  intro s args t H locs ht hW hP hS hK hD hA
  unfold gQ
  rw [hr, if_pos rfl]
  exact ⟨⟨z.2, rfl, rfl, by rw [ht]; exact hP, hK.moved hW ht hS hA, hD⟩, hS.F ht⟩
/-- a method's contract over the one world -/
def gCn (E : pEv) (y : MethodName) (K : pKi) (av : List Value) (m : pMem) (z : Int32 × pMem) : Prop := Met (eL E) y (.code y K.1 K.2.2.1 K.2.2.2.1 :: gAW) K.2.2.2.2.1 (va_Pc av (gWd E m)) (gQ E K.2.2.2.1 z) 0 0 (FA E)
theorem gCn_of {E : pEv} {y : MethodName} {K : pKi} {av : List Value} {m : pMem} {z : Int32 × pMem} {lv : List (Nat × Value)} (hy : plainName y.cls = true) (ho : K.2.1 = y.cls) (hK0 : K.2.2.2.2.2.1 = 0) (hK1 : K.2.2.2.2.2.2 = 0) (hn : (lg_sl av).length ≤ K.2.2.1) (hlv : lv_args 0 av = lv) (h : gM E K z 0 lv [] m) : gCn E y K av m z := by
  refine Met.ofW (cc := K.1) (maxL := K.2.2.1) (ret := K.2.2.2.1) hy rfl ?_
  intro p e s mm args below meth c s₁ B hml hv
  obtain ⟨rfl, hP, hKK, hD⟩ := hv
  have hts := atoms_spec (ws := .code y K.1 K.2.2.1 K.2.2.2.1 :: gAW) B.pre
  have hown : s.vm.findClass y.cls = some mm.cls := findClass_of_methodNamed B.named
  have hl := lv_entry av hn
  rw [lg_entry_eq]
  rw [hlv] at hl
  have h1 := h p e s mm av.toArray below meth c s.heap [] _ ⟨B.exec, B.bytes, hml, by rw [ho]; exact hown, fun w hw => hts w (List.mem_cons_of_mem _ hw), B.returns, B.notSynchronized, hKK, hD, fun k hk => ⟨k, hk, rfl⟩, fun a _ z => z, trivial⟩ hl hP va_S.rf
  have e1 : (gZ E K z).2.2 s av.toArray below = MQ below (gQ E K.2.2.2.1 z) av.toArray s K.2.2.2.2.2.1 K.2.2.2.2.2.2 (FA E) := rfl
  rw [e1] at h1
  rw [hK0, hK1] at h1
  exact h1
section GC
variable {E : pEv} {K : pKi} {Z : pZt} {pc : Nat} {lv : List (Nat × Value)} {st : List Value} {m : pMem}
theorem gPc_blind {E : pEv} {av : List Value} {m : pMem} : FrameBlind (va_Pc av (gWd E m)) := fun a U g mk h => ⟨h.1, h.2.1, h.2.2.1.calling, h.2.2.2⟩
/-- the room of a call -/
def gRm (K K' : pKi) : Prop := K'.2.2.2.2.1.cells = 0 ∧ K'.2.2.2.2.1.slots = 0 ∧ K'.2.2.2.2.1.frames + 1 ≤ K.2.2.2.2.1.frames ∧ 8 + (K'.2.2.1 + 11) + K'.2.2.2.2.1.locals ≤ K.2.2.2.2.1.locals ∧ K.2.2.2.2.2.1 ≤ K.2.2.2.2.1.cells ∧ K.2.2.2.2.2.2 ≤ K.2.2.2.2.1.slots
/-- a method's own words -/
def gY (y : MethodName) (K : pKi) (n : Nat) : Prop := Cond.code y K.1 K.2.2.1 K.2.2.2.1 ∈ gAW ∧ Cond.initialized y.cls ∈ gAW ∧ (y.cls ≠ "java/lang/invoke/MethodHandle" ∧ y.cls ≠ "java/lang/invoke/VarHandle" ∧ (parseMethodDescriptor y.desc).map (fun d => d.parameters.length) = some n)
theorem g_run {idx n : Nat} {y : MethodName} {K' : pKi} {s : State} {args : Array Value} (hts : ∀ w, w ∈ gAW → w.before args s = true) (hY : gY y K' n) (hR : gRm K K') (hml : Cond.methodLink K.2.1 idx y ∈ gAW) : CallB K.2.2.2.2.1 s args K.2.1 idx y K'.1 K'.2.2.1 K'.2.2.2.1 (.code y K'.1 K'.2.2.1 K'.2.2.2.1 :: gAW) K'.2.2.2.2.1 0 0 n :=
  callB_of n hts (gAW_cons hY.1) rfl hR.1 hR.2.1 (hts _ hY.2.1) (hts _ hml) hY.2.2 ⟨hR.2.2.1, hR.2.2.2.1⟩
theorem gQ_i {E : pEv} {ret : Option FieldType} {ty : FieldType} (h : ret = some ty) (z : Int32 × pMem) : gQ E ret z = va_Qi (fun (r : Int32) (u : pMem) => r = z.1 ∧ u = z.2) (fun u t => gWd E u t) (FA E) := by
  unfold gQ
  rw [h, if_neg (by simp)]
theorem gQ_v {E : pEv} {ret : Option FieldType} (h : ret = none) (z : Int32 × pMem) : gQ E ret z = va_Qv (fun u : pMem => u = z.2) (fun u t => gWd E u t) (FA E) := by
  unfold gQ
  rw [h, if_pos rfl]
theorem g_pre {s U : State} {m : pMem} {A : Nat → Prop} {H : Heap} {locs : List Loc} (hU : U.heap = H) (hW : s.WarmedH U.vm) (hP : va_P (eD E) gcl (wG E m) H) (hS : va_S A s.heap H locs) (hK : gKK E s) (hD : gDs E) (hA : ∀ a, a < s.heap.size → A a → FA E a) : gWd E m U := ⟨by rw [hU]; exact hP, hK.moved hW hU hS hA, hD⟩
theorem g_callV {idx n ci k N : Nat} {y : MethodName} {K' : pKi} {T : u_T} {As sk fs : List Value} {z : Int32 × pMem} {ty : FieldType} (hd : decode K.1 pc = .ok (.invokevirtual idx, 3)) (hM : gCn E y K' (.ref (eA E k) :: As) m z) (hY : gY y K' n) (hI : Cond.instanceMethod y ∈ gAW) (hX : Cond.selects y.cls y y ∈ gAW) (hL : Cond.methodLink K.2.1 idx y ∈ gAW) (hR : gRm K K') (hr : K'.2.2.2.1 = some ty) (ho : (wG E m)[k]? = some (eA E k, .inr (ci, fs))) (hc : gcl[ci]? = some (y.cls, T, N)) (hn : As.length = n) (hsk : sk = As.reverse ++ .ref (eA E k) :: st) (h8 : (st.map fun v => v.category).sum ≤ 8) (h : gG E K Z (pc + 3) lv (.int z.1 :: st) z.2) : gG E K Z pc lv sk m := by
  intro p e s mm args below meth c H locs ls C hl hP hS
  subst hsk
  unfold gCn at hM
  rw [gQ_i hr] at hM
  refine va_calli (va_runV ⟨C.1, C.2.1, C.2.2.1, C.2.2.2.1, C.2.2.2.2.1⟩ hM ⟨g_run C.2.2.2.2.1 hY hR hL, C.2.2.2.2.1 _ hI, C.2.2.2.2.1 _ hX⟩ ⟨gPc_blind, va_recv C.2.2.2.2.2.2.2.1.1 hP hc ho, fun U hU hW => ⟨rfl, g_pre hU hW hP hS C.2.2.2.2.2.2.2.1 C.2.2.2.2.2.2.2.2.1 C.2.2.2.2.2.2.2.2.2.2.1⟩⟩ rfl hn hl.1 rfl (lv_room h8) hd ⟨hR.2.2.2.2.1, hR.2.2.2.2.2⟩) hS (fun q _ hq => ?_) (fun q hq => ?_) (fun r u t H1 locs1 ht hvm hpo hB hz1 hk1 hS1 => ?_)
  · obtain ⟨k, hk, rfl⟩ := hq
    exact C.2.2.2.2.2.2.2.2.2.1 k hk
  · obtain ⟨k, hk, rfl⟩ := hq
    exact C.2.2.2.2.2.2.2.2.2.1 k hk
  · obtain ⟨rfl, rfl⟩ := hpo
    have hP1 := hB.1
    rw [ht] at hP1
    exact h p e s mm args below meth c H1 locs1 ls C hl hP1 hS1
theorem g_callVv {idx n ci k N : Nat} {y : MethodName} {K' : pKi} {T : u_T} {As sk fs : List Value} {z : Int32 × pMem} (hd : decode K.1 pc = .ok (.invokevirtual idx, 3)) (hM : gCn E y K' (.ref (eA E k) :: As) m z) (hY : gY y K' n) (hI : Cond.instanceMethod y ∈ gAW) (hX : Cond.selects y.cls y y ∈ gAW) (hL : Cond.methodLink K.2.1 idx y ∈ gAW) (hR : gRm K K') (hr : K'.2.2.2.1 = none) (ho : (wG E m)[k]? = some (eA E k, .inr (ci, fs))) (hc : gcl[ci]? = some (y.cls, T, N)) (hn : As.length = n) (hsk : sk = As.reverse ++ .ref (eA E k) :: st) (h8 : (st.map fun v => v.category).sum ≤ 8) (h : gG E K Z (pc + 3) lv st z.2) : gG E K Z pc lv sk m := by
  intro p e s mm args below meth c H locs ls C hl hP hS
  subst hsk
  unfold gCn at hM
  rw [gQ_v hr] at hM
  refine va_callv (va_runV ⟨C.1, C.2.1, C.2.2.1, C.2.2.2.1, C.2.2.2.2.1⟩ hM ⟨g_run C.2.2.2.2.1 hY hR hL, C.2.2.2.2.1 _ hI, C.2.2.2.2.1 _ hX⟩ ⟨gPc_blind, va_recv C.2.2.2.2.2.2.2.1.1 hP hc ho, fun U hU hW => ⟨rfl, g_pre hU hW hP hS C.2.2.2.2.2.2.2.1 C.2.2.2.2.2.2.2.2.1 C.2.2.2.2.2.2.2.2.2.2.1⟩⟩ rfl hn hl.1 rfl (lv_room h8) hd ⟨hR.2.2.2.2.1, hR.2.2.2.2.2⟩) hS (fun q _ hq => ?_) (fun q hq => ?_) (fun u t H1 locs1 ht hvm hpo hB hz1 hk1 hS1 => ?_)
  · obtain ⟨k, hk, rfl⟩ := hq
    exact C.2.2.2.2.2.2.2.2.2.1 k hk
  · obtain ⟨k, hk, rfl⟩ := hq
    exact C.2.2.2.2.2.2.2.2.2.1 k hk
  · obtain rfl := hpo
    have hP1 := hB.1
    rw [ht] at hP1
    exact h p e s mm args below meth c H1 locs1 ls C hl hP1 hS1
theorem g_callS {idx n : Nat} {y : MethodName} {K' : pKi} {As sk : List Value} {z : Int32 × pMem} {ty : FieldType} (hd : decode K.1 pc = .ok (.invokestatic idx, 3)) (hM : gCn E y K' As m z) (hY : gY y K' n) (hI : Cond.static y ∈ gAW) (hL : Cond.methodLink K.2.1 idx y ∈ gAW) (hR : gRm K K') (hr : K'.2.2.2.1 = some ty) (hn : As.length = n) (hsk : sk = As.reverse ++ st) (h8 : (st.map fun v => v.category).sum ≤ 8) (h : gG E K Z (pc + 3) lv (.int z.1 :: st) z.2) : gG E K Z pc lv sk m := by
  intro p e s mm args below meth c H locs ls C hl hP hS
  subst hsk
  unfold gCn at hM
  rw [gQ_i hr] at hM
  refine va_calli (va_runS ⟨C.1, C.2.1, C.2.2.1, C.2.2.2.1, C.2.2.2.2.1⟩ hM ⟨g_run C.2.2.2.2.1 hY hR hL, C.2.2.2.2.1 _ hI⟩ ⟨gPc_blind, fun U hU hW => ⟨rfl, g_pre hU hW hP hS C.2.2.2.2.2.2.2.1 C.2.2.2.2.2.2.2.2.1 C.2.2.2.2.2.2.2.2.2.2.1⟩⟩ rfl hn hl.1 rfl (lv_room h8) hd ⟨hR.2.2.2.2.1, hR.2.2.2.2.2⟩) hS (fun q _ hq => ?_) (fun q hq => ?_) (fun r u t H1 locs1 ht hvm hpo hB hz1 hk1 hS1 => ?_)
  · obtain ⟨k, hk, rfl⟩ := hq
    exact C.2.2.2.2.2.2.2.2.2.1 k hk
  · obtain ⟨k, hk, rfl⟩ := hq
    exact C.2.2.2.2.2.2.2.2.2.1 k hk
  · obtain ⟨rfl, rfl⟩ := hpo
    have hP1 := hB.1
    rw [ht] at hP1
    exact h p e s mm args below meth c H1 locs1 ls C hl hP1 hS1
theorem g_callSv {idx n : Nat} {y : MethodName} {K' : pKi} {As sk : List Value} {z : Int32 × pMem} (hd : decode K.1 pc = .ok (.invokestatic idx, 3)) (hM : gCn E y K' As m z) (hY : gY y K' n) (hI : Cond.static y ∈ gAW) (hL : Cond.methodLink K.2.1 idx y ∈ gAW) (hR : gRm K K') (hr : K'.2.2.2.1 = none) (hn : As.length = n) (hsk : sk = As.reverse ++ st) (h8 : (st.map fun v => v.category).sum ≤ 8) (h : gG E K Z (pc + 3) lv st z.2) : gG E K Z pc lv sk m := by
  intro p e s mm args below meth c H locs ls C hl hP hS
  subst hsk
  unfold gCn at hM
  rw [gQ_v hr] at hM
  refine va_callv (va_runS ⟨C.1, C.2.1, C.2.2.1, C.2.2.2.1, C.2.2.2.2.1⟩ hM ⟨g_run C.2.2.2.2.1 hY hR hL, C.2.2.2.2.1 _ hI⟩ ⟨gPc_blind, fun U hU hW => ⟨rfl, g_pre hU hW hP hS C.2.2.2.2.2.2.2.1 C.2.2.2.2.2.2.2.2.1 C.2.2.2.2.2.2.2.2.2.2.1⟩⟩ rfl hn hl.1 rfl (lv_room h8) hd ⟨hR.2.2.2.2.1, hR.2.2.2.2.2⟩) hS (fun q _ hq => ?_) (fun q hq => ?_) (fun u t H1 locs1 ht hvm hpo hB hz1 hk1 hS1 => ?_)
  · obtain ⟨k, hk, rfl⟩ := hq
    exact C.2.2.2.2.2.2.2.2.2.1 k hk
  · obtain ⟨k, hk, rfl⟩ := hq
    exact C.2.2.2.2.2.2.2.2.2.1 k hk
  · obtain rfl := hpo
    have hP1 := hB.1
    rw [ht] at hP1
    exact h p e s mm args below meth c H1 locs1 ls C hl hP1 hS1
theorem g_callSN {idx n : Nat} {y : MethodName} {K' : pKi} {As sk : List Value} {z : Int32 × pMem} {ty : FieldType} (hd : decode K.1 pc = .ok (.invokestatic idx, 3)) (hM : gCn E y K' As m z) (hY : gY y K' n) (hI : Cond.static y ∈ gAW) (hL : (K.2.1, idx, y, "PartedLand") ∈ gNs) (hR : gRm K K') (hr : K'.2.2.2.1 = some ty) (hn : As.length = n) (hsk : sk = As.reverse ++ st) (h8 : (st.map fun v => v.category).sum ≤ 8) (h : gG E K Z (pc + 3) lv (.int z.1 :: st) z.2) : gG E K Z pc lv sk m := by
  intro p e s mm args below meth c H locs ls C hl hP hS
  subst hsk
  unfold gCn at hM
  rw [gQ_i hr] at hM
  refine va_calli (va_runSN (host := "PartedLand") ⟨C.1, C.2.1, C.2.2.1, C.2.2.2.1, C.2.2.2.2.1⟩ hM ⟨va_cnB n C.2.2.2.2.1 (gAW_cons hY.1) rfl hR.1 hR.2.1 (C.2.2.2.2.2.2.2.1.2.1 _ hL) (C.2.2.2.2.1 _ hY.2.1) hY.2.2 ⟨hR.2.2.1, hR.2.2.2.1⟩, C.2.2.2.2.1 _ hI, trivial⟩ ⟨gPc_blind, fun U hU hW => ⟨rfl, g_pre hU hW hP hS C.2.2.2.2.2.2.2.1 C.2.2.2.2.2.2.2.2.1 C.2.2.2.2.2.2.2.2.2.2.1⟩⟩ rfl hn hl.1 rfl (lv_room h8) hd ⟨hR.2.2.2.2.1, hR.2.2.2.2.2⟩) hS (fun q _ hq => ?_) (fun q hq => ?_) (fun r u t H1 locs1 ht hvm hpo hB hz1 hk1 hS1 => ?_)
  · obtain ⟨k, hk, rfl⟩ := hq
    exact C.2.2.2.2.2.2.2.2.2.1 k hk
  · obtain ⟨k, hk, rfl⟩ := hq
    exact C.2.2.2.2.2.2.2.2.2.1 k hk
  · obtain ⟨rfl, rfl⟩ := hpo
    have hP1 := hB.1
    rw [ht] at hP1
    exact h p e s mm args below meth c H1 locs1 ls C hl hP1 hS1
theorem g_max {idx : Nat} {x y : Int32} (hd : decode K.1 pc = .ok (.invokestatic idx, 3)) (hL : Cond.methodLink K.2.1 idx Lib.Math.max.name ∈ gAW) (hw1 : Cond.static Lib.Math.max.name ∈ gAW) (hw2 : Cond.initialized "java/lang/Math" ∈ gAW) (hw3 : Cond.code Lib.Math.max.name Lib.Math.max.code 2 (some .int) ∈ gAW) (hR : 1 ≤ K.2.2.2.2.1.frames ∧ (st.map fun v => v.category).sum + 13 ≤ K.2.2.2.2.1.locals ∧ K.2.2.2.2.2.1 ≤ K.2.2.2.2.1.cells ∧ K.2.2.2.2.2.2 ≤ K.2.2.2.2.1.slots) (h : gG E K Z (pc + 3) lv (.int (if x < y then y else x) :: st) m) : gG E K Z pc lv (.int y :: .int x :: st) m := by
  intro p e s mm args below meth c H locs ls C hl hP hS
  exact va_mmax C.1 C.2.1 (by rw [C.2.2.1, hl.1]) C.2.2.2.1 (C.2.2.2.2.1 _ hL) (C.2.2.2.2.1 _ hw1) (C.2.2.2.2.1 _ hw2) (C.2.2.2.2.1 _ hw3) hR.1 hR.2.1 hR.2.2.1 hR.2.2.2 hd (h p e s mm args below meth c H locs ls C hl hP hS)
theorem g_copy {idx a b n1 n2 : Nat} {sp dp n : Int32} (hd : decode K.1 pc = .ok (.invokestatic idx, 3)) (hL : Cond.methodLink K.2.1 idx arraycopyName ∈ gAW) (hw1 : Cond.native arraycopyName ∈ gAW) (hw2 : Cond.static arraycopyName ∈ gAW) (hw3 : Cond.initialized "java/lang/System" ∈ gAW) (ha : gAr a n1 .int) (hb : gAr b n2 .int) (h1 : ¬ sp < 0) (h2 : ¬ dp < 0) (h3 : ¬ n < 0) (h4 : sp.toNatClampNeg + n.toNatClampNeg ≤ n1) (h5 : dp.toNatClampNeg + n.toNatClampNeg ≤ n2) (hR : 1 ≤ K.2.2.2.2.1.frames ∧ (st.map fun v => v.category).sum + (nativeFrameWords "java/lang/System" "arraycopy" 5 + 11) ≤ K.2.2.2.2.1.locals) (h : gG E K Z (pc + 3) lv st (up1 m b (va_cpy (m.1 a) (m.1 b) sp.toNatClampNeg dp.toNatClampNeg n.toNatClampNeg))) : gG E K Z pc lv (.int n :: .int dp :: .ref (eA E b) :: .int sp :: .ref (eA E a) :: st) m := by
  intro p e s mm args below meth c H locs ls C hl hP hS
  obtain ⟨a1, ⟨t1, a2⟩, -⟩ := ha E m
  obtain ⟨b1, ⟨t2, b2⟩, b3⟩ := hb E m
  refine va_copyi C.1 C.2.1 (by rw [C.2.2.1, hl.1]) C.2.2.2.1 (C.2.2.2.2.1 _ hL) (C.2.2.2.2.1 _ hw1) (C.2.2.2.2.1 _ hw2) (C.2.2.2.2.1 _ hw3) C.2.2.2.2.2.2.2.1.1 hP (wG_D C.2.2.2.2.2.2.2.2.1 C.2.2.2.2.2.2.2.2.2.1 m) hS a b t1 t2 a1 b1 a2 b2 rfl h1 h2 h3 h4 h5 (fun i hi => rfl) hR.1 hR.2 hd (fun H1 locs1 hP1 hD1 hS1 => ?_)
  rw [b3] at hP1
  exact h p e s mm args below meth c H1 locs1 ls C hl hP1 hS1
theorem gAW_ps (ws : List Cond) (ps : List Nat) (hp : ws = ps.filterMap (fun i => tables_1[i]?)) (h : ws.all goodWord = true) : ∀ w, w ∈ ws → w ∈ gAW := by
  intro w hw
  have h1 := List.all_eq_true.mp h w hw
  rw [hp] at hw
  obtain ⟨i, -, hi⟩ := List.mem_filterMap.mp hw
  exact gAW_at i hi h1
end GC
/-! shallow functions: how a walk reads them -/
abbrev gO : Type := Option (Int32 × pMem)
def bnd {α β : Type} (a : α) (f : α → β) : β := f a
theorem it_ {c : Prop} [Decidable c] {α : Type} {a b z : α} (h : (if c then a else b) = z) (hc : c) : a = z := by rw [if_pos hc] at h; exact h
theorem ie_ {c : Prop} [Decidable c] {α : Type} {a b z : α} (h : (if c then a else b) = z) (hc : ¬ c) : b = z := by rw [if_neg hc] at h; exact h
theorem gd_ {c : Prop} [Decidable c] {α : Type} {b : Option α} {z : α} (h : (if c then none else b) = some z) : ¬ c ∧ b = some z := by
  by_cases hc : c
  · rw [if_pos hc] at h; cases h
  · rw [if_neg hc] at h; exact ⟨hc, h⟩
/-- a call that writes -/
def cbE (o : gO) (f : Int32 → pMem → gO) : gO := match o with
  | none => none
  | some q => f q.1 q.2
/-- a call that reads -/
def cbR {β : Type} (o : Option Int32) (f : Int32 → Option β) : Option β := match o with
  | none => none
  | some q => f q
theorem cbE_ {o : gO} {f : Int32 → pMem → gO} {z : Int32 × pMem} (h : cbE o f = some z) : ∃ r m, o = some (r, m) ∧ f r m = some z := by
  cases o with
  | none => cases h
  | some q => exact ⟨q.1, q.2, rfl, h⟩
theorem cbR_ {β : Type} {o : Option Int32} {f : Int32 → Option β} {z : β} (h : cbR o f = some z) : ∃ r, o = some r ∧ f r = some z := by
  cases o with
  | none => cases h
  | some q => exact ⟨q, rfl, h⟩
theorem nmG {E : pEv} {K : pKi} {Z : pZt} {pc : Nat} {lv : List (Nat × Value)} {st : List Value} {β : Type} {a : pMem} {f : pMem → Option β} {z : β} (h : bnd a f = some z) (k : ∀ x, f x = some z → gG E K Z pc lv st x) : gG E K Z pc lv st a := k a h
theorem nmI {E : pEv} {K : pKi} {Z : pZt} {pc : Nat} {lv : List (Nat × Value)} {st : List Value} {m : pMem} {β : Type} {a : Int32} {f : Int32 → Option β} {z : β} (h : bnd a f = some z) (k : ∀ x, f x = some z → gG E K Z pc lv (.int x :: st) m) : gG E K Z pc lv (.int a :: st) m := k a h
theorem nmL {E : pEv} {K : pKi} {Z : pZt} {pc : Nat} {lv : List (Nat × Value)} {st : List Value} {m : pMem} {β : Type} {a : Int64} {f : Int64 → Option β} {z : β} (h : bnd a f = some z) (k : ∀ x, f x = some z → gG E K Z pc lv (.long x :: st) m) : gG E K Z pc lv (.long a :: st) m := k a h
end
