-- PART A of the skeleton (the tables' words), then names, then the words that are used
-- ===== PART A: goes FIRST, ahead of the names: the tables' words, and 'selects' of the private methods out of them =====
/-- a private method of a class that the tables say can be made, by its rows of tables_1 -/
def lw_okq (q : MethodName × Nat) : Prop := (q.1.cls ≠ "java/lang/invoke/MethodHandle" ∧ q.1.cls ≠ "java/lang/invoke/VarHandle") ∧ Cond.instantiable q.1.cls q.2 ∈ tables_1 ∧ Cond.privateMethod q.1 ∈ tables_1 ∧ Cond.instanceMethod q.1 ∈ tables_1
theorem lw_p0 : lw_okq (⟨"PartedLand", "mayChangeOn", "(I)Z"⟩, 8) := ⟨⟨by decide +kernel, by decide +kernel⟩, List.mem_of_getElem? (i := 20) (by decide +kernel), List.mem_of_getElem? (i := 358) (by decide +kernel), List.mem_of_getElem? (i := 359) (by decide +kernel)⟩
theorem lw_p1 : lw_okq (⟨"PartedLand$History", "partOff", "(II)V"⟩, 17) := ⟨⟨by decide +kernel, by decide +kernel⟩, List.mem_of_getElem? (i := 28) (by decide +kernel), List.mem_of_getElem? (i := 398) (by decide +kernel), List.mem_of_getElem? (i := 399) (by decide +kernel)⟩
theorem lw_p2 : lw_okq (⟨"PartedLand$History", "comesOutOf", "(I)V"⟩, 17) := ⟨⟨by decide +kernel, by decide +kernel⟩, List.mem_of_getElem? (i := 28) (by decide +kernel), List.mem_of_getElem? (i := 402) (by decide +kernel), List.mem_of_getElem? (i := 403) (by decide +kernel)⟩
theorem lw_p3 : lw_okq (⟨"PartedLand$History", "moveGrounds", "(III)V"⟩, 17) := ⟨⟨by decide +kernel, by decide +kernel⟩, List.mem_of_getElem? (i := 28) (by decide +kernel), List.mem_of_getElem? (i := 407) (by decide +kernel), List.mem_of_getElem? (i := 408) (by decide +kernel)⟩
theorem lw_p4 : lw_okq (⟨"PartedLand$History", "fallApart", "(II)V"⟩, 17) := ⟨⟨by decide +kernel, by decide +kernel⟩, List.mem_of_getElem? (i := 28) (by decide +kernel), List.mem_of_getElem? (i := 411) (by decide +kernel), List.mem_of_getElem? (i := 412) (by decide +kernel)⟩
theorem lw_p5 : lw_okq (⟨"PartedLand$History", "ends", "(I)V"⟩, 17) := ⟨⟨by decide +kernel, by decide +kernel⟩, List.mem_of_getElem? (i := 28) (by decide +kernel), List.mem_of_getElem? (i := 415) (by decide +kernel), List.mem_of_getElem? (i := 416) (by decide +kernel)⟩
theorem lw_p6 : lw_okq (⟨"PartedLand$History", "join", "(II)V"⟩, 17) := ⟨⟨by decide +kernel, by decide +kernel⟩, List.mem_of_getElem? (i := 28) (by decide +kernel), List.mem_of_getElem? (i := 419) (by decide +kernel), List.mem_of_getElem? (i := 420) (by decide +kernel)⟩
theorem lw_p7 : lw_okq (⟨"PartedLand$History", "nextHeir", "(I)I"⟩, 17) := ⟨⟨by decide +kernel, by decide +kernel⟩, List.mem_of_getElem? (i := 28) (by decide +kernel), List.mem_of_getElem? (i := 461) (by decide +kernel), List.mem_of_getElem? (i := 462) (by decide +kernel)⟩
theorem lw_p8 : lw_okq (⟨"PartedLand$Text", "readLine", "()Z"⟩, 7) := ⟨⟨by decide +kernel, by decide +kernel⟩, List.mem_of_getElem? (i := 112) (by decide +kernel), List.mem_of_getElem? (i := 496) (by decide +kernel), List.mem_of_getElem? (i := 497) (by decide +kernel)⟩
theorem lw_p9 : lw_okq (⟨"PartedLand$Text", "nextToken", "()V"⟩, 7) := ⟨⟨by decide +kernel, by decide +kernel⟩, List.mem_of_getElem? (i := 112) (by decide +kernel), List.mem_of_getElem? (i := 500) (by decide +kernel), List.mem_of_getElem? (i := 501) (by decide +kernel)⟩
theorem lw_p10 : lw_okq (⟨"PartedLand$Text", "isWord", "(Ljava/lang/String;)Z"⟩, 7) := ⟨⟨by decide +kernel, by decide +kernel⟩, List.mem_of_getElem? (i := 112) (by decide +kernel), List.mem_of_getElem? (i := 511) (by decide +kernel), List.mem_of_getElem? (i := 512) (by decide +kernel)⟩
theorem lw_p11 : lw_okq (⟨"PartedLand$Text", "put", "(II)Z"⟩, 7) := ⟨⟨by decide +kernel, by decide +kernel⟩, List.mem_of_getElem? (i := 112) (by decide +kernel), List.mem_of_getElem? (i := 563) (by decide +kernel), List.mem_of_getElem? (i := 564) (by decide +kernel)⟩
theorem lw_p12 : lw_okq (⟨"PartedLand$Text", "readSilence", "()Z"⟩, 7) := ⟨⟨by decide +kernel, by decide +kernel⟩, List.mem_of_getElem? (i := 112) (by decide +kernel), List.mem_of_getElem? (i := 569) (by decide +kernel), List.mem_of_getElem? (i := 570) (by decide +kernel)⟩
theorem lw_p13 : lw_okq (⟨"PartedLand$Text", "readNumber", "()Z"⟩, 7) := ⟨⟨by decide +kernel, by decide +kernel⟩, List.mem_of_getElem? (i := 112) (by decide +kernel), List.mem_of_getElem? (i := 576) (by decide +kernel), List.mem_of_getElem? (i := 577) (by decide +kernel)⟩
theorem lw_p14 : lw_okq (⟨"PartedLand$Text", "readChoice", "(ILjava/lang/String;Ljava/lang/String;Ljava/lang/String;)Z"⟩, 7) := ⟨⟨by decide +kernel, by decide +kernel⟩, List.mem_of_getElem? (i := 112) (by decide +kernel), List.mem_of_getElem? (i := 584) (by decide +kernel), List.mem_of_getElem? (i := 585) (by decide +kernel)⟩
theorem lw_p15 : lw_okq (⟨"PartedLand$Pacts", "boundByTrade", "(III)I"⟩, 13) := ⟨⟨by decide +kernel, by decide +kernel⟩, List.mem_of_getElem? (i := 193) (by decide +kernel), List.mem_of_getElem? (i := 649) (by decide +kernel), List.mem_of_getElem? (i := 650) (by decide +kernel)⟩
def lw_privs_1 : List (MethodName × Nat) := [(⟨"PartedLand", "mayChangeOn", "(I)Z"⟩, 8), (⟨"PartedLand$History", "partOff", "(II)V"⟩, 17), (⟨"PartedLand$History", "comesOutOf", "(I)V"⟩, 17), (⟨"PartedLand$History", "moveGrounds", "(III)V"⟩, 17), (⟨"PartedLand$History", "fallApart", "(II)V"⟩, 17), (⟨"PartedLand$History", "ends", "(I)V"⟩, 17), (⟨"PartedLand$History", "join", "(II)V"⟩, 17), (⟨"PartedLand$History", "nextHeir", "(I)I"⟩, 17), (⟨"PartedLand$Text", "readLine", "()Z"⟩, 7), (⟨"PartedLand$Text", "nextToken", "()V"⟩, 7), (⟨"PartedLand$Text", "isWord", "(Ljava/lang/String;)Z"⟩, 7), (⟨"PartedLand$Text", "put", "(II)Z"⟩, 7), (⟨"PartedLand$Text", "readSilence", "()Z"⟩, 7), (⟨"PartedLand$Text", "readNumber", "()Z"⟩, 7), (⟨"PartedLand$Text", "readChoice", "(ILjava/lang/String;Ljava/lang/String;Ljava/lang/String;)Z"⟩, 7), (⟨"PartedLand$Pacts", "boundByTrade", "(III)I"⟩, 13)]
theorem lw_r1 : ∀ q ∈ lw_privs_1, lw_okq q := List.forall_mem_cons.mpr ⟨lw_p0, List.forall_mem_cons.mpr ⟨lw_p1, List.forall_mem_cons.mpr ⟨lw_p2, List.forall_mem_cons.mpr ⟨lw_p3, List.forall_mem_cons.mpr ⟨lw_p4, List.forall_mem_cons.mpr ⟨lw_p5, List.forall_mem_cons.mpr ⟨lw_p6, List.forall_mem_cons.mpr ⟨lw_p7, List.forall_mem_cons.mpr ⟨lw_p8, List.forall_mem_cons.mpr ⟨lw_p9, List.forall_mem_cons.mpr ⟨lw_p10, List.forall_mem_cons.mpr ⟨lw_p11, List.forall_mem_cons.mpr ⟨lw_p12, List.forall_mem_cons.mpr ⟨lw_p13, List.forall_mem_cons.mpr ⟨lw_p14, List.forall_mem_cons.mpr ⟨lw_p15, fun _ h => absurd h List.not_mem_nil⟩⟩⟩⟩⟩⟩⟩⟩⟩⟩⟩⟩⟩⟩⟩⟩
theorem lw_p16 : lw_okq (⟨"PartedLand$Pacts", "handOn", "(III)V"⟩, 13) := ⟨⟨by decide +kernel, by decide +kernel⟩, List.mem_of_getElem? (i := 193) (by decide +kernel), List.mem_of_getElem? (i := 654) (by decide +kernel), List.mem_of_getElem? (i := 655) (by decide +kernel)⟩
theorem lw_p17 : lw_okq (⟨"PartedLand$Pacts", "isHeld", "(IIII)Z"⟩, 13) := ⟨⟨by decide +kernel, by decide +kernel⟩, List.mem_of_getElem? (i := 193) (by decide +kernel), List.mem_of_getElem? (i := 658) (by decide +kernel), List.mem_of_getElem? (i := 659) (by decide +kernel)⟩
theorem lw_p18 : lw_okq (⟨"PartedLand$Pacts", "boundByRank", "(III)I"⟩, 13) := ⟨⟨by decide +kernel, by decide +kernel⟩, List.mem_of_getElem? (i := 193) (by decide +kernel), List.mem_of_getElem? (i := 672) (by decide +kernel), List.mem_of_getElem? (i := 673) (by decide +kernel)⟩
theorem lw_p19 : lw_okq (⟨"PartedLand$Voices", "latest", "(III)I"⟩, 5) := ⟨⟨by decide +kernel, by decide +kernel⟩, List.mem_of_getElem? (i := 170) (by decide +kernel), List.mem_of_getElem? (i := 684) (by decide +kernel), List.mem_of_getElem? (i := 685) (by decide +kernel)⟩
theorem lw_p20 : lw_okq (⟨"PartedLand$Goods", "divide", "(IIIII)V"⟩, 12) := ⟨⟨by decide +kernel, by decide +kernel⟩, List.mem_of_getElem? (i := 241) (by decide +kernel), List.mem_of_getElem? (i := 721) (by decide +kernel), List.mem_of_getElem? (i := 722) (by decide +kernel)⟩
theorem lw_p21 : lw_okq (⟨"PartedLand$Goods", "divideAt", "(II)V"⟩, 12) := ⟨⟨by decide +kernel, by decide +kernel⟩, List.mem_of_getElem? (i := 241) (by decide +kernel), List.mem_of_getElem? (i := 726) (by decide +kernel), List.mem_of_getElem? (i := 727) (by decide +kernel)⟩
theorem lw_p22 : lw_okq (⟨"PartedLand$Goods", "partOfFirst", "(III)I"⟩, 12) := ⟨⟨by decide +kernel, by decide +kernel⟩, List.mem_of_getElem? (i := 241) (by decide +kernel), List.mem_of_getElem? (i := 730) (by decide +kernel), List.mem_of_getElem? (i := 731) (by decide +kernel)⟩
theorem lw_p23 : lw_okq (⟨"PartedLand$Goods", "key", "(III)I"⟩, 12) := ⟨⟨by decide +kernel, by decide +kernel⟩, List.mem_of_getElem? (i := 241) (by decide +kernel), List.mem_of_getElem? (i := 734) (by decide +kernel), List.mem_of_getElem? (i := 735) (by decide +kernel)⟩
theorem lw_p24 : lw_okq (⟨"PartedLand$Goods", "ownerAbroad", "(II)I"⟩, 12) := ⟨⟨by decide +kernel, by decide +kernel⟩, List.mem_of_getElem? (i := 241) (by decide +kernel), List.mem_of_getElem? (i := 759) (by decide +kernel), List.mem_of_getElem? (i := 760) (by decide +kernel)⟩
theorem lw_p25 : lw_okq (⟨"PartedLand$Goods", "ownerAbroadBehind", "(II)I"⟩, 12) := ⟨⟨by decide +kernel, by decide +kernel⟩, List.mem_of_getElem? (i := 241) (by decide +kernel), List.mem_of_getElem? (i := 763) (by decide +kernel), List.mem_of_getElem? (i := 764) (by decide +kernel)⟩
theorem lw_p26 : lw_okq (⟨"PartedLand$Pacts", "turnsSinceAhead", "(I)I"⟩, 13) := ⟨⟨by decide +kernel, by decide +kernel⟩, List.mem_of_getElem? (i := 193) (by decide +kernel), List.mem_of_getElem? (i := 803) (by decide +kernel), List.mem_of_getElem? (i := 804) (by decide +kernel)⟩
theorem lw_p27 : lw_okq (⟨"PartedLandModel", "isLate", "(I)Z"⟩, 60) := ⟨⟨by decide +kernel, by decide +kernel⟩, List.mem_of_getElem? (i := 838) (by decide +kernel), List.mem_of_getElem? (i := 1042) (by decide +kernel), List.mem_of_getElem? (i := 1043) (by decide +kernel)⟩
theorem lw_p28 : lw_okq (⟨"PartedLandModel", "isThere", "(II)Z"⟩, 60) := ⟨⟨by decide +kernel, by decide +kernel⟩, List.mem_of_getElem? (i := 838) (by decide +kernel), List.mem_of_getElem? (i := 1046) (by decide +kernel), List.mem_of_getElem? (i := 1047) (by decide +kernel)⟩
theorem lw_p29 : lw_okq (⟨"PartedLandModel", "isSome", "(II)Z"⟩, 60) := ⟨⟨by decide +kernel, by decide +kernel⟩, List.mem_of_getElem? (i := 838) (by decide +kernel), List.mem_of_getElem? (i := 1050) (by decide +kernel), List.mem_of_getElem? (i := 1051) (by decide +kernel)⟩
theorem lw_p30 : lw_okq (⟨"PartedLandModel", "groundsOf", "(II)I"⟩, 60) := ⟨⟨by decide +kernel, by decide +kernel⟩, List.mem_of_getElem? (i := 838) (by decide +kernel), List.mem_of_getElem? (i := 1054) (by decide +kernel), List.mem_of_getElem? (i := 1055) (by decide +kernel)⟩
theorem lw_p31 : lw_okq (⟨"PartedLandModel", "doLast", "(IIII)V"⟩, 60) := ⟨⟨by decide +kernel, by decide +kernel⟩, List.mem_of_getElem? (i := 838) (by decide +kernel), List.mem_of_getElem? (i := 1058) (by decide +kernel), List.mem_of_getElem? (i := 1059) (by decide +kernel)⟩
def lw_privs_2 : List (MethodName × Nat) := [(⟨"PartedLand$Pacts", "handOn", "(III)V"⟩, 13), (⟨"PartedLand$Pacts", "isHeld", "(IIII)Z"⟩, 13), (⟨"PartedLand$Pacts", "boundByRank", "(III)I"⟩, 13), (⟨"PartedLand$Voices", "latest", "(III)I"⟩, 5), (⟨"PartedLand$Goods", "divide", "(IIIII)V"⟩, 12), (⟨"PartedLand$Goods", "divideAt", "(II)V"⟩, 12), (⟨"PartedLand$Goods", "partOfFirst", "(III)I"⟩, 12), (⟨"PartedLand$Goods", "key", "(III)I"⟩, 12), (⟨"PartedLand$Goods", "ownerAbroad", "(II)I"⟩, 12), (⟨"PartedLand$Goods", "ownerAbroadBehind", "(II)I"⟩, 12), (⟨"PartedLand$Pacts", "turnsSinceAhead", "(I)I"⟩, 13), (⟨"PartedLandModel", "isLate", "(I)Z"⟩, 60), (⟨"PartedLandModel", "isThere", "(II)Z"⟩, 60), (⟨"PartedLandModel", "isSome", "(II)Z"⟩, 60), (⟨"PartedLandModel", "groundsOf", "(II)I"⟩, 60), (⟨"PartedLandModel", "doLast", "(IIII)V"⟩, 60)]
theorem lw_r2 : ∀ q ∈ lw_privs_2, lw_okq q := List.forall_mem_cons.mpr ⟨lw_p16, List.forall_mem_cons.mpr ⟨lw_p17, List.forall_mem_cons.mpr ⟨lw_p18, List.forall_mem_cons.mpr ⟨lw_p19, List.forall_mem_cons.mpr ⟨lw_p20, List.forall_mem_cons.mpr ⟨lw_p21, List.forall_mem_cons.mpr ⟨lw_p22, List.forall_mem_cons.mpr ⟨lw_p23, List.forall_mem_cons.mpr ⟨lw_p24, List.forall_mem_cons.mpr ⟨lw_p25, List.forall_mem_cons.mpr ⟨lw_p26, List.forall_mem_cons.mpr ⟨lw_p27, List.forall_mem_cons.mpr ⟨lw_p28, List.forall_mem_cons.mpr ⟨lw_p29, List.forall_mem_cons.mpr ⟨lw_p30, List.forall_mem_cons.mpr ⟨lw_p31, fun _ h => absurd h List.not_mem_nil⟩⟩⟩⟩⟩⟩⟩⟩⟩⟩⟩⟩⟩⟩⟩⟩
theorem lw_p32 : lw_okq (⟨"PartedLandModel", "doneBy", "(I)I"⟩, 60) := ⟨⟨by decide +kernel, by decide +kernel⟩, List.mem_of_getElem? (i := 838) (by decide +kernel), List.mem_of_getElem? (i := 1066) (by decide +kernel), List.mem_of_getElem? (i := 1067) (by decide +kernel)⟩
theorem lw_p33 : lw_okq (⟨"PartedLandModel", "isLand", "(I)Z"⟩, 60) := ⟨⟨by decide +kernel, by decide +kernel⟩, List.mem_of_getElem? (i := 838) (by decide +kernel), List.mem_of_getElem? (i := 1074) (by decide +kernel), List.mem_of_getElem? (i := 1075) (by decide +kernel)⟩
theorem lw_p34 : lw_okq (⟨"PartedLandModel", "isGround", "(I)Z"⟩, 60) := ⟨⟨by decide +kernel, by decide +kernel⟩, List.mem_of_getElem? (i := 838) (by decide +kernel), List.mem_of_getElem? (i := 1082) (by decide +kernel), List.mem_of_getElem? (i := 1083) (by decide +kernel)⟩
theorem lw_p35 : lw_okq (⟨"PartedLandModel", "heirOf", "(II)I"⟩, 60) := ⟨⟨by decide +kernel, by decide +kernel⟩, List.mem_of_getElem? (i := 838) (by decide +kernel), List.mem_of_getElem? (i := 1094) (by decide +kernel), List.mem_of_getElem? (i := 1095) (by decide +kernel)⟩
theorem lw_p36 : lw_okq (⟨"PartedLandModel", "comesBy", "(II)Z"⟩, 60) := ⟨⟨by decide +kernel, by decide +kernel⟩, List.mem_of_getElem? (i := 838) (by decide +kernel), List.mem_of_getElem? (i := 1098) (by decide +kernel), List.mem_of_getElem? (i := 1099) (by decide +kernel)⟩
theorem lw_p37 : lw_okq (⟨"PartedLandModel", "headsOf", "(I)I"⟩, 60) := ⟨⟨by decide +kernel, by decide +kernel⟩, List.mem_of_getElem? (i := 838) (by decide +kernel), List.mem_of_getElem? (i := 1102) (by decide +kernel), List.mem_of_getElem? (i := 1103) (by decide +kernel)⟩
theorem lw_p38 : lw_okq (⟨"PartedLandModel", "isRead", "()Z"⟩, 60) := ⟨⟨by decide +kernel, by decide +kernel⟩, List.mem_of_getElem? (i := 838) (by decide +kernel), List.mem_of_getElem? (i := 1119) (by decide +kernel), List.mem_of_getElem? (i := 1120) (by decide +kernel)⟩
theorem lw_p39 : lw_okq (⟨"PartedLandModel", "isLine", "()Z"⟩, 60) := ⟨⟨by decide +kernel, by decide +kernel⟩, List.mem_of_getElem? (i := 838) (by decide +kernel), List.mem_of_getElem? (i := 1123) (by decide +kernel), List.mem_of_getElem? (i := 1124) (by decide +kernel)⟩
theorem lw_p40 : lw_okq (⟨"PartedLandModel", "nextToken", "()V"⟩, 60) := ⟨⟨by decide +kernel, by decide +kernel⟩, List.mem_of_getElem? (i := 838) (by decide +kernel), List.mem_of_getElem? (i := 1127) (by decide +kernel), List.mem_of_getElem? (i := 1128) (by decide +kernel)⟩
theorem lw_p41 : lw_okq (⟨"PartedLandModel", "isOf", "(IJJJ)Z"⟩, 60) := ⟨⟨by decide +kernel, by decide +kernel⟩, List.mem_of_getElem? (i := 838) (by decide +kernel), List.mem_of_getElem? (i := 1142) (by decide +kernel), List.mem_of_getElem? (i := 1143) (by decide +kernel)⟩
theorem lw_p42 : lw_okq (⟨"PartedLandModel", "fails", "()Z"⟩, 60) := ⟨⟨by decide +kernel, by decide +kernel⟩, List.mem_of_getElem? (i := 838) (by decide +kernel), List.mem_of_getElem? (i := 1146) (by decide +kernel), List.mem_of_getElem? (i := 1147) (by decide +kernel)⟩
theorem lw_p43 : lw_okq (⟨"PartedLandModel", "isPact", "(I)Z"⟩, 60) := ⟨⟨by decide +kernel, by decide +kernel⟩, List.mem_of_getElem? (i := 838) (by decide +kernel), List.mem_of_getElem? (i := 1178) (by decide +kernel), List.mem_of_getElem? (i := 1179) (by decide +kernel)⟩
theorem lw_p44 : lw_okq (⟨"PartedLandModel", "boundOf", "(II)I"⟩, 60) := ⟨⟨by decide +kernel, by decide +kernel⟩, List.mem_of_getElem? (i := 838) (by decide +kernel), List.mem_of_getElem? (i := 1190) (by decide +kernel), List.mem_of_getElem? (i := 1191) (by decide +kernel)⟩
theorem lw_p45 : lw_okq (⟨"PartedLandModel", "byRank", "(III)I"⟩, 60) := ⟨⟨by decide +kernel, by decide +kernel⟩, List.mem_of_getElem? (i := 838) (by decide +kernel), List.mem_of_getElem? (i := 1194) (by decide +kernel), List.mem_of_getElem? (i := 1195) (by decide +kernel)⟩
theorem lw_p46 : lw_okq (⟨"PartedLandModel", "isRecognized", "(II)Z"⟩, 60) := ⟨⟨by decide +kernel, by decide +kernel⟩, List.mem_of_getElem? (i := 838) (by decide +kernel), List.mem_of_getElem? (i := 1198) (by decide +kernel), List.mem_of_getElem? (i := 1199) (by decide +kernel)⟩
theorem lw_p47 : lw_okq (⟨"PartedLandModel", "byTrade", "(III)I"⟩, 60) := ⟨⟨by decide +kernel, by decide +kernel⟩, List.mem_of_getElem? (i := 838) (by decide +kernel), List.mem_of_getElem? (i := 1202) (by decide +kernel), List.mem_of_getElem? (i := 1203) (by decide +kernel)⟩
def lw_privs_3 : List (MethodName × Nat) := [(⟨"PartedLandModel", "doneBy", "(I)I"⟩, 60), (⟨"PartedLandModel", "isLand", "(I)Z"⟩, 60), (⟨"PartedLandModel", "isGround", "(I)Z"⟩, 60), (⟨"PartedLandModel", "heirOf", "(II)I"⟩, 60), (⟨"PartedLandModel", "comesBy", "(II)Z"⟩, 60), (⟨"PartedLandModel", "headsOf", "(I)I"⟩, 60), (⟨"PartedLandModel", "isRead", "()Z"⟩, 60), (⟨"PartedLandModel", "isLine", "()Z"⟩, 60), (⟨"PartedLandModel", "nextToken", "()V"⟩, 60), (⟨"PartedLandModel", "isOf", "(IJJJ)Z"⟩, 60), (⟨"PartedLandModel", "fails", "()Z"⟩, 60), (⟨"PartedLandModel", "isPact", "(I)Z"⟩, 60), (⟨"PartedLandModel", "boundOf", "(II)I"⟩, 60), (⟨"PartedLandModel", "byRank", "(III)I"⟩, 60), (⟨"PartedLandModel", "isRecognized", "(II)Z"⟩, 60), (⟨"PartedLandModel", "byTrade", "(III)I"⟩, 60)]
theorem lw_r3 : ∀ q ∈ lw_privs_3, lw_okq q := List.forall_mem_cons.mpr ⟨lw_p32, List.forall_mem_cons.mpr ⟨lw_p33, List.forall_mem_cons.mpr ⟨lw_p34, List.forall_mem_cons.mpr ⟨lw_p35, List.forall_mem_cons.mpr ⟨lw_p36, List.forall_mem_cons.mpr ⟨lw_p37, List.forall_mem_cons.mpr ⟨lw_p38, List.forall_mem_cons.mpr ⟨lw_p39, List.forall_mem_cons.mpr ⟨lw_p40, List.forall_mem_cons.mpr ⟨lw_p41, List.forall_mem_cons.mpr ⟨lw_p42, List.forall_mem_cons.mpr ⟨lw_p43, List.forall_mem_cons.mpr ⟨lw_p44, List.forall_mem_cons.mpr ⟨lw_p45, List.forall_mem_cons.mpr ⟨lw_p46, List.forall_mem_cons.mpr ⟨lw_p47, fun _ h => absurd h List.not_mem_nil⟩⟩⟩⟩⟩⟩⟩⟩⟩⟩⟩⟩⟩⟩⟩⟩
theorem lw_p48 : lw_okq (⟨"PartedLandModel", "isBound", "(IIIII)Z"⟩, 60) := ⟨⟨by decide +kernel, by decide +kernel⟩, List.mem_of_getElem? (i := 838) (by decide +kernel), List.mem_of_getElem? (i := 1206) (by decide +kernel), List.mem_of_getElem? (i := 1207) (by decide +kernel)⟩
theorem lw_p49 : lw_okq (⟨"PartedLandModel", "doWordsLet", "(III)Z"⟩, 60) := ⟨⟨by decide +kernel, by decide +kernel⟩, List.mem_of_getElem? (i := 838) (by decide +kernel), List.mem_of_getElem? (i := 1210) (by decide +kernel), List.mem_of_getElem? (i := 1211) (by decide +kernel)⟩
theorem lw_p50 : lw_okq (⟨"PartedLandModel", "latest", "(IIZI)I"⟩, 60) := ⟨⟨by decide +kernel, by decide +kernel⟩, List.mem_of_getElem? (i := 838) (by decide +kernel), List.mem_of_getElem? (i := 1214) (by decide +kernel), List.mem_of_getElem? (i := 1215) (by decide +kernel)⟩
theorem lw_p51 : lw_okq (⟨"PartedLandModel", "firstYes", "(III)I"⟩, 60) := ⟨⟨by decide +kernel, by decide +kernel⟩, List.mem_of_getElem? (i := 838) (by decide +kernel), List.mem_of_getElem? (i := 1218) (by decide +kernel), List.mem_of_getElem? (i := 1219) (by decide +kernel)⟩
theorem lw_p52 : lw_okq (⟨"PartedLandModel", "owesOf", "(IIII)I"⟩, 60) := ⟨⟨by decide +kernel, by decide +kernel⟩, List.mem_of_getElem? (i := 838) (by decide +kernel), List.mem_of_getElem? (i := 1234) (by decide +kernel), List.mem_of_getElem? (i := 1235) (by decide +kernel)⟩
theorem lw_p53 : lw_okq (⟨"PartedLandModel", "beginPart", "(II)V"⟩, 60) := ⟨⟨by decide +kernel, by decide +kernel⟩, List.mem_of_getElem? (i := 838) (by decide +kernel), List.mem_of_getElem? (i := 1238) (by decide +kernel), List.mem_of_getElem? (i := 1239) (by decide +kernel)⟩
theorem lw_p54 : lw_okq (⟨"PartedLandModel", "shareAt", "(II)V"⟩, 60) := ⟨⟨by decide +kernel, by decide +kernel⟩, List.mem_of_getElem? (i := 838) (by decide +kernel), List.mem_of_getElem? (i := 1242) (by decide +kernel), List.mem_of_getElem? (i := 1243) (by decide +kernel)⟩
theorem lw_p55 : lw_okq (⟨"PartedLandModel", "keyOf", "(III)I"⟩, 60) := ⟨⟨by decide +kernel, by decide +kernel⟩, List.mem_of_getElem? (i := 838) (by decide +kernel), List.mem_of_getElem? (i := 1246) (by decide +kernel), List.mem_of_getElem? (i := 1247) (by decide +kernel)⟩
theorem lw_p56 : lw_okq (⟨"PartedLandModel", "worthOf", "(I)I"⟩, 60) := ⟨⟨by decide +kernel, by decide +kernel⟩, List.mem_of_getElem? (i := 838) (by decide +kernel), List.mem_of_getElem? (i := 1250) (by decide +kernel), List.mem_of_getElem? (i := 1251) (by decide +kernel)⟩
theorem lw_p57 : lw_okq (⟨"PartedLandModel", "ownsOf", "(IIII)I"⟩, 60) := ⟨⟨by decide +kernel, by decide +kernel⟩, List.mem_of_getElem? (i := 838) (by decide +kernel), List.mem_of_getElem? (i := 1262) (by decide +kernel), List.mem_of_getElem? (i := 1263) (by decide +kernel)⟩
theorem lw_p58 : lw_okq (⟨"PartedLandModel", "abroadAt", "(II)V"⟩, 60) := ⟨⟨by decide +kernel, by decide +kernel⟩, List.mem_of_getElem? (i := 838) (by decide +kernel), List.mem_of_getElem? (i := 1266) (by decide +kernel), List.mem_of_getElem? (i := 1267) (by decide +kernel)⟩
theorem lw_p59 : lw_okq (⟨"PartedLandModel", "findBound", "(I)V"⟩, 60) := ⟨⟨by decide +kernel, by decide +kernel⟩, List.mem_of_getElem? (i := 838) (by decide +kernel), List.mem_of_getElem? (i := 1282) (by decide +kernel), List.mem_of_getElem? (i := 1283) (by decide +kernel)⟩
theorem lw_p60 : lw_okq (⟨"PartedLandModel", "burdenOf", "(III)I"⟩, 60) := ⟨⟨by decide +kernel, by decide +kernel⟩, List.mem_of_getElem? (i := 838) (by decide +kernel), List.mem_of_getElem? (i := 1297) (by decide +kernel), List.mem_of_getElem? (i := 1298) (by decide +kernel)⟩
def lw_privs_4 : List (MethodName × Nat) := [(⟨"PartedLandModel", "isBound", "(IIIII)Z"⟩, 60), (⟨"PartedLandModel", "doWordsLet", "(III)Z"⟩, 60), (⟨"PartedLandModel", "latest", "(IIZI)I"⟩, 60), (⟨"PartedLandModel", "firstYes", "(III)I"⟩, 60), (⟨"PartedLandModel", "owesOf", "(IIII)I"⟩, 60), (⟨"PartedLandModel", "beginPart", "(II)V"⟩, 60), (⟨"PartedLandModel", "shareAt", "(II)V"⟩, 60), (⟨"PartedLandModel", "keyOf", "(III)I"⟩, 60), (⟨"PartedLandModel", "worthOf", "(I)I"⟩, 60), (⟨"PartedLandModel", "ownsOf", "(IIII)I"⟩, 60), (⟨"PartedLandModel", "abroadAt", "(II)V"⟩, 60), (⟨"PartedLandModel", "findBound", "(I)V"⟩, 60), (⟨"PartedLandModel", "burdenOf", "(III)I"⟩, 60)]
theorem lw_r4 : ∀ q ∈ lw_privs_4, lw_okq q := List.forall_mem_cons.mpr ⟨lw_p48, List.forall_mem_cons.mpr ⟨lw_p49, List.forall_mem_cons.mpr ⟨lw_p50, List.forall_mem_cons.mpr ⟨lw_p51, List.forall_mem_cons.mpr ⟨lw_p52, List.forall_mem_cons.mpr ⟨lw_p53, List.forall_mem_cons.mpr ⟨lw_p54, List.forall_mem_cons.mpr ⟨lw_p55, List.forall_mem_cons.mpr ⟨lw_p56, List.forall_mem_cons.mpr ⟨lw_p57, List.forall_mem_cons.mpr ⟨lw_p58, List.forall_mem_cons.mpr ⟨lw_p59, List.forall_mem_cons.mpr ⟨lw_p60, fun _ h => absurd h List.not_mem_nil⟩⟩⟩⟩⟩⟩⟩⟩⟩⟩⟩⟩⟩
def lw_privs : List (MethodName × Nat) := lw_privs_1 ++ (lw_privs_2 ++ (lw_privs_3 ++ (lw_privs_4)))
def lw_tbl : List Cond := k2_sels lw_privs ++ tables_1
theorem lw_privs_ok : ∀ q ∈ lw_privs, lw_okq q := by
  show ∀ q ∈ lw_privs_1 ++ (lw_privs_2 ++ (lw_privs_3 ++ (lw_privs_4))), lw_okq q
  exact List.forall_mem_append.mpr ⟨lw_r1, List.forall_mem_append.mpr ⟨lw_r2, List.forall_mem_append.mpr ⟨lw_r3, lw_r4⟩⟩⟩
def RX0 : String := "PartedLand$Days"
def TX0 : u_T := fun k => match k with
  | _ => ("PartedLand$Days", "marks", "[J", true)
def tyX0 : Nat → FieldType := fun k => match k with
  | _ => .array .long
theorem nmX0 : ∀ a, a < 1 → ∀ b, b < 1 → a ≠ b → (TX0 a).2.1 ≠ (TX0 b).2.1 := by decide +kernel
theorem tyX0_ok : ∀ k, k < 1 → parseFieldDescriptor (TX0 k).2.2.1 = some (tyX0 k) := by decide +kernel
def RX1 : String := "PartedLand$Goods"
def TX1 : u_T := fun k => match k with
  | 0 => ("PartedLand$Goods", "history", "LPartedLand$History;", true)
  | 1 => ("PartedLand$Goods", "debtor", "[I", true)
  | 2 => ("PartedLand$Goods", "sum", "[I", true)
  | 3 => ("PartedLand$Goods", "debtPlace", "[I", true)
  | 4 => ("PartedLand$Goods", "day", "[I", true)
  | 5 => ("PartedLand$Goods", "debtCount", "I", false)
  | 6 => ("PartedLand$Goods", "latestDay", "I", false)
  | 7 => ("PartedLand$Goods", "kind", "[I", true)
  | 8 => ("PartedLand$Goods", "many", "[I", true)
  | 9 => ("PartedLand$Goods", "thingPlace", "[I", true)
  | 10 => ("PartedLand$Goods", "thingCount", "I", false)
  | _ => ("PartedLand$Goods", "amounts", "[I", true)
def tyX1 : Nat → FieldType := fun k => match k with
  | 0 => .object "PartedLand$History"
  | 1 => .array .int
  | 2 => .array .int
  | 3 => .array .int
  | 4 => .array .int
  | 5 => .int
  | 6 => .int
  | 7 => .array .int
  | 8 => .array .int
  | 9 => .array .int
  | 10 => .int
  | _ => .array .int
theorem nmX1 : ∀ a, a < 12 → ∀ b, b < 12 → a ≠ b → (TX1 a).2.1 ≠ (TX1 b).2.1 := by decide +kernel
theorem tyX1_ok : ∀ k, k < 12 → parseFieldDescriptor (TX1 k).2.2.1 = some (tyX1 k) := by decide +kernel
def RX2 : String := "PartedLand$History"
def TX2 : u_T := fun k => match k with
  | 0 => ("PartedLand$History", "heads", "[I", true)
  | 1 => ("PartedLand$History", "worth", "[I", true)
  | 2 => ("PartedLand$History", "groundCount", "I", false)
  | 3 => ("PartedLand$History", "parent", "[I", true)
  | 4 => ("PartedLand$History", "cameOn", "[I", true)
  | 5 => ("PartedLand$History", "endedBy", "[I", true)
  | 6 => ("PartedLand$History", "landCount", "I", false)
  | 7 => ("PartedLand$History", "kind", "[I", true)
  | 8 => ("PartedLand$History", "day", "[I", true)
  | 9 => ("PartedLand$History", "a", "[I", true)
  | 10 => ("PartedLand$History", "b", "[I", true)
  | 11 => ("PartedLand$History", "firstThatCame", "[I", true)
  | 12 => ("PartedLand$History", "setOfFirst", "[I", true)
  | 13 => ("PartedLand$History", "setOfOthers", "[I", true)
  | 14 => ("PartedLand$History", "changeCount", "I", false)
  | 15 => ("PartedLand$History", "held", "[[I", true)
  | _ => ("PartedLand$History", "there", "[I", true)
def tyX2 : Nat → FieldType := fun k => match k with
  | 0 => .array .int
  | 1 => .array .int
  | 2 => .int
  | 3 => .array .int
  | 4 => .array .int
  | 5 => .array .int
  | 6 => .int
  | 7 => .array .int
  | 8 => .array .int
  | 9 => .array .int
  | 10 => .array .int
  | 11 => .array .int
  | 12 => .array .int
  | 13 => .array .int
  | 14 => .int
  | 15 => .array (.array .int)
  | _ => .array .int
theorem nmX2 : ∀ a, a < 17 → ∀ b, b < 17 → a ≠ b → (TX2 a).2.1 ≠ (TX2 b).2.1 := by decide +kernel
theorem tyX2_ok : ∀ k, k < 17 → parseFieldDescriptor (TX2 k).2.2.1 = some (tyX2 k) := by decide +kernel
def RX3 : String := "PartedLand$Pacts"
def TX3 : u_T := fun k => match k with
  | 0 => ("PartedLand$Pacts", "history", "LPartedLand$History;", true)
  | 1 => ("PartedLand$Pacts", "text", "LPartedLand$Text;", true)
  | 2 => ("PartedLand$Pacts", "words", "LPartedLand$Words;", true)
  | 3 => ("PartedLand$Pacts", "voices", "LPartedLand$Voices;", true)
  | 4 => ("PartedLand$Pacts", "kind", "[I", true)
  | 5 => ("PartedLand$Pacts", "signer", "[I", true)
  | 6 => ("PartedLand$Pacts", "place", "[I", true)
  | 7 => ("PartedLand$Pacts", "day", "[I", true)
  | 8 => ("PartedLand$Pacts", "pactCount", "I", false)
  | 9 => ("PartedLand$Pacts", "latestDay", "I", false)
  | 10 => ("PartedLand$Pacts", "cameOut", "I", false)
  | 11 => ("PartedLand$Pacts", "joined", "I", false)
  | _ => ("PartedLand$Pacts", "boundAhead", "[I", true)
def tyX3 : Nat → FieldType := fun k => match k with
  | 0 => .object "PartedLand$History"
  | 1 => .object "PartedLand$Text"
  | 2 => .object "PartedLand$Words"
  | 3 => .object "PartedLand$Voices"
  | 4 => .array .int
  | 5 => .array .int
  | 6 => .array .int
  | 7 => .array .int
  | 8 => .int
  | 9 => .int
  | 10 => .int
  | 11 => .int
  | _ => .array .int
theorem nmX3 : ∀ a, a < 13 → ∀ b, b < 13 → a ≠ b → (TX3 a).2.1 ≠ (TX3 b).2.1 := by decide +kernel
theorem tyX3_ok : ∀ k, k < 13 → parseFieldDescriptor (TX3 k).2.2.1 = some (tyX3 k) := by decide +kernel
def RX4 : String := "PartedLand$Pensioners"
def TX4 : u_T := fun k => match k with
  | 0 => ("PartedLand$Pensioners", "land", "[I", true)
  | 1 => ("PartedLand$Pensioners", "bornOn", "[I", true)
  | 2 => ("PartedLand$Pensioners", "livesOn", "[I", true)
  | _ => ("PartedLand$Pensioners", "pensionerCount", "I", false)
def tyX4 : Nat → FieldType := fun k => match k with
  | 0 => .array .int
  | 1 => .array .int
  | 2 => .array .int
  | _ => .int
theorem nmX4 : ∀ a, a < 4 → ∀ b, b < 4 → a ≠ b → (TX4 a).2.1 ≠ (TX4 b).2.1 := by decide +kernel
theorem tyX4_ok : ∀ k, k < 4 → parseFieldDescriptor (TX4 k).2.2.1 = some (tyX4 k) := by decide +kernel
def RX5 : String := "PartedLand$Text"
def TX5 : u_T := fun k => match k with
  | 0 => ("PartedLand$Text", "bytes", "[I", true)
  | 1 => ("PartedLand$Text", "length", "I", false)
  | 2 => ("PartedLand$Text", "rule", "[I", true)
  | 3 => ("PartedLand$Text", "start", "I", false)
  | 4 => ("PartedLand$Text", "end", "I", false)
  | 5 => ("PartedLand$Text", "lines", "I", false)
  | _ => ("PartedLand$Text", "read", "[I", true)
def tyX5 : Nat → FieldType := fun k => match k with
  | 0 => .array .int
  | 1 => .int
  | 2 => .array .int
  | 3 => .int
  | 4 => .int
  | 5 => .int
  | _ => .array .int
theorem nmX5 : ∀ a, a < 7 → ∀ b, b < 7 → a ≠ b → (TX5 a).2.1 ≠ (TX5 b).2.1 := by decide +kernel
theorem tyX5_ok : ∀ k, k < 7 → parseFieldDescriptor (TX5 k).2.2.1 = some (tyX5 k) := by decide +kernel
def RX6 : String := "PartedLand$Voices"
def TX6 : u_T := fun k => match k with
  | 0 => ("PartedLand$Voices", "third", "[I", true)
  | 1 => ("PartedLand$Voices", "land", "[I", true)
  | 2 => ("PartedLand$Voices", "yes", "[Z", true)
  | 3 => ("PartedLand$Voices", "day", "[I", true)
  | _ => ("PartedLand$Voices", "voiceCount", "I", false)
def tyX6 : Nat → FieldType := fun k => match k with
  | 0 => .array .int
  | 1 => .array .int
  | 2 => .array .boolean
  | 3 => .array .int
  | _ => .int
theorem nmX6 : ∀ a, a < 5 → ∀ b, b < 5 → a ≠ b → (TX6 a).2.1 ≠ (TX6 b).2.1 := by decide +kernel
theorem tyX6_ok : ∀ k, k < 5 → parseFieldDescriptor (TX6 k).2.2.1 = some (tyX6 k) := by decide +kernel
def RX7 : String := "PartedLand$Words"
def TX7 : u_T := fun k => match k with
  | 0 => ("PartedLand$Words", "pact", "[I", true)
  | 1 => ("PartedLand$Words", "land", "[I", true)
  | 2 => ("PartedLand$Words", "byThird", "[Z", true)
  | 3 => ("PartedLand$Words", "yes", "[Z", true)
  | 4 => ("PartedLand$Words", "day", "[I", true)
  | _ => ("PartedLand$Words", "wordCount", "I", false)
def tyX7 : Nat → FieldType := fun k => match k with
  | 0 => .array .int
  | 1 => .array .int
  | 2 => .array .boolean
  | 3 => .array .boolean
  | 4 => .array .int
  | _ => .int
theorem nmX7 : ∀ a, a < 6 → ∀ b, b < 6 → a ≠ b → (TX7 a).2.1 ≠ (TX7 b).2.1 := by decide +kernel
theorem tyX7_ok : ∀ k, k < 6 → parseFieldDescriptor (TX7 k).2.2.1 = some (tyX7 k) := by decide +kernel
def RX8 : String := "PartedLand"
def TX8 : u_T := fun k => match k with
  | 0 => ("PartedLand", "history", "LPartedLand$History;", true)
  | 1 => ("PartedLand", "text", "LPartedLand$Text;", true)
  | 2 => ("PartedLand", "words", "LPartedLand$Words;", true)
  | 3 => ("PartedLand", "voices", "LPartedLand$Voices;", true)
  | 4 => ("PartedLand", "pacts", "LPartedLand$Pacts;", true)
  | 5 => ("PartedLand", "goods", "LPartedLand$Goods;", true)
  | 6 => ("PartedLand", "pensioners", "LPartedLand$Pensioners;", true)
  | _ => ("PartedLand", "busyDays", "LPartedLand$Days;", true)
def tyX8 : Nat → FieldType := fun k => match k with
  | 0 => .object "PartedLand$History"
  | 1 => .object "PartedLand$Text"
  | 2 => .object "PartedLand$Words"
  | 3 => .object "PartedLand$Voices"
  | 4 => .object "PartedLand$Pacts"
  | 5 => .object "PartedLand$Goods"
  | 6 => .object "PartedLand$Pensioners"
  | _ => .object "PartedLand$Days"
theorem nmX8 : ∀ a, a < 8 → ∀ b, b < 8 → a ≠ b → (TX8 a).2.1 ≠ (TX8 b).2.1 := by decide +kernel
theorem tyX8_ok : ∀ k, k < 8 → parseFieldDescriptor (TX8 k).2.2.1 = some (tyX8 k) := by decide +kernel
def RX9 : String := "PartedLandModel"
def TX9 : u_T := fun k => match k with
  | 0 => ("PartedLandModel", "grounds", "I", false)
  | 1 => ("PartedLandModel", "heads", "[I", true)
  | 2 => ("PartedLandModel", "worth", "[I", true)
  | 3 => ("PartedLandModel", "lands", "I", false)
  | 4 => ("PartedLandModel", "from", "[I", true)
  | 5 => ("PartedLandModel", "came", "[I", true)
  | 6 => ("PartedLandModel", "changes", "I", false)
  | 7 => ("PartedLandModel", "kind", "[I", true)
  | 8 => ("PartedLandModel", "day", "[I", true)
  | 9 => ("PartedLandModel", "first", "[I", true)
  | 10 => ("PartedLandModel", "second", "[I", true)
  | 11 => ("PartedLandModel", "set", "[I", true)
  | 12 => ("PartedLandModel", "fresh", "[I", true)
  | 13 => ("PartedLandModel", "owner", "[I", true)
  | 14 => ("PartedLandModel", "there", "[I", true)
  | 15 => ("PartedLandModel", "bytes", "I", false)
  | 16 => ("PartedLandModel", "text", "[I", true)
  | 17 => ("PartedLandModel", "position", "I", false)
  | 18 => ("PartedLandModel", "tokenAt", "I", false)
  | 19 => ("PartedLandModel", "token", "J", false)
  | 20 => ("PartedLandModel", "digits", "I", false)
  | 21 => ("PartedLandModel", "number", "I", false)
  | 22 => ("PartedLandModel", "faultAt", "I", false)
  | 23 => ("PartedLandModel", "readMany", "I", false)
  | 24 => ("PartedLandModel", "read", "[I", true)
  | 25 => ("PartedLandModel", "rule", "[I", true)
  | 26 => ("PartedLandModel", "pacts", "I", false)
  | 27 => ("PartedLandModel", "pactKind", "[I", true)
  | 28 => ("PartedLandModel", "pactLand", "[I", true)
  | 29 => ("PartedLandModel", "pactThird", "[I", true)
  | 30 => ("PartedLandModel", "pactGround", "[I", true)
  | 31 => ("PartedLandModel", "pactDay", "[I", true)
  | 32 => ("PartedLandModel", "words", "I", false)
  | 33 => ("PartedLandModel", "wordPact", "[I", true)
  | 34 => ("PartedLandModel", "wordLand", "[I", true)
  | 35 => ("PartedLandModel", "wordDay", "[I", true)
  | 36 => ("PartedLandModel", "isByThird", "[Z", true)
  | 37 => ("PartedLandModel", "isYes", "[Z", true)
  | 38 => ("PartedLandModel", "left", "I", false)
  | 39 => ("PartedLandModel", "voices", "I", false)
  | 40 => ("PartedLandModel", "voiceThird", "[I", true)
  | 41 => ("PartedLandModel", "voiceLand", "[I", true)
  | 42 => ("PartedLandModel", "voiceDay", "[I", true)
  | 43 => ("PartedLandModel", "isVoiceYes", "[Z", true)
  | 44 => ("PartedLandModel", "wasBound", "[Z", true)
  | 45 => ("PartedLandModel", "boundNow", "[I", true)
  | 46 => ("PartedLandModel", "debts", "I", false)
  | 47 => ("PartedLandModel", "debtLand", "[I", true)
  | 48 => ("PartedLandModel", "debtSum", "[I", true)
  | 49 => ("PartedLandModel", "debtGround", "[I", true)
  | 50 => ("PartedLandModel", "debtDay", "[I", true)
  | 51 => ("PartedLandModel", "things", "I", false)
  | 52 => ("PartedLandModel", "thingKind", "[I", true)
  | 53 => ("PartedLandModel", "thingMany", "[I", true)
  | 54 => ("PartedLandModel", "thingGround", "[I", true)
  | 55 => ("PartedLandModel", "pensioners", "I", false)
  | 56 => ("PartedLandModel", "whom", "[I", true)
  | 57 => ("PartedLandModel", "born", "[I", true)
  | 58 => ("PartedLandModel", "lives", "[I", true)
  | _ => ("PartedLandModel", "part", "[I", true)
def tyX9 : Nat → FieldType := fun k => match k with
  | 0 => .int
  | 1 => .array .int
  | 2 => .array .int
  | 3 => .int
  | 4 => .array .int
  | 5 => .array .int
  | 6 => .int
  | 7 => .array .int
  | 8 => .array .int
  | 9 => .array .int
  | 10 => .array .int
  | 11 => .array .int
  | 12 => .array .int
  | 13 => .array .int
  | 14 => .array .int
  | 15 => .int
  | 16 => .array .int
  | 17 => .int
  | 18 => .int
  | 19 => .long
  | 20 => .int
  | 21 => .int
  | 22 => .int
  | 23 => .int
  | 24 => .array .int
  | 25 => .array .int
  | 26 => .int
  | 27 => .array .int
  | 28 => .array .int
  | 29 => .array .int
  | 30 => .array .int
  | 31 => .array .int
  | 32 => .int
  | 33 => .array .int
  | 34 => .array .int
  | 35 => .array .int
  | 36 => .array .boolean
  | 37 => .array .boolean
  | 38 => .int
  | 39 => .int
  | 40 => .array .int
  | 41 => .array .int
  | 42 => .array .int
  | 43 => .array .boolean
  | 44 => .array .boolean
  | 45 => .array .int
  | 46 => .int
  | 47 => .array .int
  | 48 => .array .int
  | 49 => .array .int
  | 50 => .array .int
  | 51 => .int
  | 52 => .array .int
  | 53 => .array .int
  | 54 => .array .int
  | 55 => .int
  | 56 => .array .int
  | 57 => .array .int
  | 58 => .array .int
  | _ => .array .int
theorem nmX9 : ∀ a, a < 60 → ∀ b, b < 60 → a ≠ b → (TX9 a).2.1 ≠ (TX9 b).2.1 := by decide +kernel
theorem tyX9_ok : ∀ k, k < 60 → parseFieldDescriptor (TX9 k).2.2.1 = some (tyX9 k) := by decide +kernel
abbrev gcl : List vw_C := [(RX0, TX0, 1), (RX1, TX1, 12), (RX2, TX2, 17), (RX3, TX3, 13), (RX4, TX4, 4), (RX5, TX5, 7), (RX6, TX6, 5), (RX7, TX7, 6), (RX8, TX8, 8), (RX9, TX9, 60)]
abbrev cX0_init : ByteArray := prog_2_method_1_code
abbrev yX0_init : MethodName := ⟨"PartedLand$Days", "<init>", "()V"⟩
abbrev cX0_mark : ByteArray := prog_2_method_2_code
abbrev yX0_mark : MethodName := ⟨"PartedLand$Days", "mark", "(I)V"⟩
abbrev cX0_isMarked : ByteArray := prog_2_method_3_code
abbrev yX0_isMarked : MethodName := ⟨"PartedLand$Days", "isMarked", "(I)Z"⟩
abbrev cX1_init : ByteArray := prog_3_method_1_code
abbrev yX1_init : MethodName := ⟨"PartedLand$Goods", "<init>", "(LPartedLand$History;)V"⟩
abbrev cX1_knowsDebt : ByteArray := prog_3_method_2_code
abbrev yX1_knowsDebt : MethodName := ⟨"PartedLand$Goods", "knowsDebt", "(I)Z"⟩
abbrev cX1_knowsThing : ByteArray := prog_3_method_3_code
abbrev yX1_knowsThing : MethodName := ⟨"PartedLand$Goods", "knowsThing", "(I)Z"⟩
abbrev cX1_addDebt : ByteArray := prog_3_method_4_code
abbrev yX1_addDebt : MethodName := ⟨"PartedLand$Goods", "addDebt", "(IIII)I"⟩
abbrev cX1_addThing : ByteArray := prog_3_method_5_code
abbrev yX1_addThing : MethodName := ⟨"PartedLand$Goods", "addThing", "(III)I"⟩
abbrev cX1_owedBy : ByteArray := prog_3_method_6_code
abbrev yX1_owedBy : MethodName := ⟨"PartedLand$Goods", "owedBy", "(IIII)I"⟩
abbrev cX1_ownedBy : ByteArray := prog_3_method_7_code
abbrev yX1_ownedBy : MethodName := ⟨"PartedLand$Goods", "ownedBy", "(IIII)I"⟩
abbrev cX1_burdenOf : ByteArray := prog_3_method_8_code
abbrev yX1_burdenOf : MethodName := ⟨"PartedLand$Goods", "burdenOf", "(III)I"⟩
abbrev cX1_divide : ByteArray := prog_3_method_9_code
abbrev yX1_divide : MethodName := ⟨"PartedLand$Goods", "divide", "(IIIII)V"⟩
abbrev cX1_divideAt : ByteArray := prog_3_method_10_code
abbrev yX1_divideAt : MethodName := ⟨"PartedLand$Goods", "divideAt", "(II)V"⟩
abbrev cX1_partOfFirst : ByteArray := prog_3_method_11_code
abbrev yX1_partOfFirst : MethodName := ⟨"PartedLand$Goods", "partOfFirst", "(III)I"⟩
abbrev cX1_ownerAbroad : ByteArray := prog_3_method_12_code
abbrev yX1_ownerAbroad : MethodName := ⟨"PartedLand$Goods", "ownerAbroad", "(II)I"⟩
abbrev cX1_ownerAbroadBehind : ByteArray := prog_3_method_13_code
abbrev yX1_ownerAbroadBehind : MethodName := ⟨"PartedLand$Goods", "ownerAbroadBehind", "(II)I"⟩
abbrev cX1_key : ByteArray := prog_3_method_14_code
abbrev yX1_key : MethodName := ⟨"PartedLand$Goods", "key", "(III)I"⟩
abbrev cX2_init : ByteArray := prog_4_method_1_code
abbrev yX2_init : MethodName := ⟨"PartedLand$History", "<init>", "()V"⟩
abbrev cX2_knowsGround : ByteArray := prog_4_method_2_code
abbrev yX2_knowsGround : MethodName := ⟨"PartedLand$History", "knowsGround", "(I)Z"⟩
abbrev cX2_knowsLand : ByteArray := prog_4_method_3_code
abbrev yX2_knowsLand : MethodName := ⟨"PartedLand$History", "knowsLand", "(I)Z"⟩
abbrev cX2_addGround : ByteArray := prog_4_method_4_code
abbrev yX2_addGround : MethodName := ⟨"PartedLand$History", "addGround", "(II)I"⟩
abbrev cX2_latestDay : ByteArray := prog_4_method_5_code
abbrev yX2_latestDay : MethodName := ⟨"PartedLand$History", "latestDay", "()I"⟩
abbrev cX2_changesBy : ByteArray := prog_4_method_6_code
abbrev yX2_changesBy : MethodName := ⟨"PartedLand$History", "changesBy", "(I)I"⟩
abbrev cX2_isThere : ByteArray := prog_4_method_7_code
abbrev yX2_isThere : MethodName := ⟨"PartedLand$History", "isThere", "(II)Z"⟩
abbrev cX2_ownerOf : ByteArray := prog_4_method_8_code
abbrev yX2_ownerOf : MethodName := ⟨"PartedLand$History", "ownerOf", "(II)I"⟩
abbrev cX2_isSomeNotAll : ByteArray := prog_4_method_9_code
abbrev yX2_isSomeNotAll : MethodName := ⟨"PartedLand$History", "isSomeNotAll", "(II)Z"⟩
abbrev cX2_addChange : ByteArray := prog_4_method_10_code
abbrev yX2_addChange : MethodName := ⟨"PartedLand$History", "addChange", "(IIIII)I"⟩
abbrev cX2_partOff : ByteArray := prog_4_method_11_code
abbrev yX2_partOff : MethodName := ⟨"PartedLand$History", "partOff", "(II)V"⟩
abbrev cX2_fallApart : ByteArray := prog_4_method_12_code
abbrev yX2_fallApart : MethodName := ⟨"PartedLand$History", "fallApart", "(II)V"⟩
abbrev cX2_join : ByteArray := prog_4_method_13_code
abbrev yX2_join : MethodName := ⟨"PartedLand$History", "join", "(II)V"⟩
abbrev cX2_moveGrounds : ByteArray := prog_4_method_14_code
abbrev yX2_moveGrounds : MethodName := ⟨"PartedLand$History", "moveGrounds", "(III)V"⟩
abbrev cX2_comesOutOf : ByteArray := prog_4_method_15_code
abbrev yX2_comesOutOf : MethodName := ⟨"PartedLand$History", "comesOutOf", "(I)V"⟩
abbrev cX2_ends : ByteArray := prog_4_method_16_code
abbrev yX2_ends : MethodName := ⟨"PartedLand$History", "ends", "(I)V"⟩
abbrev cX2_heirOf : ByteArray := prog_4_method_17_code
abbrev yX2_heirOf : MethodName := ⟨"PartedLand$History", "heirOf", "(II)I"⟩
abbrev cX2_nextHeir : ByteArray := prog_4_method_18_code
abbrev yX2_nextHeir : MethodName := ⟨"PartedLand$History", "nextHeir", "(I)I"⟩
abbrev cX2_saidSame : ByteArray := prog_4_method_19_code
abbrev yX2_saidSame : MethodName := ⟨"PartedLand$History", "saidSame", "(II)Z"⟩
abbrev cX2_sumOf : ByteArray := prog_4_method_20_code
abbrev yX2_sumOf : MethodName := ⟨"PartedLand$History", "sumOf", "([II)I"⟩
abbrev cX3_init : ByteArray := prog_5_method_1_code
abbrev yX3_init : MethodName := ⟨"PartedLand$Pacts", "<init>", "(LPartedLand$History;LPartedLand$Text;LPartedLand$Words;LPartedLand$Voices;)V"⟩
abbrev cX3_knowsPact : ByteArray := prog_5_method_2_code
abbrev yX3_knowsPact : MethodName := ⟨"PartedLand$Pacts", "knowsPact", "(I)Z"⟩
abbrev cX3_addPact : ByteArray := prog_5_method_3_code
abbrev yX3_addPact : MethodName := ⟨"PartedLand$Pacts", "addPact", "(IIII)I"⟩
abbrev cX3_boundOn : ByteArray := prog_5_method_4_code
abbrev yX3_boundOn : MethodName := ⟨"PartedLand$Pacts", "boundOn", "(III)I"⟩
abbrev cX3_boundByRank : ByteArray := prog_5_method_5_code
abbrev yX3_boundByRank : MethodName := ⟨"PartedLand$Pacts", "boundByRank", "(III)I"⟩
abbrev cX3_boundByTrade : ByteArray := prog_5_method_6_code
abbrev yX3_boundByTrade : MethodName := ⟨"PartedLand$Pacts", "boundByTrade", "(III)I"⟩
abbrev cX3_handOn : ByteArray := prog_5_method_7_code
abbrev yX3_handOn : MethodName := ⟨"PartedLand$Pacts", "handOn", "(III)V"⟩
abbrev cX3_isHeld : ByteArray := prog_5_method_8_code
abbrev yX3_isHeld : MethodName := ⟨"PartedLand$Pacts", "isHeld", "(IIII)Z"⟩
abbrev cX3_turnsOn : ByteArray := prog_5_method_9_code
abbrev yX3_turnsOn : MethodName := ⟨"PartedLand$Pacts", "turnsOn", "(I)I"⟩
abbrev cX3_dayOfMostTurns : ByteArray := prog_5_method_10_code
abbrev yX3_dayOfMostTurns : MethodName := ⟨"PartedLand$Pacts", "dayOfMostTurns", "(ILPartedLand$Days;)I"⟩
abbrev cX3_turnsSinceAhead : ByteArray := prog_5_method_11_code
abbrev yX3_turnsSinceAhead : MethodName := ⟨"PartedLand$Pacts", "turnsSinceAhead", "(I)I"⟩
abbrev cX3_fewestLeftOut : ByteArray := prog_5_method_12_code
abbrev yX3_fewestLeftOut : MethodName := ⟨"PartedLand$Pacts", "fewestLeftOut", "(IIIZ)I"⟩
abbrev cX4_init : ByteArray := prog_6_method_1_code
abbrev yX4_init : MethodName := ⟨"PartedLand$Pensioners", "<init>", "()V"⟩
abbrev cX4_knowsPensioner : ByteArray := prog_6_method_2_code
abbrev yX4_knowsPensioner : MethodName := ⟨"PartedLand$Pensioners", "knowsPensioner", "(I)Z"⟩
abbrev cX4_addPensioner : ByteArray := prog_6_method_3_code
abbrev yX4_addPensioner : MethodName := ⟨"PartedLand$Pensioners", "addPensioner", "(III)I"⟩
abbrev cX5_init : ByteArray := prog_7_method_1_code
abbrev yX5_init : MethodName := ⟨"PartedLand$Text", "<init>", "()V"⟩
abbrev cX5_append : ByteArray := prog_7_method_2_code
abbrev yX5_append : MethodName := ⟨"PartedLand$Text", "append", "(JI)I"⟩
abbrev cX5_empty : ByteArray := prog_7_method_3_code
abbrev yX5_empty : MethodName := ⟨"PartedLand$Text", "empty", "()I"⟩
abbrev cX5_takeAsRules : ByteArray := prog_7_method_4_code
abbrev yX5_takeAsRules : MethodName := ⟨"PartedLand$Text", "takeAsRules", "()I"⟩
abbrev cX5_firstFault : ByteArray := prog_7_method_5_code
abbrev yX5_firstFault : MethodName := ⟨"PartedLand$Text", "firstFault", "()I"⟩
abbrev cX5_readLine : ByteArray := prog_7_method_6_code
abbrev yX5_readLine : MethodName := ⟨"PartedLand$Text", "readLine", "()Z"⟩
abbrev cX5_put : ByteArray := prog_7_method_7_code
abbrev yX5_put : MethodName := ⟨"PartedLand$Text", "put", "(II)Z"⟩
abbrev cX5_readSilence : ByteArray := prog_7_method_8_code
abbrev yX5_readSilence : MethodName := ⟨"PartedLand$Text", "readSilence", "()Z"⟩
abbrev cX5_readChoice : ByteArray := prog_7_method_9_code
abbrev yX5_readChoice : MethodName := ⟨"PartedLand$Text", "readChoice", "(ILjava/lang/String;Ljava/lang/String;Ljava/lang/String;)Z"⟩
abbrev cX5_readNumber : ByteArray := prog_7_method_10_code
abbrev yX5_readNumber : MethodName := ⟨"PartedLand$Text", "readNumber", "()Z"⟩
abbrev cX5_nextToken : ByteArray := prog_7_method_11_code
abbrev yX5_nextToken : MethodName := ⟨"PartedLand$Text", "nextToken", "()V"⟩
abbrev cX5_isLetter : ByteArray := prog_7_method_12_code
abbrev yX5_isLetter : MethodName := ⟨"PartedLand$Text", "isLetter", "(I)Z"⟩
abbrev cX5_isDigit : ByteArray := prog_7_method_13_code
abbrev yX5_isDigit : MethodName := ⟨"PartedLand$Text", "isDigit", "(I)Z"⟩
abbrev cX5_isWord : ByteArray := prog_7_method_14_code
abbrev yX5_isWord : MethodName := ⟨"PartedLand$Text", "isWord", "(Ljava/lang/String;)Z"⟩
abbrev cX6_init : ByteArray := prog_8_method_1_code
abbrev yX6_init : MethodName := ⟨"PartedLand$Voices", "<init>", "()V"⟩
abbrev cX6_addVoice : ByteArray := prog_8_method_2_code
abbrev yX6_addVoice : MethodName := ⟨"PartedLand$Voices", "addVoice", "(IIZI)I"⟩
abbrev cX6_moreYesThanNo : ByteArray := prog_8_method_3_code
abbrev yX6_moreYesThanNo : MethodName := ⟨"PartedLand$Voices", "moreYesThanNo", "(II)Z"⟩
abbrev cX6_latest : ByteArray := prog_8_method_4_code
abbrev yX6_latest : MethodName := ⟨"PartedLand$Voices", "latest", "(III)I"⟩
abbrev cX7_init : ByteArray := prog_9_method_1_code
abbrev yX7_init : MethodName := ⟨"PartedLand$Words", "<init>", "()V"⟩
abbrev cX7_addWord : ByteArray := prog_9_method_2_code
abbrev yX7_addWord : MethodName := ⟨"PartedLand$Words", "addWord", "(IIZZI)I"⟩
abbrev cX7_latest : ByteArray := prog_9_method_3_code
abbrev yX7_latest : MethodName := ⟨"PartedLand$Words", "latest", "(IIZII)I"⟩
abbrev cX7_firstYes : ByteArray := prog_9_method_4_code
abbrev yX7_firstYes : MethodName := ⟨"PartedLand$Words", "firstYes", "(III)I"⟩
abbrev cX7_firstWordsAbout : ByteArray := prog_9_method_5_code
abbrev yX7_firstWordsAbout : MethodName := ⟨"PartedLand$Words", "firstWordsAbout", "(I)I"⟩
abbrev cX8_init : ByteArray := prog_1_method_1_code
abbrev yX8_init : MethodName := ⟨"PartedLand", "<init>", "()V"⟩
abbrev cX8_ground : ByteArray := prog_1_method_2_code
abbrev yX8_ground : MethodName := ⟨"PartedLand", "ground", "(II)I"⟩
abbrev cX8_change : ByteArray := prog_1_method_3_code
abbrev yX8_change : MethodName := ⟨"PartedLand", "change", "(IIIII)I"⟩
abbrev cX8_lands : ByteArray := prog_1_method_4_code
abbrev yX8_lands : MethodName := ⟨"PartedLand", "lands", "(I)I"⟩
abbrev cX8_has : ByteArray := prog_1_method_5_code
abbrev yX8_has : MethodName := ⟨"PartedLand", "has", "(II)I"⟩
abbrev cX8_whose : ByteArray := prog_1_method_6_code
abbrev yX8_whose : MethodName := ⟨"PartedLand", "whose", "(II)I"⟩
abbrev cX8_from : ByteArray := prog_1_method_7_code
abbrev yX8_from : MethodName := ⟨"PartedLand", "from", "(II)I"⟩
abbrev cX8_heir : ByteArray := prog_1_method_8_code
abbrev yX8_heir : MethodName := ⟨"PartedLand", "heir", "(II)I"⟩
abbrev cX8_write : ByteArray := prog_1_method_9_code
abbrev yX8_write : MethodName := ⟨"PartedLand", "write", "(JI)I"⟩
abbrev cX8_erase : ByteArray := prog_1_method_10_code
abbrev yX8_erase : MethodName := ⟨"PartedLand", "erase", "()I"⟩
abbrev cX8_fault : ByteArray := prog_1_method_11_code
abbrev yX8_fault : MethodName := ⟨"PartedLand", "fault", "()I"⟩
abbrev cX8_rules : ByteArray := prog_1_method_12_code
abbrev yX8_rules : MethodName := ⟨"PartedLand", "rules", "()I"⟩
abbrev cX8_rule : ByteArray := prog_1_method_13_code
abbrev yX8_rule : MethodName := ⟨"PartedLand", "rule", "(I)I"⟩
abbrev cX8_pact : ByteArray := prog_1_method_14_code
abbrev yX8_pact : MethodName := ⟨"PartedLand", "pact", "(IIIII)I"⟩
abbrev cX8_word : ByteArray := prog_1_method_15_code
abbrev yX8_word : MethodName := ⟨"PartedLand", "word", "(IIZZI)I"⟩
abbrev cX8_voice : ByteArray := prog_1_method_16_code
abbrev yX8_voice : MethodName := ⟨"PartedLand", "voice", "(IIZI)I"⟩
abbrev cX8_bound : ByteArray := prog_1_method_17_code
abbrev yX8_bound : MethodName := ⟨"PartedLand", "bound", "(II)I"⟩
abbrev cX8_since : ByteArray := prog_1_method_18_code
abbrev yX8_since : MethodName := ⟨"PartedLand", "since", "(II)I"⟩
abbrev cX8_debt : ByteArray := prog_1_method_19_code
abbrev yX8_debt : MethodName := ⟨"PartedLand", "debt", "(IIII)I"⟩
abbrev cX8_owes : ByteArray := prog_1_method_20_code
abbrev yX8_owes : MethodName := ⟨"PartedLand", "owes", "(III)I"⟩
abbrev cX8_thing : ByteArray := prog_1_method_21_code
abbrev yX8_thing : MethodName := ⟨"PartedLand", "thing", "(III)I"⟩
abbrev cX8_owns : ByteArray := prog_1_method_22_code
abbrev yX8_owns : MethodName := ⟨"PartedLand", "owns", "(III)I"⟩
abbrev cX8_served : ByteArray := prog_1_method_23_code
abbrev yX8_served : MethodName := ⟨"PartedLand", "served", "(III)I"⟩
abbrev cX8_paid : ByteArray := prog_1_method_24_code
abbrev yX8_paid : MethodName := ⟨"PartedLand", "paid", "(II)I"⟩
abbrev cX8_hangs : ByteArray := prog_1_method_25_code
abbrev yX8_hangs : MethodName := ⟨"PartedLand", "hangs", "(II)I"⟩
abbrev cX8_without : ByteArray := prog_1_method_26_code
abbrev yX8_without : MethodName := ⟨"PartedLand", "without", "(IIIZ)I"⟩
abbrev cX8_burden : ByteArray := prog_1_method_27_code
abbrev yX8_burden : MethodName := ⟨"PartedLand", "burden", "(III)I"⟩
abbrev cX8_best : ByteArray := prog_1_method_28_code
abbrev yX8_best : MethodName := ⟨"PartedLand", "best", "(II)I"⟩
abbrev cX8_count : ByteArray := prog_1_method_29_code
abbrev yX8_count : MethodName := ⟨"PartedLand", "count", "(I)I"⟩
abbrev cX8_mayChangeOn : ByteArray := prog_1_method_30_code
abbrev yX8_mayChangeOn : MethodName := ⟨"PartedLand", "mayChangeOn", "(I)Z"⟩
abbrev cX8_landsThatCome : ByteArray := prog_1_method_31_code
abbrev yX8_landsThatCome : MethodName := ⟨"PartedLand", "landsThatCome", "(I)I"⟩
abbrev cX8_isDay : ByteArray := prog_1_method_32_code
abbrev yX8_isDay : MethodName := ⟨"PartedLand", "isDay", "(I)Z"⟩
abbrev cX8_isThird : ByteArray := prog_1_method_33_code
abbrev yX8_isThird : MethodName := ⟨"PartedLand", "isThird", "(I)Z"⟩
abbrev cX8_isIn : ByteArray := prog_1_method_34_code
abbrev yX8_isIn : MethodName := ⟨"PartedLand", "isIn", "(II)Z"⟩
abbrev cX9_init : ByteArray := prog_11_method_1_code
abbrev yX9_init : MethodName := ⟨"PartedLandModel", "<init>", "()V"⟩
abbrev cX9_firstRules : ByteArray := prog_11_method_2_code
abbrev yX9_firstRules : MethodName := ⟨"PartedLandModel", "firstRules", "([I)V"⟩
abbrev cX9_in : ByteArray := prog_11_method_3_code
abbrev yX9_in : MethodName := ⟨"PartedLandModel", "in", "(III)Z"⟩
abbrev cX9_isGround : ByteArray := prog_11_method_4_code
abbrev yX9_isGround : MethodName := ⟨"PartedLandModel", "isGround", "(I)Z"⟩
abbrev cX9_isLand : ByteArray := prog_11_method_5_code
abbrev yX9_isLand : MethodName := ⟨"PartedLandModel", "isLand", "(I)Z"⟩
abbrev cX9_isThird : ByteArray := prog_11_method_6_code
abbrev yX9_isThird : MethodName := ⟨"PartedLandModel", "isThird", "(I)Z"⟩
abbrev cX9_isDay : ByteArray := prog_11_method_7_code
abbrev yX9_isDay : MethodName := ⟨"PartedLandModel", "isDay", "(I)Z"⟩
abbrev cX9_ground : ByteArray := prog_11_method_8_code
abbrev yX9_ground : MethodName := ⟨"PartedLandModel", "ground", "(II)I"⟩
abbrev cX9_groundsOf : ByteArray := prog_11_method_9_code
abbrev yX9_groundsOf : MethodName := ⟨"PartedLandModel", "groundsOf", "(II)I"⟩
abbrev cX9_isThere : ByteArray := prog_11_method_10_code
abbrev yX9_isThere : MethodName := ⟨"PartedLandModel", "isThere", "(II)Z"⟩
abbrev cX9_isSome : ByteArray := prog_11_method_11_code
abbrev yX9_isSome : MethodName := ⟨"PartedLandModel", "isSome", "(II)Z"⟩
abbrev cX9_isLate : ByteArray := prog_11_method_12_code
abbrev yX9_isLate : MethodName := ⟨"PartedLandModel", "isLate", "(I)Z"⟩
abbrev cX9_change : ByteArray := prog_11_method_13_code
abbrev yX9_change : MethodName := ⟨"PartedLandModel", "change", "(IIIII)I"⟩
abbrev cX9_doLast : ByteArray := prog_11_method_14_code
abbrev yX9_doLast : MethodName := ⟨"PartedLandModel", "doLast", "(IIII)V"⟩
abbrev cX9_doneBy : ByteArray := prog_11_method_15_code
abbrev yX9_doneBy : MethodName := ⟨"PartedLandModel", "doneBy", "(I)I"⟩
abbrev cX9_lands : ByteArray := prog_11_method_16_code
abbrev yX9_lands : MethodName := ⟨"PartedLandModel", "lands", "(I)I"⟩
abbrev cX9_has : ByteArray := prog_11_method_17_code
abbrev yX9_has : MethodName := ⟨"PartedLandModel", "has", "(II)I"⟩
abbrev cX9_whose : ByteArray := prog_11_method_18_code
abbrev yX9_whose : MethodName := ⟨"PartedLandModel", "whose", "(II)I"⟩
abbrev cX9_from : ByteArray := prog_11_method_19_code
abbrev yX9_from : MethodName := ⟨"PartedLandModel", "from", "(II)I"⟩
abbrev cX9_headsOf : ByteArray := prog_11_method_20_code
abbrev yX9_headsOf : MethodName := ⟨"PartedLandModel", "headsOf", "(I)I"⟩
abbrev cX9_worthOf : ByteArray := prog_11_method_21_code
abbrev yX9_worthOf : MethodName := ⟨"PartedLandModel", "worthOf", "(I)I"⟩
abbrev cX9_comesBy : ByteArray := prog_11_method_22_code
abbrev yX9_comesBy : MethodName := ⟨"PartedLandModel", "comesBy", "(II)Z"⟩
abbrev cX9_heirOf : ByteArray := prog_11_method_23_code
abbrev yX9_heirOf : MethodName := ⟨"PartedLandModel", "heirOf", "(II)I"⟩
abbrev cX9_heir : ByteArray := prog_11_method_24_code
abbrev yX9_heir : MethodName := ⟨"PartedLandModel", "heir", "(II)I"⟩
abbrev cX9_write : ByteArray := prog_11_method_25_code
abbrev yX9_write : MethodName := ⟨"PartedLandModel", "write", "(JI)I"⟩
abbrev cX9_erase : ByteArray := prog_11_method_26_code
abbrev yX9_erase : MethodName := ⟨"PartedLandModel", "erase", "()I"⟩
abbrev cX9_nextToken : ByteArray := prog_11_method_27_code
abbrev yX9_nextToken : MethodName := ⟨"PartedLandModel", "nextToken", "()V"⟩
abbrev cX9_fails : ByteArray := prog_11_method_28_code
abbrev yX9_fails : MethodName := ⟨"PartedLandModel", "fails", "()Z"⟩
abbrev cX9_isOf : ByteArray := prog_11_method_29_code
abbrev yX9_isOf : MethodName := ⟨"PartedLandModel", "isOf", "(IJJJ)Z"⟩
abbrev cX9_isLine : ByteArray := prog_11_method_30_code
abbrev yX9_isLine : MethodName := ⟨"PartedLandModel", "isLine", "()Z"⟩
abbrev cX9_isRead : ByteArray := prog_11_method_31_code
abbrev yX9_isRead : MethodName := ⟨"PartedLandModel", "isRead", "()Z"⟩
abbrev cX9_fault : ByteArray := prog_11_method_32_code
abbrev yX9_fault : MethodName := ⟨"PartedLandModel", "fault", "()I"⟩
abbrev cX9_rules : ByteArray := prog_11_method_33_code
abbrev yX9_rules : MethodName := ⟨"PartedLandModel", "rules", "()I"⟩
abbrev cX9_rule : ByteArray := prog_11_method_34_code
abbrev yX9_rule : MethodName := ⟨"PartedLandModel", "rule", "(I)I"⟩
abbrev cX9_pact : ByteArray := prog_11_method_35_code
abbrev yX9_pact : MethodName := ⟨"PartedLandModel", "pact", "(IIIII)I"⟩
abbrev cX9_isPact : ByteArray := prog_11_method_36_code
abbrev yX9_isPact : MethodName := ⟨"PartedLandModel", "isPact", "(I)Z"⟩
abbrev cX9_word : ByteArray := prog_11_method_37_code
abbrev yX9_word : MethodName := ⟨"PartedLandModel", "word", "(IIZZI)I"⟩
abbrev cX9_voice : ByteArray := prog_11_method_38_code
abbrev yX9_voice : MethodName := ⟨"PartedLandModel", "voice", "(IIZI)I"⟩
abbrev cX9_latest : ByteArray := prog_11_method_39_code
abbrev yX9_latest : MethodName := ⟨"PartedLandModel", "latest", "(IIZI)I"⟩
abbrev cX9_firstYes : ByteArray := prog_11_method_40_code
abbrev yX9_firstYes : MethodName := ⟨"PartedLandModel", "firstYes", "(III)I"⟩
abbrev cX9_doWordsLet : ByteArray := prog_11_method_41_code
abbrev yX9_doWordsLet : MethodName := ⟨"PartedLandModel", "doWordsLet", "(III)Z"⟩
abbrev cX9_isBound : ByteArray := prog_11_method_42_code
abbrev yX9_isBound : MethodName := ⟨"PartedLandModel", "isBound", "(IIIII)Z"⟩
abbrev cX9_byTrade : ByteArray := prog_11_method_43_code
abbrev yX9_byTrade : MethodName := ⟨"PartedLandModel", "byTrade", "(III)I"⟩
abbrev cX9_isRecognized : ByteArray := prog_11_method_44_code
abbrev yX9_isRecognized : MethodName := ⟨"PartedLandModel", "isRecognized", "(II)Z"⟩
abbrev cX9_byRank : ByteArray := prog_11_method_45_code
abbrev yX9_byRank : MethodName := ⟨"PartedLandModel", "byRank", "(III)I"⟩
abbrev cX9_boundOf : ByteArray := prog_11_method_46_code
abbrev yX9_boundOf : MethodName := ⟨"PartedLandModel", "boundOf", "(II)I"⟩
abbrev cX9_bound : ByteArray := prog_11_method_47_code
abbrev yX9_bound : MethodName := ⟨"PartedLandModel", "bound", "(II)I"⟩
abbrev cX9_since : ByteArray := prog_11_method_48_code
abbrev yX9_since : MethodName := ⟨"PartedLandModel", "since", "(II)I"⟩
abbrev cX9_debt : ByteArray := prog_11_method_49_code
abbrev yX9_debt : MethodName := ⟨"PartedLandModel", "debt", "(IIII)I"⟩
abbrev cX9_keyOf : ByteArray := prog_11_method_50_code
abbrev yX9_keyOf : MethodName := ⟨"PartedLandModel", "keyOf", "(III)I"⟩
abbrev cX9_shareAt : ByteArray := prog_11_method_51_code
abbrev yX9_shareAt : MethodName := ⟨"PartedLandModel", "shareAt", "(II)V"⟩
abbrev cX9_abroadAt : ByteArray := prog_11_method_52_code
abbrev yX9_abroadAt : MethodName := ⟨"PartedLandModel", "abroadAt", "(II)V"⟩
abbrev cX9_beginPart : ByteArray := prog_11_method_53_code
abbrev yX9_beginPart : MethodName := ⟨"PartedLandModel", "beginPart", "(II)V"⟩
abbrev cX9_owesOf : ByteArray := prog_11_method_54_code
abbrev yX9_owesOf : MethodName := ⟨"PartedLandModel", "owesOf", "(IIII)I"⟩
abbrev cX9_owes : ByteArray := prog_11_method_55_code
abbrev yX9_owes : MethodName := ⟨"PartedLandModel", "owes", "(III)I"⟩
abbrev cX9_thing : ByteArray := prog_11_method_56_code
abbrev yX9_thing : MethodName := ⟨"PartedLandModel", "thing", "(III)I"⟩
abbrev cX9_ownsOf : ByteArray := prog_11_method_57_code
abbrev yX9_ownsOf : MethodName := ⟨"PartedLandModel", "ownsOf", "(IIII)I"⟩
abbrev cX9_owns : ByteArray := prog_11_method_58_code
abbrev yX9_owns : MethodName := ⟨"PartedLandModel", "owns", "(III)I"⟩
abbrev cX9_served : ByteArray := prog_11_method_59_code
abbrev yX9_served : MethodName := ⟨"PartedLandModel", "served", "(III)I"⟩
abbrev cX9_paid : ByteArray := prog_11_method_60_code
abbrev yX9_paid : MethodName := ⟨"PartedLandModel", "paid", "(II)I"⟩
abbrev cX9_bits : ByteArray := prog_11_method_61_code
abbrev yX9_bits : MethodName := ⟨"PartedLandModel", "bits", "(I)I"⟩
abbrev cX9_findBound : ByteArray := prog_11_method_62_code
abbrev yX9_findBound : MethodName := ⟨"PartedLandModel", "findBound", "(I)V"⟩
abbrev cX9_hangs : ByteArray := prog_11_method_63_code
abbrev yX9_hangs : MethodName := ⟨"PartedLandModel", "hangs", "(II)I"⟩
abbrev cX9_without : ByteArray := prog_11_method_64_code
abbrev yX9_without : MethodName := ⟨"PartedLandModel", "without", "(IIIZ)I"⟩
abbrev cX9_burdenOf : ByteArray := prog_11_method_65_code
abbrev yX9_burdenOf : MethodName := ⟨"PartedLandModel", "burdenOf", "(III)I"⟩
abbrev cX9_burden : ByteArray := prog_11_method_66_code
abbrev yX9_burden : MethodName := ⟨"PartedLandModel", "burden", "(III)I"⟩
abbrev cX9_best : ByteArray := prog_11_method_67_code
abbrev yX9_best : MethodName := ⟨"PartedLandModel", "best", "(II)I"⟩
abbrev cX9_count : ByteArray := prog_11_method_68_code
abbrev yX9_count : MethodName := ⟨"PartedLandModel", "count", "(I)I"⟩
/-- the words that every method is proved over -/
def gAW : List Cond := lw_tbl.filter goodWord
theorem gAW_in {w : Cond} (h : w ∈ lw_tbl) (g : goodWord w = true) : w ∈ gAW := List.mem_filter.mpr ⟨h, g⟩
theorem gAW_good : GoodIn gAW gAW := fun w h => ⟨h, good_of_word (List.mem_filter.mp h).2⟩
theorem gAW_cons {w : Cond} (h : w ∈ gAW) : GoodIn gAW (w :: gAW) := fun x hx => by
  rcases List.mem_cons.mp hx with rfl | hx
  · exact gAW_good _ h
  · exact gAW_good _ hx
theorem gAW_at {w : Cond} (i : Nat) (h : tables_1[i]? = some w) (g : goodWord w = true) : w ∈ gAW := gAW_in (List.mem_append_right _ (List.mem_of_getElem? h)) g
theorem gAW_sel {w : Cond} (i : Nat) (h : (k2_sels lw_privs)[i]? = some w) (g : goodWord w = true) : w ∈ gAW := gAW_in (List.mem_append_left _ (List.mem_of_getElem? h)) g
